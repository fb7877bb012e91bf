/-! silence -/
section SL
variable {S : et_T}
theorem pop_k : ∀ k n, pop k n ≤ k := fun k n => by
  induction k with
  | zero => exact Nat.le_refl _
  | succ k ih => show pop k n + n / 2 ^ k % 2 ≤ k + 1; omega
def slX (S : et_T) (x s : Nat) : Prop := s < S 61 50 ∧ ¬ nS x (S 84 (5 * s))
def slP (S : et_T) (p t x : Nat) : Prop := ¬ a_td S (a_TT S (slX S x) a_no) p 23 t 0
def slO (S : et_T) (p i : Nat) : Prop := i < S 61 4 ∧ i ≠ p
def slG (S : et_T) (p t x : Nat) : Prop := ¬ nS x p ∧ slP S p t x
theorem slO_b {p x : Nat} (hP : S 61 4 ≤ 6) : x &&& nM (slO S p) = x ↔ (x < 2 ^ S 61 4 ∧ ¬ nS x p) := by
  have lO : nM (slO S p) < 2 ^ S 61 4 := nM_lt fun i _ z => z.1
  constructor
  · intro h
    have hl := Nat.lt_of_le_of_lt (show x ≤ nM (slO S p) by rw [← h]; exact Nat.and_le_right) lO
    refine ⟨hl, fun z => ?_⟩
    have := sub_t h p z
    have hp : p < 32 := by
      rcases Nat.lt_or_ge p 32 with q | q
      · exact q
      · rw [big_f lO (by omega)] at this; cases this
    exact ((nM_b _ hp).mp this).2 rfl
  · rintro ⟨h1, h2⟩
    refine sub_of fun i hi => ?_
    have hi6 : i < S 61 4 := by
      rcases Nat.lt_or_ge i (S 61 4) with q | q
      · exact q
      · rw [big_f h1 q] at hi; cases hi
    exact (nM_b _ (by omega)).mpr ⟨hi6, fun e => h2 (by subst e; exact hi)⟩
theorem slG_all {p t : Nat} (hP : S 61 4 ≤ 6) (hl : wf_led S) : slG S p t (nM (slO S p)) := by
  refine ⟨((slO_b (x := nM (slO S p)) hP).mp (Nat.and_self _)).2, fun ⟨s, s1, s2, _⟩ => ?_⟩
  have a := (a_HH_n s1.1).2
  refine a.2 ?_
  have := (hl.2 s a.1).1
  exact (nM_b _ (by omega)).mpr ⟨this, s2.2.2.1⟩
theorem it_c {g0 : et_G} (A : gA S g0) (L : gL S g0) {p t x : Nat} (hx : x < 2 ^ 32) : ev_Q (fn_Gr_isTold (mI (fun s => a_hr S p 23 s ∧ a_ab S t 0 s)) (nI x) g0) (fun v g => v = bI (¬ slP S p t x) ∧ fq wr_3 g0 g) := by
  obtain ⟨n0, hn⟩ := gA_n A
  have c := gA_c A
  unfold fn_Gr_isTold
  refine lp0 (fun m i (y : Int32) => fn_Gr_isTold_5 (mI (fun s => a_hr S p 23 s ∧ a_ab S t 0 s)) (nI x) m y i g0) (fun o => ev_Q o (fun v g => v = bI (¬ slP S p t x) ∧ fq wr_3 g0 g)) (S 61 50) (by omega) (fun k y => y = mI (fun s => s < k ∧ ¬ nS x (S 84 (5 * s)))) 0 (by rw [mI_0]; exact mI_c fun i _ => ⟨fun z => z.elim, fun z => by omega⟩) ?_ ?_
  · intro m y h
    show ev_Q (fn_Gr_isTold_5 _ _ (m + 1) y (nI (S 61 50)) g0) _
    rw [fn_Gr_isTold_5, n0, if_pos (nI_le (Nat.le_refl _) (by omega)), h]
    unfold fn_Gr_isTold_47
    have r := ri_c A L (slX S x) a_no
    rw [show mI a_no = (0 : Int32) from mI_0.symm] at r
    refine ev_d r (fun _ g1 ⟨R1, f1⟩ => ?_)
    rw [R1.2.1, mI_and]
    by_cases q : slP S p t x
    · rw [if_pos (show _ = (0 : Int32) from mI_z.mpr fun s _ z => q ⟨s, z.1, z.2.1, z.2.2⟩)]
      exact ev_r ⟨by rw [bI_f (fun z => z q)]; rfl, f1⟩
    · rw [if_neg (show ¬ _ = (0 : Int32) from fun e => q fun ⟨s, s1, s2, s3⟩ => mI_z.mp e s (by have := s3.1; omega) ⟨s1, s2, s3⟩)]
      exact ev_r ⟨by rw [bI_t q]; rfl, f1⟩
  · intro m k y hk h ih
    show ev_Q (fn_Gr_isTold_5 _ _ (m + 1) y (nI k) g0) _
    obtain ⟨e1, -, -, -, -⟩ := gA_s A hk
    have w1 := (gA_w A hk).1
    rw [fn_Gr_isTold_5, n0, if_neg (nI_ge hk (by omega))]
    simp (disch := omega) only [ni_of, nI_clamp, ib_e, ck_t, bd_s, et_b, nI_add, if_p, ni_eq, ni_lt, ni_le, b_e0, b_e1, io_n, e1, hb_n]
    by_cases q : x.testBit (S 84 (5 * k)) = true
    · rw [io_t q]; exact ih _ (by rw [h]; exact mI_k0 (P := fun s => ¬ nS x (S 84 (5 * s))) (fun z => z q))
    · rw [io_f q]; exact ih _ (by rw [h]; exact mI_k1 (P := fun s => ¬ nS x (S 84 (5 * s))) (by omega) q)
theorem fs_69 {g0 : et_G} (A : gA S g0) (L : gL S g0) {p t few : Nat} (hp : p < S 61 4) (hf : few < pop 31 (nM (slO S p))) {y0 : Nat} (F : fst (slG S p t) (2 ^ S 61 4) y0)
    (hpre : ∀ x, x &&& nM (slO S p) = x → pop 31 x < few → ¬ slP S p t x) (r56 : Int32 → et_G → Option (Int32 × et_G)) (R : Int32 → et_G → Prop)
    (kk : ∀ g, fq wr_3 g0 g → (∀ x, x &&& nM (slO S p) = x → pop 31 x < few + 1 → ¬ slP S p t x) → ev_Q (r56 (nI (few + 1)) g) R)
    (kf : ∀ g, fq wr_3 g0 g → R (nI y0) g) (g : et_G) (fg : fq wr_3 g0 g) : ev_Q (fn_Gr_fewestSilent_69 r56 (mI (fun s => a_hr S p 23 s ∧ a_ab S t 0 s)) (mI (slO S p)) (nI (pop 31 (nM (slO S p)))) (nI few) 1000000 0 0 g) R := by
  have c := gA_c A
  have p6 : (2 : Nat) ^ S 61 4 ≤ 2 ^ 6 := Nat.pow_le_pow_right (by decide) (by omega)
  have hH : nM (slO S p) < 2 ^ S 61 4 := nM_lt fun i _ z => z.1
  have pH : pop 31 (nM (slO S p)) ≤ 6 := by
    have a : pop 31 (nM (slO S p)) = pop 6 (nM (slO S p)) := pop_hi (k := 6) (by omega) 25
    rw [a]; exact pop_k 6 _
  have p2 : (2 : Nat) ^ pop 31 (nM (slO S p)) ≤ 2 ^ 6 := Nat.pow_le_pow_right (by decide) pH
  have e32 : pop 32 (nM (slO S p)) = pop 31 (nM (slO S p)) := pop_31 (by omega)
  have xl : ∀ x, x &&& nM (slO S p) = x → x < 2 ^ S 61 4 := fun x h => Nat.lt_of_le_of_lt (by rw [← h]; exact Nat.and_le_right) hH
  have rl : ∀ x, rk 32 (nM (slO S p)) x < 2 ^ pop 31 (nM (slO S p)) := fun x => by rw [← e32]; exact rk_lt 32 _ x
  refine lp0 (fun m k (s : Int32 × et_G) => fn_Gr_fewestSilent_69 r56 (mI (fun s => a_hr S p 23 s ∧ a_ab S t 0 s)) (mI (slO S p)) (nI (pop 31 (nM (slO S p)))) (nI few) m s.1 k s.2) (fun o => ev_Q o R) (2 ^ pop 31 (nM (slO S p))) (by omega)
    (fun k s => fq wr_3 g0 s.2 ∧ (∀ x, x &&& nM (slO S p) = x → rk 32 (nM (slO S p)) x < k → pop 31 x = few → ¬ slP S p t x) ∧ (k < 2 ^ pop 31 (nM (slO S p)) → ∃ m, s.1 = nI m ∧ m &&& nM (slO S p) = m ∧ rk 32 (nM (slO S p)) m = k)) (0, g) ⟨fg, fun x _ h => by omega, fun _ => ⟨0, rfl, Nat.zero_and _, ?_⟩⟩ ?_ ?_
  · have key : ∀ N H, rk N H 0 = 0 := fun N => by
      induction N with
      | zero => intro H; rfl
      | succ N ih => intro H; unfold rk; rw [Nat.zero_div, ih]; simp
    exact key _ _
  · intro m s ⟨f, h1, _⟩
    show ev_Q (fn_Gr_fewestSilent_69 r56 _ _ _ (nI few) (m + 1) s.1 (nI (2 ^ pop 31 (nM (slO S p)))) s.2) R
    rw [fn_Gr_fewestSilent_69]
    simp (disch := omega) only [ni_of, sl_n, ni_le, Nat.le_refl, if_true, et_b, nI_add]
    refine kk s.2 f (fun x hx hp g => ?_)
    by_cases e : pop 31 x = few
    · exact h1 x hx (rl x) e g
    · exact hpre x hx (by omega) g
  · intro m k s hk ⟨f, h1, h2⟩ ih
    show ev_Q (fn_Gr_fewestSilent_69 r56 _ _ _ (nI few) (m + 1) s.1 (nI k) s.2) R
    obtain ⟨x, e1, e2, e3⟩ := h2 hk
    have hx := xl x e2
    have enx : (nI x - mI (slO S p)) &&& mI (slO S p) = nI (nx 32 (nM (slO S p)) x) := by rw [nM_e (slO S p)]; exact nx_i (by omega) (by omega)
    have go : ∀ g', fq wr_3 g0 g' → (pop 31 x = few → ¬ slP S p t x) → ev_Q (fn_Gr_fewestSilent_101 r56 (fun z7 z8 g => fn_Gr_fewestSilent_69 r56 (mI (fun s => a_hr S p 23 s ∧ a_ab S t 0 s)) (mI (slO S p)) (nI (pop 31 (nM (slO S p)))) (nI few) m z7 z8 g) (mI (fun s => a_hr S p 23 s ∧ a_ab S t 0 s)) (mI (slO S p)) (nI (pop 31 (nM (slO S p)))) (nI few) (nI x) (nI k) g') R := by
      intro g' f' hng
      unfold fn_Gr_fewestSilent_101
      rw [enx]
      simp (disch := omega) only [ni_of, et_b, nI_add]
      refine ih (_, g') ⟨f', fun z hz hr hp g => ?_, fun hk1 => ⟨_, rfl, nx_s _ _ _, ?_⟩⟩
      · by_cases e : rk 32 (nM (slO S p)) z = k
        · have : z = x := rk_inj (N := 32) (by have := xl z hz; omega) (by omega) hz e2 (by rw [e, e3])
          subst this
          exact hng hp g
        · exact h1 z hz (by omega) hp g
      · rw [nx_rk 32 _ _ (by omega) (by omega) e2, e3, e32, Nat.mod_eq_of_lt hk1]
    rw [fn_Gr_fewestSilent_69, e1, bc_e (show x < 65536 by omega), bd_s]
    simp (disch := omega) only [ni_of, sl_n, ni_le]
    rw [if_neg (by omega)]
    have px := pop_k 31 x
    by_cases hpf : pop 31 x = few
    · rw [if_pos (by rw [hpf])]
      refine ev_d (it_c (gA_3 f A) (gL_3 f L) (show x < 2 ^ 32 by omega)) (fun v g1 ⟨hv, f1⟩ => ?_)
      rw [hv]
      by_cases q : slP S p t x
      · rw [bI_f (fun z => z q), if_pos rfl]
        have b := (slO_b (S := S) (p := p) (x := x) (by omega)).mp e2
        have Fx : fst (slG S p t) (2 ^ S 61 4) x := ⟨b.1, ⟨b.2, q⟩, fun z hz gz bz => by
          have sz := (slO_b (S := S) (p := p) (x := z) (by omega)).mpr ⟨hz, gz.1⟩
          unfold bfr at bz
          rcases bz with bz | bz
          · exact hpre z sz (by omega) gz.2
          · refine h1 z sz ?_ (by omega) gz.2
            rw [← e3]
            exact (rk_mono 32 _ _ _ (by omega) (by omega) sz e2).mpr bz.2⟩
        rw [fst_u Fx F]
        exact ev_r (kf g1 (fq_t f f1))
      · rw [bI_t q, if_neg (by decide)]
        exact go g1 (fq_t f f1) (fun _ => q)
    · rw [if_neg (fun e => hpf ((nI_eq (by omega) (by omega)).mp e))]
      exact go s.2 f (fun e => absurd e hpf)
theorem fs_c {g : et_G} (A : gA S g) {p t : Nat} (hp : p < S 61 4) (ht : t < S 61 5) {y0 : Nat} (F : fst (slG S p t) (2 ^ S 61 4) y0) : ev_Q (fn_Gr_fewestSilent (nI p) (nI t) g) (fun v g' => v = nI y0 ∧ fq w_gr g g' ∧ g'.1 48 15 = nI 0) := by
  have c := gA_c A
  have p6 : (2 : Nat) ^ S 61 4 ≤ 2 ^ 6 := Nat.pow_le_pow_right (by decide) (by omega)
  have hH : nM (slO S p) < 2 ^ S 61 4 := nM_lt fun i _ z => z.1
  unfold fn_Gr_fewestSilent
  refine ev_d (lyg_c A) (fun _ g1 ⟨L1, f1⟩ => ?_)
  unfold fn_Gr_forget
  refine ev_d (eb_q (ev_r (Q := fun _ g2 => g2 = et_si g1 48 15 0) rfl)) (fun _ g2 hg2 => ?_)
  subst hg2
  have fa : fq w_gr g (et_si g1 48 15 0) := fq_s (ly_gr f1) rfl
  have A2 := gA_gr fa A
  have L2 : gL S (et_si g1 48 15 0) := gL_q (W := fun k j => k == 48 && j == 15) (fq_s (fq_r _ _) rfl) ⟨fun _ => rfl, fun _ => rfl, fun _ => rfl, fun _ => rfl, fun _ => rfl, rfl⟩ L1
  have z2 : (et_si g1 48 15 0).1 48 15 = nI 0 := si_e
  generalize et_si g1 48 15 0 = g2 at fa A2 L2 z2 ⊢
  have c2 := gA_c A2
  rw [show fn_Gr_heardBy (nI p) (23 : Int32) g2 = _ from hd_c A2 hp (show 23 < 24 by decide), bd_s, show fn_Gr_aboutRow (nI t) (0 : Int32) g2 = _ from ar_c (show 0 ≤ 1 by decide) g2, bd_s, ib_e (2 * t + 0) 16 (by omega) (by decide), ck_t, nI_clamp (by omega), L2.1 t (by omega) 0 (by decide), mI_and, c2.2.1]
  refine eb_q ?_
  refine eb_q ?_
  have eo : ((1 : Int32) <<< (nI (S 61 4) &&& 31) - 1) &&& ((1 : Int32) <<< (nI p &&& 31) ^^^ (-1)) = mI (slO S p) := by
    rw [show (1 : Int32) = nI 1 from rfl, show (31 : Int32) = nI 31 from rfl, mI_all (by omega), mI_1 (show p < 31 by omega), mI_not, mI_and]; rfl
  show ev_Q (et_bd (fn_Ji_bitCount (((1 : Int32) <<< (nI (S 61 4) &&& 31) - 1) &&& ((1 : Int32) <<< (nI p &&& 31) ^^^ (-1))) g2) (fun v11 g12 => fn_Gr_fewestSilent_56 (mI (fun i => a_hr S p 23 i ∧ a_ab S t 0 i)) (((1 : Int32) <<< (nI (S 61 4) &&& 31) - 1) &&& ((1 : Int32) <<< (nI p &&& 31) ^^^ (-1))) v11 1000000 (0 : Int32) g12)) _
  rw [eo]
  have eb : fn_Ji_bitCount (mI (slO S p)) g2 = some (nI (pop 31 (nM (slO S p))), g2) := by rw [nM_e (slO S p)]; exact bc_e (by omega) g2
  rw [eb, bd_s]
  have pH := pop_k 31 (nM (slO S p))
  refine lp0 (fun m k (s : et_G) => fn_Gr_fewestSilent_56 (mI (fun i => a_hr S p 23 i ∧ a_ab S t 0 i)) (mI (slO S p)) (nI (pop 31 (nM (slO S p)))) m k s) (fun o => ev_Q o (fun v g' => v = nI y0 ∧ fq w_gr g g' ∧ g'.1 48 15 = nI 0)) (pop 31 (nM (slO S p))) (by omega) (fun k s => fq wr_3 g2 s ∧ ∀ x, x &&& nM (slO S p) = x → pop 31 x < k → ¬ slP S p t x) g2 ⟨fq_r _ _, fun x _ h => by omega⟩ ?_ ?_
  · intro m s ⟨f, h⟩
    show ev_Q (fn_Gr_fewestSilent_56 _ _ _ (m + 1) (nI (pop 31 (nM (slO S p)))) s) _
    rw [fn_Gr_fewestSilent_56, if_pos (nI_le (Nat.le_refl _) (by omega))]
    refine ev_r ⟨?_, fq_t fa (r3_gr f), by rw [f.1 48 15 rfl]; exact z2⟩
    have s0 := (slO_b (S := S) (p := p) (x := y0) (by omega)).mpr ⟨F.1, F.2.1.1⟩
    have : y0 = nM (slO S p) := sub_full (by omega) s0 (by
      rcases Nat.lt_or_ge (pop 31 y0) (pop 31 (nM (slO S p))) with z | z
      · exact absurd F.2.1.2 (h y0 s0 z)
      · exact z)
    rw [this, ← nM_e]
  · intro m k s hk ⟨f, h⟩ ih
    show ev_Q (fn_Gr_fewestSilent_56 _ _ _ (m + 1) (nI k) s) _
    rw [fn_Gr_fewestSilent_56, if_neg (nI_ge hk (by omega))]
    exact fs_69 A2 L2 hp hk F h _ _ (fun g' fg hg => ih g' ⟨fg, hg⟩) (fun g' fg => ⟨rfl, fq_t fa (r3_gr fg), by rw [fg.1 48 15 rfl]; exact z2⟩) s f
end SL
