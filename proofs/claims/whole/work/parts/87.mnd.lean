/-! the mend: the class -/
section MD
variable {S : et_T}
theorem gL_3 {g g' : et_G} (f : fq wr_3 g g') (L : gL S g) : gL S g' := gL_q f ⟨fun _ => rfl, fun _ => rfl, fun _ => rfl, fun _ => rfl, fun _ => rfl, rfl⟩ L
theorem gA_3 {g g' : et_G} (f : fq wr_3 g g') (A : gA S g) : gA S g' := gA_q f ⟨rfl, rfl, rfl, rfl, rfl, rfl, fun _ => rfl, fun _ => rfl, fun _ => rfl, fun _ => rfl, fun _ => rfl, fun _ => rfl, fun _ => rfl, fun _ => rfl⟩ ⟨rfl, fun _ => rfl, fun _ => rfl, fun _ => rfl, fun _ => rfl, fun _ => rfl⟩ A
theorem gd_e (hn : S 61 50 ≤ 20) {y : Nat} (hy : y < 2 ^ S 61 50) : (mI (a_HH S (a_al S) (nS y)) ||| mI (nS y) = mI (a_al S)) ↔ gdP S y := by
  have h20 : (2 : Nat) ^ S 61 50 ≤ 2 ^ 20 := Nat.pow_le_pow_right (by decide) hn
  rw [mI_or, mI_i]
  constructor
  · intro h s hs
    exact ((h s (by omega)).mpr hs).symm
  · intro h s _
    constructor
    · intro z
      rcases z with z | z
      · exact (a_HH_n z).1
      · rcases Nat.lt_or_ge s (S 61 50) with q | q
        · exact q
        · unfold nS at z; rw [big_f hy q] at z; cases z
    · intro z; exact (h s z).symm
theorem fw_90 {g0 : et_G} (A : gA S g0) (L : gL S g0) (hn12 : S 61 50 ≤ 12) {few : Nat} (hf : few < pop 31 (nM (mnH S))) {y0 : Nat} (F : fst (gdP S) (2 ^ S 61 50) y0)
    (hpre : ∀ x, x &&& nM (mnH S) = x → pop 31 x < few → ¬ gdP S (nM (mnM S) ||| x)) (r77 : Int32 → et_G → Option (Int32 × et_G)) (R : Int32 → et_G → Prop)
    (kk : ∀ g, fq wr_3 g0 g → (∀ x, x &&& nM (mnH S) = x → pop 31 x < few + 1 → ¬ gdP S (nM (mnM S) ||| x)) → ev_Q (r77 (nI (few + 1)) g) R)
    (kf : ∀ g, fq wr_3 g0 g → R (nI y0) g) (g : et_G) (fg : fq wr_3 g0 g) : ev_Q (fn_Me_fewest_90 r77 (mI (a_al S)) (mI (mnM S)) (mI (mnH S)) (nI (pop 31 (nM (mnH S)))) (nI few) 1000000 0 0 g) R := by
  have hw := A.2.2.1
  have hn : S 61 50 ≤ 20 := (gA_n A).2
  have hM : nM (mnM S) < 2 ^ S 61 50 := nM_lt fun i _ z => z.1
  have hH : nM (mnH S) < 2 ^ S 61 50 := nM_lt fun i _ z => z.1.1.1
  have p12 : (2 : Nat) ^ S 61 50 ≤ 2 ^ 12 := Nat.pow_le_pow_right (by decide) hn12
  have pH : pop 31 (nM (mnH S)) ≤ 12 := by
    have a : pop 31 (nM (mnH S)) = pop 12 (nM (mnH S)) := pop_hi (k := 12) (by omega) 19
    have key : ∀ k n, pop k n ≤ k := fun k n => by
      induction k with
      | zero => exact Nat.le_refl _
      | succ k ih => show pop k n + n / 2 ^ k % 2 ≤ k + 1; omega
    rw [a]; exact key 12 _
  have p2 : (2 : Nat) ^ pop 31 (nM (mnH S)) ≤ 2 ^ 12 := Nat.pow_le_pow_right (by decide) pH
  have e32 : pop 32 (nM (mnH S)) = pop 31 (nM (mnH S)) := pop_31 (by omega)
  have xl : ∀ x, x &&& nM (mnH S) = x → x < 2 ^ S 61 50 := fun x h => Nat.lt_of_le_of_lt (by rw [← h]; exact Nat.and_le_right) hH
  have rl : ∀ x, rk 32 (nM (mnH S)) x < 2 ^ pop 31 (nM (mnH S)) := fun x => by rw [← e32]; exact rk_lt 32 _ x
  refine lp0 (fun m k (s : Int32 × et_G) => fn_Me_fewest_90 r77 (mI (a_al S)) (mI (mnM S)) (mI (mnH S)) (nI (pop 31 (nM (mnH S)))) (nI few) m s.1 k s.2) (fun o => ev_Q o R) (2 ^ pop 31 (nM (mnH S))) (by omega)
    (fun k s => fq wr_3 g0 s.2 ∧ (∀ x, x &&& nM (mnH S) = x → rk 32 (nM (mnH S)) x < k → pop 31 x = few → ¬ gdP S (nM (mnM S) ||| x)) ∧ (k < 2 ^ pop 31 (nM (mnH S)) → ∃ m, s.1 = nI m ∧ m &&& nM (mnH S) = m ∧ rk 32 (nM (mnH S)) m = k)) (0, g) ⟨fg, fun x _ h => by omega, fun _ => ⟨0, rfl, Nat.zero_and _, ?_⟩⟩ ?_ ?_
  · have key : ∀ N H, rk N H 0 = 0 := fun N => by
      induction N with
      | zero => intro H; rfl
      | succ N ih => intro H; unfold rk; rw [Nat.zero_div, ih]; simp
    exact key _ _
  · intro m s ⟨f, h1, _⟩
    show ev_Q (fn_Me_fewest_90 r77 (mI (a_al S)) (mI (mnM S)) (mI (mnH S)) (nI (pop 31 (nM (mnH S)))) (nI few) (m + 1) s.1 (nI (2 ^ pop 31 (nM (mnH S)))) s.2) R
    rw [fn_Me_fewest_90]
    simp (disch := omega) only [ni_of, sl_n, ni_le, Nat.le_refl, if_true, et_b, nI_add]
    refine kk s.2 f (fun x hx hp g => ?_)
    by_cases e : pop 31 x = few
    · exact h1 x hx (rl x) e g
    · exact hpre x hx (by omega) g
  · intro m k s hk ⟨f, h1, h2⟩ ih
    show ev_Q (fn_Me_fewest_90 r77 (mI (a_al S)) (mI (mnM S)) (mI (mnH S)) (nI (pop 31 (nM (mnH S)))) (nI few) (m + 1) s.1 (nI k) s.2) R
    obtain ⟨x, e1, e2, e3⟩ := h2 hk
    have hx := xl x e2
    obtain ⟨dj, -, -, -⟩ := mn_dj hn e2
    have hor : nM (mnM S) ||| x < 2 ^ S 61 50 := Nat.or_lt_two_pow hM hx
    have es : mI (mnM S) ||| nI x = mI (nS (nM (mnM S) ||| x)) := by
      rw [nM_e (mnM S), ← nS_m (by omega)]
      refine bt_ext fun i _ => ?_
      rw [bt_or, bt_n (by omega), bt_n (by omega), bt_n (by omega), Nat.testBit_or]
    have enx : (nI x - mI (mnH S)) &&& mI (mnH S) = nI (nx 32 (nM (mnH S)) x) := by rw [nM_e (mnH S)]; exact nx_i (by omega) (by omega)
    have go : ∀ g', fq wr_3 g0 g' → (pop 31 x = few → ¬ gdP S (nM (mnM S) ||| x)) → ev_Q (fn_Me_fewest_142 r77 (fun z7 z8 g => fn_Me_fewest_90 r77 (mI (a_al S)) (mI (mnM S)) (mI (mnH S)) (nI (pop 31 (nM (mnH S)))) (nI few) m z7 z8 g) (mI (a_al S)) (mI (mnM S)) (mI (mnH S)) (nI (pop 31 (nM (mnH S)))) (nI few) (nI x) (nI k) g') R := by
      intro g' f' hng
      unfold fn_Me_fewest_142
      rw [enx]
      simp (disch := omega) only [ni_of, et_b, nI_add]
      refine ih (_, g') ⟨f', fun z hz hr hp g => ?_, fun hk1 => ⟨_, rfl, nx_s _ _ _, ?_⟩⟩
      · by_cases e : rk 32 (nM (mnH S)) z = k
        · have : z = x := rk_inj (N := 32) (by have := xl z hz; omega) (by omega) hz e2 (by rw [e, e3])
          subst this
          exact hng hp g
        · exact h1 z hz (by omega) hp g
      · rw [nx_rk 32 _ _ (by omega) (by omega) e2, e3, e32, Nat.mod_eq_of_lt hk1]
    rw [fn_Me_fewest_90, e1, es]
    simp (disch := omega) only [ni_of, sl_n, ni_le, et_b]
    rw [if_neg (by omega), bc_e (show x < 65536 by omega), bd_s]
    have px : pop 31 x ≤ 31 := by
      have key : ∀ k n, pop k n ≤ k := fun k n => by
        induction k with
        | zero => exact Nat.le_refl _
        | succ k ih => show pop k n + n / 2 ^ k % 2 ≤ k + 1; omega
      exact key 31 x
    by_cases hp : pop 31 x = few
    · rw [if_pos (by rw [hp])]
      have As := gA_3 f A
      have Ls := gL_3 f L
      refine ev_d (ri_c As Ls (a_al S) (nS (nM (mnM S) ||| x))) (fun _ g1 ⟨R1, f1⟩ => ?_)
      rw [R1.1]
      by_cases hg : gdP S (nM (mnM S) ||| x)
      · rw [if_pos ((gd_e hn hor).mpr hg), ← nS_m (by omega)]
        have : nM (mnM S) ||| x = y0 := mn_found hw hn F e2 hg hor (fun z hz gz b => by
          unfold bfr at b
          rcases b with b | b
          · exact hpre z hz (by omega) gz
          · refine h1 z hz ?_ (by omega) gz
            rw [← e3]
            exact (rk_mono 32 _ _ _ (by have := xl z hz; omega) (by omega) hz e2).mpr b.2)
        rw [this]
        exact ev_r (kf g1 (fq_t f f1))
      · rw [if_neg (fun e => hg ((gd_e hn hor).mp e))]
        exact go g1 (fq_t f f1) (fun _ => hg)
    · rw [if_neg (fun e => hp ((nI_eq (by omega) (by omega)).mp e))]
      exact go s.2 f (fun e => absurd e hp)
theorem fw_77 {g0 : et_G} (A : gA S g0) (L : gL S g0) (hn12 : S 61 50 ≤ 12) {y0 : Nat} (F : fst (gdP S) (2 ^ S 61 50) y0) : ev_Q (fn_Me_fewest_77 (mI (a_al S)) (mI (mnM S)) (mI (mnH S)) (nI (pop 31 (nM (mnH S)))) 1000000 0 g0) (fun v g => v = nI y0 ∧ fq wr_3 g0 g) := by
  have hw := A.2.2.1
  have hn : S 61 50 ≤ 20 := (gA_n A).2
  have hM : nM (mnM S) < 2 ^ S 61 50 := nM_lt fun i _ z => z.1
  have hH : nM (mnH S) < 2 ^ S 61 50 := nM_lt fun i _ z => z.1.1.1
  have p12 : (2 : Nat) ^ S 61 50 ≤ 2 ^ 12 := Nat.pow_le_pow_right (by decide) hn12
  have key : ∀ k n, pop k n ≤ k := fun k n => by
    induction k with
    | zero => exact Nat.le_refl _
    | succ k ih => show pop k n + n / 2 ^ k % 2 ≤ k + 1; omega
  have pH := key 31 (nM (mnH S))
  refine lp0 (fun m k (s : et_G) => fn_Me_fewest_77 (mI (a_al S)) (mI (mnM S)) (mI (mnH S)) (nI (pop 31 (nM (mnH S)))) m k s) (fun o => ev_Q o (fun v g => v = nI y0 ∧ fq wr_3 g0 g)) (pop 31 (nM (mnH S))) (by omega) (fun k s => fq wr_3 g0 s ∧ ∀ x, x &&& nM (mnH S) = x → pop 31 x < k → ¬ gdP S (nM (mnM S) ||| x)) g0 ⟨fq_r _ _, fun x _ h => by omega⟩ ?_ ?_
  · intro m s ⟨f, h⟩
    show ev_Q (fn_Me_fewest_77 _ _ _ _ (m + 1) (nI (pop 31 (nM (mnH S)))) s) _
    rw [fn_Me_fewest_77, if_pos (nI_le (Nat.le_refl _) (by omega))]
    refine ev_r ⟨?_, f⟩
    obtain ⟨m0, s0, e0, -⟩ := mn_y0 hw hn F
    have : m0 = nM (mnH S) := sub_full (by omega) s0 (by
      rcases Nat.lt_or_ge (pop 31 m0) (pop 31 (nM (mnH S))) with z | z
      · exact absurd F.2.1 (by rw [e0]; exact h m0 s0 z)
      · exact z)
    rw [e0, this, nM_e (mnM S), nM_e (mnH S)]
    have hor : nM (mnM S) ||| nM (mnH S) < 2 ^ S 61 50 := Nat.or_lt_two_pow hM hH
    refine bt_ext fun i _ => ?_
    rw [bt_or, bt_n (by omega), bt_n (by omega), bt_n (by omega), Nat.testBit_or]
  · intro m k s hk ⟨f, h⟩ ih
    show ev_Q (fn_Me_fewest_77 _ _ _ _ (m + 1) (nI k) s) _
    rw [fn_Me_fewest_77, if_neg (nI_ge hk (by omega))]
    exact fw_90 A L hn12 hk F h _ _ (fun g fg hg => ih g ⟨fg, hg⟩) (fun g fg => ⟨rfl, fg⟩) s f
theorem fw_c {g0 : et_G} (A : gA S g0) (L : gL S g0) (hn12 : S 61 50 ≤ 12) {y0 : Nat} (F : fst (gdP S) (2 ^ S 61 50) y0) : ev_Q (fn_Me_fewest g0) (fun v g => v = nI y0 ∧ fq wr_3 g0 g) := by
  have hH : nM (mnH S) < 2 ^ S 61 50 := nM_lt fun i _ z => z.1.1.1
  have p12 : (2 : Nat) ^ S 61 50 ≤ 2 ^ 12 := Nat.pow_le_pow_right (by decide) hn12
  unfold fn_Me_fewest
  rw [ev_c' A, bd_s]
  refine ev_d (ri_c A L (a_al S) (a_al S)) (fun _ g1 ⟨R1, f1⟩ => ?_)
  have A1 := gA_3 f1 A
  have L1 := gL_3 f1 L
  refine eb_q ?_
  show ev_Q (et_bd (fn_Gr_standing (mI (a_al S)) (g1.1 48 13) g1) _) _
  rw [R1.1, show a_HH S (a_al S) (a_al S) = mnR S from rfl, sd_c A1 L1, bd_s]
  refine eb_q ?_
  have e8 : mI (a_al S) &&& (mI (fun i => i < S 61 50 ∧ a_al S i ∧ a_sd S (mnR S) i) ^^^ (-1 : Int32)) = mI (mnM S) := by
    rw [show (-1 : Int32) = -nI 1 from rfl, mI_not, mI_and]; rfl
  rw [e8]
  refine ev_d (ri_c A1 L1 (a_al S) (mnM S)) (fun _ g2 ⟨R2, f2⟩ => ?_)
  refine eb_q ?_
  have e11 : ((mI (a_al S) &&& (mI (mnM S) ^^^ (-1 : Int32))) &&& mI (mnR S)) &&& (mI (a_TT S (a_al S) (mnM S)) ^^^ (-1 : Int32)) = mI (mnH S) := by
    rw [show (-1 : Int32) = -nI 1 from rfl, mI_not, mI_not, mI_and, mI_and, mI_and]; rfl
  show ev_Q (et_bd (fn_Ji_bitCount (((mI (a_al S) &&& (mI (mnM S) ^^^ (-1 : Int32))) &&& mI (mnR S)) &&& (g2.1 48 14 ^^^ (-1 : Int32))) g2) (fun v12 g13 => fn_Me_fewest_77 (mI (a_al S)) (mI (mnM S)) (((mI (a_al S) &&& (mI (mnM S) ^^^ (-1 : Int32))) &&& mI (mnR S)) &&& (g2.1 48 14 ^^^ (-1 : Int32))) v12 1000000 (0 : Int32) g13)) _
  rw [R2.2.1, e11]
  have eb : fn_Ji_bitCount (mI (mnH S)) g2 = some (nI (pop 31 (nM (mnH S))), g2) := by rw [nM_e (mnH S)]; exact bc_e (by omega) g2
  rw [eb, bd_s]
  exact ev_w (fw_77 (gA_3 f2 A1) (gL_3 f2 L1) hn12 F) (fun _ g ⟨a, b⟩ => ⟨a, fq_t (fq_t f1 f2) b⟩)
end MD
