/-! the ground settled; could, wrong: the class -/
def a_no (_ : Nat) : Prop := False
def a_tt (S : et_T) : Nat → Prop := a_TT S (a_al S) a_no
/-- eyes, in rounds -/
def a_re (S : et_T) (C : Nat → Nat → Prop) (p h t q : Nat) : Prop := ∃ r, a_rl S t (a_CL S (a_tt S) p h) r ∧ ∃ k, 1 ≤ k ∧ k < S 67 (5 * r) ∧ C (S 67 (5 * r + 1 + k)) q
def a_te (S : et_T) (E : Nat → Nat → Prop) (p h t nt q : Nat) : Prop := ∃ u, a_tt S u ∧ a_hr S p h u ∧ a_ab S t nt u ∧ E u q
def a_es (S : et_T) (E : Nat → Nat → Prop) (C : Nat → Nat → Nat → Nat → Prop) (s q : Nat) : Prop := a_HH S (a_al S) a_no s ∧
  ((S 84 (5 * s + 3) ≤ 1 ∧ q = S 84 (5 * s)) ∨ (S 84 (5 * s + 3) = 2 ∧ a_te S E (S 84 (5 * s)) (S 84 (5 * s + 1)) (S 84 (5 * s + 2)) (S 84 (5 * s + 4)) q) ∨ (S 84 (5 * s + 3) = 3 ∧ a_re S (C (S 84 (5 * s)) (S 84 (5 * s + 1))) (S 84 (5 * s)) (S 84 (5 * s + 1)) (S 84 (5 * s + 2)) q))
def a_ct (S : et_T) (E : Nat → Nat → Prop) (C : Nat → Nat → Prop) (p h t q : Nat) : Prop := t < S 61 5 ∧ ((a_ow S p h t ∧ q = p) ∨ a_te S E p h t 0 q ∨ a_re S C p h t q)
def a_ey (S : et_T) : Nat → (Nat → Nat → Prop) × (Nat → Nat → Nat → Nat → Prop)
  | 0 => (fun _ _ => False, fun _ _ _ _ => False)
  | r + 1 => (a_es S (a_ey S r).1 (a_ey S r).2, fun p h => a_ct S (a_ey S r).1 ((a_ey S r).2 p h) p h)
def a_EY (S : et_T) (s q : Nat) : Prop := ∃ r, (a_ey S r).1 s q
def a_CE (S : et_T) (p h t q : Nat) : Prop := ∃ r, (a_ey S r).2 p h t q
def gS (S : et_T) (g : et_G) : Prop := gL S g ∧ rP S (a_al S) a_no g
def gE (S : et_T) (g : et_G) : Prop := ∀ i, i < S 61 50 → g.1 57 i = mI (a_EY S i)
def rc_G (S : et_T) (g : et_G) : Prop := (g.1 48 15 = nI 0 ∨ g.1 48 15 = nI 1) ∧ (g.1 48 15 = nI 1 → gS S g ∧ (g.1 48 16 = nI 0 ∨ g.1 48 16 = nI 1) ∧ (g.1 48 16 = nI 1 → gE S g))
def w_gr (k j : Nat) : Bool := (k == 48 && Nat.ble 12 j) || (Nat.ble 49 k && Nat.ble k 58)
theorem w_gr_c {k j : Nat} (h : w_gr k j = false) : ¬ (k = 48 ∧ 12 ≤ j) ∧ ¬ (49 ≤ k ∧ k ≤ 58) := by
  unfold w_gr at h
  constructor
  · intro e
    rw [show (k == 48 && Nat.ble 12 j) = true from by rw [e.1, Nat.ble_eq.mpr e.2]; rfl] at h
    exact absurd h (by simp)
  · intro e
    rw [show (Nat.ble 49 k && Nat.ble k 58) = true from by rw [Nat.ble_eq.mpr e.1, Nat.ble_eq.mpr e.2]; rfl] at h
    simp at h
theorem ly_gr {g g' : et_G} (h : fq w_ly g g') : fq w_gr g g' := fq_w h (fun k j h => by have := w_gr_c h; simp [w_ly]; omega)
theorem r3_gr {g g' : et_G} (h : fq wr_3 g g') : fq w_gr g g' := fq_w h (fun k j h => by have := w_gr_c h; simp [wr_3]; omega)
section CO
variable {S : et_T}
theorem gA_gr {g g' : et_G} (f : fq w_gr g g') (A : gA S g) : gA S g' := gA_q f ⟨rfl, rfl, rfl, rfl, rfl, rfl, fun _ => rfl, fun _ => rfl, fun _ => rfl, fun _ => rfl, fun _ => rfl, fun _ => rfl, fun _ => rfl, fun _ => rfl⟩ ⟨rfl, fun _ => rfl, fun _ => rfl, fun _ => rfl, fun _ => rfl, fun _ => rfl⟩ A
theorem rP_q {W : Nat → Nat → Bool} {X Y : Nat → Prop} {g g' : et_G} (f : fq W g g') (w1 : W 48 13 = false) (w2 : W 48 14 = false) (w3 : ∀ j, W 55 j = false) (w4 : ∀ j, W 56 j = false) (R : rP S X Y g) : rP S X Y g' := by
  obtain ⟨a, b, c, d⟩ := R
  refine ⟨by rw [f.1 48 13 w1]; exact a, by rw [f.1 48 14 w2]; exact b, fun i hi => ?_, fun i hi => ?_⟩
  · rw [f.1 55 i (w3 i)]; exact c i hi
  · rw [f.1 56 i (w4 i)]; exact d i hi
theorem se_c {g : et_G} (A : gA S g) (G : rc_G S g) : ev_Q (fn_Gr_settle g) (fun _ g' => fq w_gr g g' ∧ gS S g' ∧ g'.1 48 15 = nI 1 ∧ (g'.1 48 16 = nI 0 ∨ g'.1 48 16 = nI 1) ∧ (g'.1 48 16 = nI 1 → gE S g')) := by
  unfold fn_Gr_settle
  by_cases h : g.1 48 15 = 0
  · rw [if_pos h]
    refine ev_d (lyg_c A) (fun _ g1 ⟨a1, a2⟩ => ?_)
    have A1 := gA_gr (ly_gr a2) A
    rw [ev_c' A1, bd_s]
    have r := ri_c A1 a1 (a_al S) a_no
    rw [show mI a_no = (0 : Int32) from mI_0.symm] at r
    refine ev_d r (fun _ g2 ⟨b1, b2⟩ => ?_)
    have f := fq_t (ly_gr a2) (r3_gr b2)
    have f2 : fq w_gr g2 (et_si (et_si g2 48 15 1) 48 16 0) := fq_s (fq_s (fq_r _ _) rfl) rfl
    have f3 : fq (fun k j => k == 48 && (j == 15 || j == 16)) g2 (et_si (et_si g2 48 15 1) 48 16 0) := fq_s (fq_s (fq_r _ _) rfl) rfl
    refine ev_r ⟨fq_t f f2, ⟨gL_q f3 ⟨fun _ => rfl, fun _ => rfl, fun _ => rfl, fun _ => rfl, fun _ => rfl, rfl⟩ (gL_q b2 ⟨fun _ => rfl, fun _ => rfl, fun _ => rfl, fun _ => rfl, fun _ => rfl, rfl⟩ a1), rP_q f3 rfl rfl (fun _ => rfl) (fun _ => rfl) b1⟩, ?_, Or.inl si_e, fun z => ?_⟩
    · rw [si_j (by decide), si_e]; rfl
    · rw [si_e] at z; exact absurd z (by decide)
  · rw [if_neg h]
    have h1 : g.1 48 15 = nI 1 := G.1.resolve_left h
    obtain ⟨a, b, c⟩ := G.2 h1
    exact ev_r ⟨fq_r _ _, a, h1, b, c⟩
theorem rc_G_of {g : et_G} (h : gS S g ∧ g.1 48 15 = nI 1 ∧ (g.1 48 16 = nI 0 ∨ g.1 48 16 = nI 1) ∧ (g.1 48 16 = nI 1 → gE S g)) : rc_G S g := ⟨Or.inr h.2.1, fun _ => ⟨h.1, h.2.2⟩⟩
theorem ch_c {g : et_G} (A : gA S g) (G : rc_G S g) {s : Nat} (hs : s < S 61 50) : ev_Q (fn_Gr_chainOf (nI s) g) (fun v g' => fq w_gr g g' ∧ rc_G S g' ∧ ((∃ c, c < 1000 ∧ a_lev S (a_al S) a_no s c ∧ v = nI c) ∨ (¬ a_HH S (a_al S) a_no s ∧ v = nI 0))) := by
  have hn := (gA_n A).2
  unfold fn_Gr_chainOf
  refine ev_d (se_c A G) (fun _ g1 ⟨a, b⟩ => ?_)
  simp (disch := omega) only [nI_clamp, ib_e, ck_t]
  exact ev_r ⟨a, rc_G_of b, b.1.2.2.2.1 s hs⟩
theorem un_c {g : et_G} (A : gA S g) (G : rc_G S g) : ev_Q (fn_Gr_unheld g) (fun v g' => fq w_gr g g' ∧ rc_G S g' ∧ v = mI (fun i => a_al S i ∧ ¬ a_HH S (a_al S) a_no i)) := by
  unfold fn_Gr_unheld
  refine ev_d (se_c A G) (fun _ g1 ⟨a, b⟩ => ?_)
  rw [ev_c' (gA_gr a A), bd_s, b.1.2.1, show (-1 : Int32) = -nI 1 from rfl, mI_not, mI_and]
  exact ev_r ⟨a, rc_G_of b, rfl⟩
/-- rings, from above -/
def a_rs (S : et_T) (L : Nat → Prop) (i : Nat) : Prop := i < S 61 50 ∧ L i ∧ a_sd S (fun s => L s ∧ S 84 (5 * s + 3) ≠ 4 ∧ s < S 61 50) i
def a_rr (S : et_T) : Nat → Nat → Prop
  | 0 => a_al S
  | r + 1 => a_rs S (a_rr S r)
def a_RG (S : et_T) (i : Nat) : Prop := ∀ r, a_rr S r i
theorem a_rr_s (r i : Nat) (h : a_rr S (r + 1) i) : a_rr S r i := h.2.1
theorem a_sd_c {T U : Nat → Prop} (h : ∀ i, T i ↔ U i) {i : Nat} : a_sd S T i ↔ a_sd S U i := by rw [show T = U from funext fun i => propext (h i)]
theorem a_rs_c {L M : Nat → Prop} (h : ∀ i, L i ↔ M i) {i : Nat} : a_rs S L i ↔ a_rs S M i := by rw [show L = M from funext fun i => propext (h i)]
theorem a_rr_st {r : Nat} (h : ∀ i, a_rr S r i → a_rr S (r + 1) i) : ∀ q i, a_rr S (r + q) i ↔ a_rr S r i := by
  intro q
  induction q with
  | zero => intro i; exact Iff.rfl
  | succ q ih =>
    intro i
    have : a_rr S (r + (q + 1)) i ↔ a_rr S (r + 1) i := a_rs_c (fun j => ih j)
    rw [this]
    exact ⟨fun z => a_rr_s r i z, h i⟩
theorem a_rr_m {r q i : Nat} (h : a_rr S (r + q) i) : a_rr S r i := by
  induction q with
  | zero => exact h
  | succ q ih => exact ih (a_rr_s (r + q) i h)
theorem a_rr_n (hn : S 61 50 ≤ 20) : ∀ r, cnt (a_rr S r) 20 + r ≤ 20 ∨ ∃ q, q < r ∧ ∀ i, a_rr S q i → a_rr S (q + 1) i := by
  intro r
  induction r with
  | zero => exact Or.inl (cnt_le _ _)
  | succ r ih =>
    rcases ih with ih | ⟨q, q1, q2⟩
    · by_cases z : ∀ i, a_rr S r i → a_rr S (r + 1) i
      · exact Or.inr ⟨r, by omega, z⟩
      · obtain ⟨t, ht⟩ := Classical.not_forall.mp z
        obtain ⟨t1, t2⟩ := Classical.not_imp.mp ht
        have lt : t < 20 := by
          have : t < S 61 50 := by
            have := a_rr_m (r := 0) (q := r) (i := t) (by rw [Nat.zero_add]; exact t1)
            exact this
          omega
        have := cnt_lt (P := a_rr S (r + 1)) (Q := a_rr S r) 20 (fun j _ => a_rr_s r j) ⟨t, lt, t1, t2⟩
        exact Or.inl (by omega)
    · exact Or.inr ⟨q, by omega, q2⟩
theorem a_RG_st {r : Nat} (h : ∀ i, a_rr S r i → a_rr S (r + 1) i) (i : Nat) : a_rr S r i ↔ a_RG S i := by
  constructor
  · intro z q
    rcases Nat.le_total q r with e | e
    · obtain ⟨d, rfl⟩ : ∃ d, r = q + d := ⟨r - q, by omega⟩
      exact a_rr_m z
    · obtain ⟨d, rfl⟩ : ∃ d, q = r + d := ⟨q - r, by omega⟩
      exact (a_rr_st h d i).mpr z
  · intro z; exact z r
theorem a_RG_21 (hn : S 61 50 ≤ 20) (i : Nat) : a_rr S 21 i ↔ a_RG S i := by
  refine a_RG_st (fun j hj => ?_) i
  rcases a_rr_n hn 21 with z | ⟨q, q1, q2⟩
  · omega
  · obtain ⟨d, hd⟩ : ∃ d, 21 = q + d := ⟨21 - q, by omega⟩
    have e1 := a_rr_st q2 d j
    have e2 := a_rr_st q2 (d + 1) j
    rw [← hd] at e1
    rw [← Nat.add_assoc, ← hd] at e2
    exact e2.mpr (e1.mp hj)
theorem rn_c {g : et_G} (A : gA S g) (G : rc_G S g) : ev_Q (fn_Gr_rings g) (fun v g' => fq w_gr g g' ∧ rc_G S g' ∧ v = mI (fun i => a_RG S i ∧ ¬ a_HH S (a_al S) a_no i)) := by
  have hn := (gA_n A).2
  unfold fn_Gr_rings
  refine ev_d (se_c A G) (fun _ g1 ⟨a, b⟩ => ?_)
  have A1 := gA_gr a A
  rw [ev_c' A1, bd_s]
  refine lp0 (fun m i (x : Int32) => fn_Gr_rings_14 m x i g1) (fun o => ev_Q o (fun v g' => fq w_gr g g' ∧ rc_G S g' ∧ v = mI (fun i => a_RG S i ∧ ¬ a_HH S (a_al S) a_no i))) 21 (by omega) (fun k x => x = mI (a_rr S k)) (mI (a_al S)) rfl ?_ ?_
  · intro m x h
    show ev_Q (fn_Gr_rings_14 (m + 1) x (nI 21) g1) _
    rw [fn_Gr_rings_14, if_pos (by decide)]
    unfold fn_Gr_rings_40
    rw [h, b.1.2.1, show (-1 : Int32) = -nI 1 from rfl, mI_not, mI_and]
    refine ev_r ⟨a, rc_G_of b, ?_⟩
    exact mI_c fun i _ => by rw [a_RG_21 hn]
  · intro m k x hk h ih
    show ev_Q (fn_Gr_rings_14 (m + 1) x (nI k) g1) _
    rw [fn_Gr_rings_14, h, show (-1 : Int32) = -nI 1 from rfl, b.1.1.2.1, mI_not, mI_and, sd_c A1 b.1.1, bd_s]
    simp (disch := omega) only [ni_of, et_b, nI_add, ni_lt]
    rw [if_neg (by omega)]
    refine ih _ (mI_c fun i _ => ?_)
    show _ ↔ i < S 61 50 ∧ a_rr S k i ∧ a_sd S _ i
    refine and_congr_right fun hi => and_congr_right fun _ => a_sd_c fun s => ?_
    have al : a_rr S k s → s < S 61 50 := fun z => a_rr_m (r := 0) (q := k) (i := s) (by rw [Nat.zero_add]; exact z)
    exact ⟨fun z => ⟨z.1, fun e => z.2 ⟨al z.1, e⟩, al z.1⟩, fun z => ⟨z.1, fun e => z.2.1 e.2⟩⟩
theorem hf_c {g : et_G} (A : gA S g) (G : rc_G S g) {p h t nt : Nat} (hp : p < S 61 4) (hh : h < 24) (ht : t < S 61 5) (hn : nt ≤ 1) : ev_Q (fn_Gr_howsFor (nI p) (nI h) (nI t) (nI nt) g) (fun v g' => fq w_gr g g' ∧ rc_G S g' ∧ v = mI (a_sh S (a_tt S) (a_CL S (a_tt S) p h) p h t nt)) := by
  have c := gA_c A
  have hn20 := (gA_n A).2
  unfold fn_Gr_howsFor
  refine ev_d (se_c A G) (fun _ g1 ⟨a, b⟩ => ?_)
  have A1 := gA_gr a A
  have k57 : ∀ Q : Nat → Prop, fn_Gr_howsFor_57 (nI p) (nI h) (nI t) (nI nt) (mI Q) (mI fun s => a_hr S p h s ∧ a_tt S s) g1 = some (mI (fun w => Q w ∨ (w = 3 ∧ nt = 0 ∧ a_wo S t (a_CL S (a_tt S) p h))), g1) := by
    intro Q
    unfold fn_Gr_howsFor_57
    simp (disch := omega) only [ni_of, nI_clamp, ib_e, ck_t, bd_s, et_b, nI_add, if_p, ni_eq, ni_lt, ni_le, b_e0, b_e1, io_n, ot_c A1 hp hh, ws_c A1 b.1.1.1, wko_c A1 (show t < 2 ^ 31 by omega), show nI 8 = mI (fun i => i = 3) from mI_k (k := 3) (by decide), mI_or]
    by_cases h1 : nt = 0
    · rw [io_t h1]
      by_cases h2 : a_wo S t (a_CL S (a_tt S) p h)
      · rw [io_t h2]
        exact congrArg some (congrArg (·, g1) (mI_c fun w _ => ⟨fun q => q.elim Or.inl (fun q => Or.inr ⟨q, h1, h2⟩), fun q => q.elim Or.inl (fun q => Or.inr q.1)⟩))
      · rw [io_f h2]
        exact congrArg some (congrArg (·, g1) (mI_c fun w _ => ⟨Or.inl, fun q => q.elim id (fun q => absurd q.2.2 h2)⟩))
    · rw [io_f h1]
      exact congrArg some (congrArg (·, g1) (mI_c fun w _ => ⟨Or.inl, fun q => q.elim id (fun q => absurd q.2.1 h1)⟩))
  simp (disch := omega) only [ni_of, nI_clamp, ib_e, ck_t, bd_s, et_b, nI_add, if_p, ni_eq, ni_lt, ni_le, b_e0, b_e1, io_n, oh_c A1 hp hh ht hn, hd_c A1 hp hh, b.1.2.2.1, ar_c hn, b.1.1.1 t (show t < 8 by omega) nt (show nt < 2 by omega), show nI 16 = mI (fun i => i = 4) from mI_k (k := 4) (by decide), show nI 4 = mI (fun i => i = 2) from mI_k (k := 2) (by decide), mI_or, mI_and]
  have e14 : (fun s => a_hr S p h s ∧ a_TT S (a_al S) a_no s) = fun s => a_hr S p h s ∧ a_tt S s := rfl
  simp only [e14, k57]
  by_cases htd : a_td S (a_tt S) p h t nt
  · rw [io_f (fun e => by
      obtain ⟨s, s1, s2, s3⟩ := htd
      exact mI_z.mp e s (by have := s3.1; omega) ⟨⟨s2, s1⟩, s3⟩)]
    refine ev_r ⟨a, rc_G_of b, mI_c fun w _ => ⟨fun q => ?_, fun q => ?_⟩⟩
    · rcases q with ((q | q | q) | q) | q
      · exact Or.inr (Or.inr (Or.inr (Or.inr q)))
      · exact Or.inl q
      · exact Or.inr (Or.inl q)
      · exact Or.inr (Or.inr (Or.inl ⟨q, htd⟩))
      · exact Or.inr (Or.inr (Or.inr (Or.inl q)))
    · rcases q with q | q | q | q | q
      · exact Or.inl (Or.inl (Or.inr (Or.inl q)))
      · exact Or.inl (Or.inl (Or.inr (Or.inr q)))
      · exact Or.inl (Or.inr q.1)
      · exact Or.inr q
      · exact Or.inl (Or.inl (Or.inl q))
  · rw [io_t (mI_z.mpr fun s _ z => htd ⟨s, z.1.2, z.1.1, z.2⟩)]
    refine ev_r ⟨a, rc_G_of b, mI_c fun w _ => ⟨fun q => ?_, fun q => ?_⟩⟩
    · rcases q with (q | q | q) | q
      · exact Or.inr (Or.inr (Or.inr (Or.inr q)))
      · exact Or.inl q
      · exact Or.inr (Or.inl q)
      · exact Or.inr (Or.inr (Or.inr (Or.inl q)))
    · rcases q with q | q | q | q | q
      · exact Or.inl (Or.inr (Or.inl q))
      · exact Or.inl (Or.inr (Or.inr q))
      · exact absurd q.2 htd
      · exact Or.inr q
      · exact Or.inl (Or.inl q)
end CO
