/-! what one could say, widened -/
def gB (S : et_T) (g : et_G) : Prop := ∀ t, t < 8 → ∀ nt, nt < 2 → g.1 52 (2 * t + nt) = mI (a_ab S t nt)
def gL (S : et_T) (g : et_G) : Prop := gB S g ∧ g.1 48 12 = mI (a_dr S) ∧ ∀ i, i < S 61 50 → g.1 49 i = mI (a_hr S (S 84 (5 * i)) (S 84 (5 * i + 1))) ∧ g.1 50 i = mI (a_ow S (S 84 (5 * i)) (S 84 (5 * i + 1))) ∧ g.1 51 i = mI (a_oh S (S 84 (5 * i)) (S 84 (5 * i + 1)) (S 84 (5 * i + 2)) (S 84 (5 * i + 4))) ∧ g.1 53 i = mI (fun s => a_hr S (S 84 (5 * i)) (S 84 (5 * i + 1)) s ∧ a_ab S (S 84 (5 * i + 2)) (S 84 (5 * i + 4)) s)
section WD
variable {S : et_T} {g : et_G}
theorem ar_c {t nt : Nat} (h : nt ≤ 1) (g : et_G) : fn_Gr_aboutRow (nI t) (nI nt) g = some (nI (2 * t + nt), g) := by
  unfold fn_Gr_aboutRow
  simp only [ni_of, pk_mul, nI_add]
  by_cases e : nt = 0
  · rw [if_pos (by rw [e]), e]
  · rw [if_neg (by rw [ni_eq (by omega) (by decide)]; exact e), show nt = 1 from by omega]
theorem wn_c (A : gA S g) (B : gB S g) (C T O : Nat → Prop) : fn_Gr_widened (mI C) (mI T) (mI O) g = some (mI (fun t => C t ∨ O t ∨ a_wo S t C ∨ (t < S 61 5 ∧ ∃ s, T s ∧ a_ab S t 0 s)), g) := by
  have c := gA_c A
  have hn := (gA_n A).2
  unfold fn_Gr_widened
  rw [fl_c A C, bd_s, mI_or, mI_or]
  unfold et_b
  by_cases hz : mI T = nI 0
  · show fn_Gr_widened_17 (mI T) (999999 + 1) _ 0 g = _
    rw [fn_Gr_widened_17, if_pos (show mI T = 0 from hz)]
    refine congrArg some (congrArg (·, g) (mI_c fun i _ => ⟨fun q => ?_, fun q => ?_⟩))
    · rcases q with (q | q) | q
      · exact Or.inl q
      · exact Or.inr (Or.inl q)
      · exact Or.inr (Or.inr (Or.inl q))
    · rcases q with q | q | q | ⟨-, s, q1, q2⟩
      · exact Or.inl (Or.inl q)
      · exact Or.inl (Or.inr q)
      · exact Or.inr q
      · exact absurd q1 (mI_z.mp hz s (by have := q2.1; omega))
  · have := sc_q (F := fn_Gr_widened_17 (mI T)) (g := g) (N := S 61 5) (P := fun t => ∃ s, T s ∧ a_ab S t 0 s) (Q := fun i => (C i ∨ O i) ∨ a_wo S i C) (by omega) (fun m x => by
      rw [fn_Gr_widened_17, if_neg (show ¬ mI T = 0 from hz), c.2.2.1, if_pos (nI_le (Nat.le_refl _) (by omega))]) (fun m x k hk => by
      rw [fn_Gr_widened_17, if_neg (show ¬ mI T = 0 from hz), c.2.2.1, if_neg (nI_ge hk (by omega))]
      simp (disch := omega) only [ni_of, ar_c (show 0 ≤ 1 by omega), bd_s, nI_clamp, ib_e, ck_t, B k (by omega) 0 (by omega), mI_and, et_b, nI_add]
      rw [if_p, ← io_n]
      refine io_c ⟨fun q => ?_, fun ⟨s, q1, q2⟩ e => ?_⟩
      · exact Classical.byContradiction fun n => q (mI_z.mpr fun i _ z => n ⟨i, z.2, z.1⟩)
      · exact mI_z.mp e s (by have := q2.1; omega) ⟨q2, q1⟩)
    show fn_Gr_widened_17 (mI T) 1000000 (mI fun i => (C i ∨ O i) ∨ a_wo S i C) 0 g = _
    rw [this]
    refine congrArg some (congrArg (·, g) (mI_c fun i _ => ⟨fun q => ?_, fun q => ?_⟩))
    · rcases q with ((q | q) | q) | q
      · exact Or.inl q
      · exact Or.inr (Or.inl q)
      · exact Or.inr (Or.inr (Or.inl q))
      · exact Or.inr (Or.inr (Or.inr q))
    · rcases q with q | q | q | q
      · exact Or.inl (Or.inl (Or.inl q))
      · exact Or.inl (Or.inl (Or.inr q))
      · exact Or.inl (Or.inr q)
      · exact Or.inr q
theorem a_cs_e (hw : wf_town S) {T C : Nat → Prop} {p h t : Nat} : a_cs S T C p h t ↔ a_ow S p h t ∨ a_wo S t C ∨ (t < S 61 5 ∧ a_td S T p h t 0) := by
  constructor
  · intro ⟨h0, w, hw4, k⟩
    rcases k with k | k | k | k | k
    · exact Or.inl ⟨h0, Or.inl k.2⟩
    · exact Or.inl ⟨h0, Or.inr k.2⟩
    · exact Or.inr (Or.inr ⟨h0, k.2⟩)
    · exact Or.inr (Or.inl k.2.2)
    · omega
  · intro k
    rcases k with ⟨h0, k | k⟩ | k | ⟨h0, k⟩
    · exact ⟨h0, 0, by omega, Or.inl ⟨rfl, k⟩⟩
    · exact ⟨h0, 1, by omega, Or.inr (Or.inl ⟨rfl, k⟩)⟩
    · exact ⟨a_wo_t hw k, 3, by omega, Or.inr (Or.inr (Or.inr (Or.inl ⟨rfl, rfl, k⟩)))⟩
    · exact ⟨h0, 2, by omega, Or.inr (Or.inr (Or.inl ⟨rfl, k⟩))⟩
/-- a step of the rounds, as it is widened -/
theorem wn_s (A : gA S g) (B : gB S g) {C T : Nat → Prop} {p h : Nat} (hm : ∀ t, C t → a_cs S T C p h t) : fn_Gr_widened (mI C) (mI fun s => a_hr S p h s ∧ T s) (mI (a_ow S p h)) g = some (mI (a_cs S T C p h), g) := by
  rw [wn_c A B]
  refine congrArg some (congrArg (·, g) (mI_c fun i _ => ?_))
  constructor
  · intro q
    rcases q with q | q | q | ⟨q1, s, q2, q3⟩
    · exact hm i q
    · exact (a_cs_e A.2.2.1).mpr (Or.inl q)
    · exact (a_cs_e A.2.2.1).mpr (Or.inr (Or.inl q))
    · exact (a_cs_e A.2.2.1).mpr (Or.inr (Or.inr ⟨q1, s, q2.2, q2.1, q3⟩))
  · intro q
    rcases (a_cs_e A.2.2.1).mp q with q | q | ⟨q1, s, q2, q3, q4⟩
    · exact Or.inr (Or.inl q)
    · exact Or.inr (Or.inr (Or.inl q))
    · exact Or.inr (Or.inr (Or.inr ⟨q1, s, ⟨q3, q2⟩, q4⟩))
theorem ws_c (A : gA S g) (B : gB S g) {T : Nat → Prop} {p h : Nat} : fn_Gr_widest (mI fun s => a_hr S p h s ∧ T s) (mI (a_ow S p h)) g = some (mI (a_CL S T p h), g) := by
  have c := gA_c A
  have st : ∀ r, fn_Gr_widened (mI (a_cl S T p h r)) (mI fun s => a_hr S p h s ∧ T s) (mI (a_ow S p h)) g = some (mI (a_cl S T p h (r + 1)), g) := fun r => wn_s A B (fun t k => a_cl_s r t k)
  have st0 : fn_Gr_widened 0 (mI fun s => a_hr S p h s ∧ T s) (mI (a_ow S p h)) g = some (mI (a_cl S T p h 1), g) := by
    rw [mI_0]; exact st 0
  have h8 : ∀ r t, a_cl S T p h r t → t < 8 := fun r t k => by
    cases r with
    | zero => exact k.elim
    | succ r => have := k.1; omega
  have done : ∀ r, (∀ i, a_cl S T p h (r + 1) i → a_cl S T p h r i) → mI (a_cl S T p h (r + 1)) = mI (a_CL S T p h) := fun r hr => mI_c fun i _ => ⟨fun q => ⟨_, q⟩, fun q => a_cl_s r i (a_CL_le (D := a_cl S T p h r) (fun t k => hr t k) q)⟩
  unfold fn_Gr_widest
  rw [st0, bd_s, st 1, bd_s]
  refine lp0 (fun m i (s : Int32 × Int32) => fn_Gr_widest_20 (mI fun s => a_hr S p h s ∧ T s) (mI (a_ow S p h)) m s.1 s.2 i g) (fun o => o = some (mI (a_CL S T p h), g)) 8 (by omega) (fun k s => s.1 = mI (a_cl S T p h (k + 1)) ∧ s.2 = mI (a_cl S T p h (k + 2)) ∧ k ≤ cnt (a_cl S T p h (k + 1)) 8) (mI (a_cl S T p h 1), mI (a_cl S T p h 2)) ?_ ?_ ?_
  · exact ⟨rfl, rfl, Nat.zero_le _⟩
  · intro m s ⟨h1, h2, h3⟩
    show fn_Gr_widest_20 _ _ (m + 1) s.1 s.2 (nI 8) g = _
    have e : ∀ i, a_cl S T p h 10 i → a_cl S T p h 9 i := fun i q => Classical.byContradiction fun n => by
      have l := cnt_lt (P := a_cl S T p h 9) (Q := a_cl S T p h 10) 8 (fun j _ => a_cl_s 9 j) ⟨i, h8 _ _ q, q, n⟩
      have := cnt_le (a_cl S T p h 10) 8
      have h3' : 8 ≤ cnt (a_cl S T p h 9) 8 := h3
      omega
    rw [fn_Gr_widest_20, h1, h2]
    simp (disch := omega) only [ni_of, ni_le, Nat.le_refl, if_true]
    rw [done 9 e]
    split <;> rfl
  · intro m k s hk ⟨h1, h2, h3⟩ ih
    show fn_Gr_widest_20 _ _ (m + 1) s.1 s.2 (nI k) g = _
    rw [fn_Gr_widest_20, h1, h2]
    simp (disch := omega) only [ni_of, ni_le, st, bd_s, et_b, nI_add]
    by_cases e : mI (a_cl S T p h (k + 2)) = mI (a_cl S T p h (k + 1))
    · rw [if_pos e, done (k + 1)]
      intro i q
      exact (mI_i.mp e i (by have := h8 _ _ q; omega)).mp q
    · rw [if_neg e, if_neg (by omega)]
      refine ih (_, _) ⟨rfl, rfl, ?_⟩
      have : cnt (a_cl S T p h (k + 1)) 8 < cnt (a_cl S T p h (k + 2)) 8 := by
        refine cnt_lt 8 (fun j _ => a_cl_s _ j) (Classical.byContradiction fun n => e (mI_c fun i _ => ⟨fun q => ?_, a_cl_s _ i⟩))
        exact Classical.byContradiction fun z => n ⟨i, h8 _ _ q, q, z⟩
      show k + 1 ≤ cnt (a_cl S T p h (k + 2)) 8
      omega
theorem mI_s (x : Int32) : x = mI (fun i => bt x i = true) := mI_eq fun _ _ => Iff.rfl
/-- by which endings it stands -/
theorem sh_c (A : gA S g) (L : gL S g) {i : Nat} (hi : i < S 61 50) (T C : Nat → Prop) : fn_Gr_standingHows (nI i) (mI T) (mI C) g = some (mI (a_sh S T C (S 84 (5 * i)) (S 84 (5 * i + 1)) (S 84 (5 * i + 2)) (S 84 (5 * i + 4))), g) := by
  have hn := (gA_n A).2
  have c := gA_c A
  obtain ⟨-, -, e3, -, e5⟩ := gA_s A hi
  obtain ⟨-, -, w3, -, w5⟩ := gA_w A hi
  obtain ⟨-, -, l51, l53⟩ := L.2.2 i hi
  have k28 : ∀ Q : Nat → Prop, fn_Gr_standingHows_28 (nI i) (mI C) (mI Q) g = some (mI (fun w => Q w ∨ (w = 3 ∧ S 84 (5 * i + 4) = 0 ∧ a_wo S (S 84 (5 * i + 2)) C)), g) := by
    intro Q
    unfold fn_Gr_standingHows_28
    rw [show (8 : Int32) = mI (fun i => i = 3) from mI_k (k := 3) (by decide)]
    simp (disch := omega) only [ni_of, nI_clamp, ib_e, ck_t, bd_s, et_b, nI_add, if_p, ni_eq, ni_lt, ni_le, b_e0, b_e1, io_n, e3, e5, wko_c A (show S 84 (5 * i + 2) < 2 ^ 31 by omega), mI_or]
    by_cases h1 : S 84 (5 * i + 4) = 0
    · rw [io_t h1]
      by_cases h2 : a_wo S (S 84 (5 * i + 2)) C
      · rw [io_t h2]
        exact congrArg some (congrArg (·, g) (mI_c fun w _ => ⟨fun q => q.elim Or.inl (fun q => Or.inr ⟨q, h1, h2⟩), fun q => q.elim Or.inl (fun q => Or.inr q.1)⟩))
      · rw [io_f h2]
        exact congrArg some (congrArg (·, g) (mI_c fun w _ => ⟨Or.inl, fun q => q.elim id (fun q => absurd q.2.2 h2)⟩))
    · rw [io_f h1]
      exact congrArg some (congrArg (·, g) (mI_c fun w _ => ⟨Or.inl, fun q => q.elim id (fun q => absurd q.2.1 h1)⟩))
  unfold fn_Gr_standingHows
  rw [show (16 : Int32) = mI (fun i => i = 4) from mI_k (k := 4) (by decide), show (4 : Int32) = mI (fun i => i = 2) from mI_k (k := 2) (by decide)]
  simp (disch := omega) only [nI_clamp, ib_e, ck_t, l51, l53, mI_or, mI_and, et_b, k28]
  rw [show (0 : Int32) = nI 0 from rfl]
  by_cases ht : a_td S T (S 84 (5 * i)) (S 84 (5 * i + 1)) (S 84 (5 * i + 2)) (S 84 (5 * i + 4))
  · rw [if_neg (fun e => by
      obtain ⟨s, s1, s2, s3⟩ := ht
      exact mI_z.mp e s (by have := s3.1; omega) ⟨⟨s2, s3⟩, s1⟩)]
    refine congrArg some (congrArg (·, g) (mI_c fun w _ => ⟨fun q => ?_, fun q => ?_⟩))
    · rcases q with ((q | q | q) | q) | q
      · exact Or.inr (Or.inr (Or.inr (Or.inr q)))
      · exact Or.inl q
      · exact Or.inr (Or.inl q)
      · exact Or.inr (Or.inr (Or.inl ⟨q, ht⟩))
      · exact Or.inr (Or.inr (Or.inr (Or.inl q)))
    · rcases q with q | q | q | q | q
      · exact Or.inl (Or.inl (Or.inr (Or.inl q)))
      · exact Or.inl (Or.inl (Or.inr (Or.inr q)))
      · exact Or.inl (Or.inr q.1)
      · exact Or.inr q
      · exact Or.inl (Or.inl (Or.inl q))
  · rw [if_pos (mI_z.mpr fun s _ z => ht ⟨s, z.2, z.1.1, z.1.2⟩)]
    refine congrArg some (congrArg (·, g) (mI_c fun w _ => ⟨fun q => ?_, fun q => ?_⟩))
    · rcases q with (q | q | q) | q
      · exact Or.inr (Or.inr (Or.inr (Or.inr q)))
      · exact Or.inl q
      · exact Or.inr (Or.inl q)
      · exact Or.inr (Or.inr (Or.inr (Or.inl q)))
    · rcases q with q | q | q | q | q
      · exact Or.inl (Or.inr (Or.inl q))
      · exact Or.inl (Or.inr (Or.inr q))
      · exact absurd q.2 ht
      · exact Or.inr q
      · exact Or.inl (Or.inl q)
/-- the first of the endings -/
theorem fb_c (Q : Nat → Prop) (g : et_G) : ∃ w, w ≤ 4 ∧ (w < 4 → Q w) ∧ (∀ v, v < w → ¬ Q v) ∧ fn_Gr_firstBit (mI Q) g = some (nI w, g) := by
  unfold fn_Gr_firstBit
  refine lp0 (fun m i (_ : Unit) => fn_Gr_firstBit_2 (mI Q) m i g) (fun o => ∃ w, w ≤ 4 ∧ (w < 4 → Q w) ∧ (∀ v, v < w → ¬ Q v) ∧ o = some (nI w, g)) 4 (by omega) (fun k _ => ∀ v, v < k → ¬ Q v) () (fun v hv => by omega) ?_ ?_
  · intro m s h
    refine ⟨4, Nat.le_refl _, fun h => by omega, h, ?_⟩
    show fn_Gr_firstBit_2 (mI Q) (m + 1) (nI 4) g = _
    rw [fn_Gr_firstBit_2, if_pos (by decide)]
  · intro m k s hk h ih
    have e : fn_Gr_firstBit_2 (mI Q) (m + 1) (nI k) g = io (Q k) (some (nI k, g)) (fn_Gr_firstBit_2 (mI Q) m (nI (k + 1)) g) := by
      rw [fn_Gr_firstBit_2]
      simp (disch := omega) only [ni_of, ni_le, hb_m Q (show k < 32 by omega), bd_s, if_b0, et_b, nI_add]
      rw [if_neg (by omega)]
    show ∃ w, w ≤ 4 ∧ (w < 4 → Q w) ∧ (∀ v, v < w → ¬ Q v) ∧ fn_Gr_firstBit_2 (mI Q) (m + 1) (nI k) g = some (nI w, g)
    rw [e]
    by_cases q : Q k
    · exact ⟨k, by omega, fun _ => q, h, io_t q⟩
    · rw [io_f q]
      refine ih () (fun v hv => ?_)
      by_cases z : v = k
      · subst z; exact q
      · exact h v (by omega)
end WD
