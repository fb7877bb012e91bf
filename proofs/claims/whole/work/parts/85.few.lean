/-! the fewest: what is searched for, and how it is found -/
/-- before in the order by number of bits, then by value -/
def bfr (a b : Nat) : Prop := pop 31 a < pop 31 b ∨ (pop 31 a = pop 31 b ∧ a < b)
/-- the first good one below N -/
def fst (G : Nat → Prop) (N y : Nat) : Prop := y < N ∧ G y ∧ ∀ z, z < N → G z → ¬ bfr z y
theorem bfr_t {a b : Nat} : bfr a b ∨ a = b ∨ bfr b a := by
  unfold bfr
  omega
theorem fst_u {G : Nat → Prop} {N y z : Nat} (h1 : fst G N y) (h2 : fst G N z) : y = z := by
  rcases bfr_t (a := y) (b := z) with q | q | q
  · exact absurd q (h2.2.2 y h1.1 h1.2.1)
  · exact q
  · exact absurd q (h1.2.2 z h2.1 h2.2.1)
/-- sets as numbers -/
def nS (y : Nat) (s : Nat) : Prop := y.testBit s = true
theorem nS_m {y : Nat} (h : y < 2 ^ 32) : nI y = mI (nS y) := mI_n h
theorem pop_or : ∀ k a b, a &&& b = 0 → pop k (a ||| b) = pop k a + pop k b := by
  intro k
  induction k with
  | zero => intro a b _; rfl
  | succ k ih =>
    intro a b h
    show pop k (a ||| b) + (a ||| b) / 2 ^ k % 2 = pop k a + a / 2 ^ k % 2 + (pop k b + b / 2 ^ k % 2)
    rw [ih a b h, tb_m, tb_m, tb_m, Nat.testBit_or]
    have : (a &&& b).testBit k = false := by rw [h]; simp
    rw [Nat.testBit_and] at this
    cases h1 : a.testBit k <;> cases h2 : b.testBit k <;> simp_all <;> omega
theorem pop_ext : ∀ k a b, (∀ i, i < k → a.testBit i = b.testBit i) → pop k a = pop k b := by
  intro k
  induction k with
  | zero => intro a b _; rfl
  | succ k ih =>
    intro a b h
    show pop k a + a / 2 ^ k % 2 = pop k b + b / 2 ^ k % 2
    rw [ih a b (fun i hi => h i (by omega)), tb_m, tb_m, h k (by omega)]
section MN
variable {S : et_T}
/-- all that are not changed hold -/
def gdP (S : et_T) (y : Nat) : Prop := ∀ s, s < S 61 50 → nS y s ∨ a_HH S (a_al S) (nS y) s
/-- more that are changed: more that one is told by -/
theorem T_mono (hw : wf_town S) {Y Z : Nat → Prop} (h : ∀ s, Y s → Z s) : ∀ s, a_TT S (a_al S) Y s → a_TT S (a_al S) Z s := by
  have key : ∀ r, (∀ s, a_T S (a_al S) Y r s → a_TT S (a_al S) Z s) ∧ ∀ p k t, a_C S (a_al S) Y r p k t → a_CL S (a_TT S (a_al S) Z) p k t := by
    intro r
    induction r with
    | zero => exact ⟨fun _ z => z.1.elim, fun _ _ _ z => z.elim⟩
    | succ r ih =>
      refine ⟨fun s z => ?_, fun p k t z => a_CL_cl hw (a_cs_m ih.1 (ih.2 p k) z)⟩
      obtain ⟨⟨z1, z2, z3⟩, z4⟩ := z
      have st : a_st S (a_TT S (a_al S) Z) (a_CL S (a_TT S (a_al S) Z)) Y s := a_st_m ih.1 ih.2 z3
      by_cases hz : Z s
      · refine ⟨(a_HH_cl hw).mpr ⟨z1, z2, fun _ => ?_, fun n => absurd hz n⟩, Or.inr hz⟩
        by_cases hy : Y s
        · exact st.1 hy
        · have h4 := z4.resolve_right hy
          have q := st.2 hy
          refine ⟨S 84 (5 * s + 3), ?_, q⟩
          rcases q with q | q | q | q | q
          · omega
          · omega
          · omega
          · omega
          · exact absurd q h4
      · have hy : ¬ Y s := fun q => hz (h s q)
        exact ⟨(a_HH_cl hw).mpr ⟨z1, z2, fun n => absurd n hz, fun _ => st.2 hy⟩, Or.inl (z4.resolve_right hy)⟩
  intro s ⟨⟨r, z⟩, z2⟩
  exact (key r).1 s ⟨z, z2⟩
theorem CL_mono (hw : wf_town S) {T U : Nat → Prop} (h : ∀ s, T s → U s) {p k t : Nat} (z : a_CL S T p k t) : a_CL S U p k t :=
  a_CL_le (D := a_CL S U p k) (fun t q => a_CL_cl hw (a_cs_m h (fun _ x => x) q)) z
/-- out of Y without s, with s told by all the same or told by none: all that held holds -/
theorem T_drop (hw : wf_town S) {Y Z : Nat → Prop} {s : Nat} (h1 : ∀ u, u ≠ s → (Y u ↔ Z u)) (h2 : a_TT S (a_al S) Y s → a_TT S (a_al S) Z s) : ∀ u, a_TT S (a_al S) Y u → a_TT S (a_al S) Z u := by
  have key : ∀ r, (∀ u, a_T S (a_al S) Y r u → a_TT S (a_al S) Z u) ∧ ∀ p k t, a_C S (a_al S) Y r p k t → a_CL S (a_TT S (a_al S) Z) p k t := by
    intro r
    induction r with
    | zero => exact ⟨fun _ z => z.1.elim, fun _ _ _ z => z.elim⟩
    | succ r ih =>
      refine ⟨fun u z => ?_, fun p k t z => a_CL_cl hw (a_cs_m ih.1 (ih.2 p k) z)⟩
      by_cases e : u = s
      · subst e; exact h2 ⟨⟨_, z.1⟩, z.2⟩
      · obtain ⟨⟨z1, z2, z3⟩, z4⟩ := z
        have st : a_st S (a_TT S (a_al S) Z) (a_CL S (a_TT S (a_al S) Z)) Y u := a_st_m ih.1 ih.2 z3
        have q := h1 u e
        refine ⟨(a_HH_cl hw).mpr ⟨z1, z2, fun n => st.1 (q.mpr n), fun n => st.2 (fun m => n (q.mp m))⟩, ?_⟩
        rcases z4 with z4 | z4
        · exact Or.inl z4
        · exact Or.inr (q.mp z4)
  intro u ⟨⟨r, z⟩, z2⟩
  exact (key r).1 u ⟨z, z2⟩
theorem H_drop (hw : wf_town S) {Y Z : Nat → Prop} {s u : Nat} (h1 : ∀ u, u ≠ s → (Y u ↔ Z u)) (h2 : a_TT S (a_al S) Y s → a_TT S (a_al S) Z s) (hu : u ≠ s) (z : a_HH S (a_al S) Y u) : a_HH S (a_al S) Z u := by
  obtain ⟨z1, z2, z3⟩ := (a_HH_cl hw).mp z
  have t := T_drop hw h1 h2
  have st : a_st S (a_TT S (a_al S) Z) (a_CL S (a_TT S (a_al S) Z)) Y u := a_st_m t (fun p k t' q => CL_mono hw t q) z3
  have q := h1 u hu
  exact (a_HH_cl hw).mpr ⟨z1, z2, fun n => st.1 (q.mpr n), fun n => st.2 (fun m => n (q.mp m))⟩
/-- reachable: what holds when all are changed -/
def mnR (S : et_T) : Nat → Prop := a_HH S (a_al S) (a_al S)
theorem mnR_T (s : Nat) : a_TT S (a_al S) (a_al S) s ↔ mnR S s := ⟨fun z => z.1, fun z => ⟨z, Or.inr (a_HH_n z).1⟩⟩
def mnM (S : et_T) (s : Nat) : Prop := a_al S s ∧ ¬ (s < S 61 50 ∧ a_al S s ∧ a_sd S (mnR S) s)
theorem T_R (hw : wf_town S) (Y : Nat → Prop) {s : Nat} (z : a_TT S (a_al S) Y s) : mnR S s := by
  have hs := (a_HH_n z.1).1
  have := T_mono hw (Y := fun u => Y u ∧ a_al S u) (Z := a_al S) (fun u q => q.2) s
  refine (mnR_T s).mp (this ?_)
  have e : ∀ u, a_TT S (a_al S) Y u → a_TT S (a_al S) (fun u => Y u ∧ a_al S u) u := by
    have key : ∀ r, (∀ u, a_T S (a_al S) Y r u → a_TT S (a_al S) (fun u => Y u ∧ a_al S u) u) ∧ ∀ p k t, a_C S (a_al S) Y r p k t → a_CL S (a_TT S (a_al S) (fun u => Y u ∧ a_al S u)) p k t := by
      intro r
      induction r with
      | zero => exact ⟨fun _ z => z.1.elim, fun _ _ _ z => z.elim⟩
      | succ r ih =>
        refine ⟨fun u z => ?_, fun p k t z => a_CL_cl hw (a_cs_m ih.1 (ih.2 p k) z)⟩
        obtain ⟨⟨z1, z2, z3⟩, z4⟩ := z
        have st : a_st S (a_TT S (a_al S) (fun u => Y u ∧ a_al S u)) (a_CL S (a_TT S (a_al S) (fun u => Y u ∧ a_al S u))) Y u := a_st_m ih.1 ih.2 z3
        refine ⟨(a_HH_cl hw).mpr ⟨z1, z2, fun n => st.1 n.1, fun n => st.2 (fun m => n ⟨m, z1⟩)⟩, ?_⟩
        rcases z4 with z4 | z4
        · exact Or.inl z4
        · exact Or.inr ⟨z4, z1⟩
    intro u ⟨⟨r, z⟩, z2⟩
    exact (key r).1 u ⟨z, z2⟩
  exact e s z
/-- what must be changed is changed in all good ones -/
theorem mn_must (hw : wf_town S) {y : Nat} (G : gdP S y) {s : Nat} (h : mnM S s) : nS y s := by
  rcases G s h.1 with z | z
  · exact z
  · by_cases hy : nS y s
    · exact hy
    · exfalso
      refine h.2 ⟨h.1, h.1, ?_⟩
      have st := ((a_HH_cl hw).mp z).2.2.2 hy
      exact a_sh_m (fun u q => T_R hw _ q) (fun u q => CL_mono hw (fun v w => T_R hw _ w) q) st
/-- what helps nobody may be left as it is -/
theorem mn_drop (hw : wf_town S) {y x : Nat} (G : gdP S y) {s : Nat} (hs : s < S 61 50) (hm : ¬ mnM S s) (hx : ∀ u, nS x u ↔ (nS y u ∧ u ≠ s)) (hq : a_TT S (a_al S) (mnM S) s ∨ ¬ mnR S s) : gdP S x := by
  have h1 : ∀ u, u ≠ s → (nS y u ↔ nS x u) := fun u e => ⟨fun z => (hx u).mpr ⟨z, e⟩, fun z => ((hx u).mp z).1⟩
  have h2 : a_TT S (a_al S) (nS y) s → a_TT S (a_al S) (nS x) s := by
    intro z
    rcases hq with q | q
    · refine T_mono hw (fun u m => (hx u).mpr ⟨mn_must hw G m, fun e => ?_⟩) s q
      subst e; exact hm m
    · exact absurd (T_R hw _ z) q
  have hs2 : a_HH S (a_al S) (nS x) s := by
    rcases hq with q | q
    · exact (T_mono hw (fun u m => (hx u).mpr ⟨mn_must hw G m, fun e => by subst e; exact hm m⟩) s q).1
    · have sd : a_sd S (mnR S) s := Classical.byContradiction fun n => hm ⟨hs, fun z => n z.2.2⟩
      have h4 : S 84 (5 * s + 3) = 4 := by
        refine Classical.byContradiction fun n => q ((a_HH_cl hw).mpr ⟨hs, hs, fun _ => ⟨S 84 (5 * s + 3), ?_, ?_⟩, fun n => absurd hs n⟩)
        · rcases sd with z | z | z | z | z
          · omega
          · omega
          · omega
          · omega
          · exact absurd z n
        · have e : a_TT S (a_al S) (a_al S) = mnR S := funext fun u => propext (mnR_T u)
          rw [e]; exact sd
      exact (a_HH_cl hw).mpr ⟨hs, hs, fun n => absurd rfl ((hx s).mp n).2, fun _ => Or.inr (Or.inr (Or.inr (Or.inr h4)))⟩
  intro u hu
  by_cases e : u = s
  · subst e; exact Or.inr hs2
  · rcases G u hu with z | z
    · exact Or.inl ((h1 u e).mp z)
    · exact Or.inr (H_drop hw h1 h2 e z)
end MN
