/-! the mend: the first good one is must and some of the helpful -/
theorem or_2 (a b : Nat) : (a ||| b) / 2 = a / 2 ||| b / 2 := by
  apply Nat.eq_of_testBit_eq
  intro i
  rw [show (2 : Nat) = 2 ^ 1 from rfl, Nat.testBit_div_two_pow, Nat.testBit_or, Nat.testBit_or, Nat.testBit_div_two_pow, Nat.testBit_div_two_pow]
theorem or_m (a b : Nat) : (a ||| b) % 2 = if a % 2 = 1 ∨ b % 2 = 1 then 1 else 0 := by
  have h : (a ||| b).testBit 0 = (a.testBit 0 || b.testBit 0) := Nat.testBit_or ..
  rw [Nat.testBit_zero, Nat.testBit_zero, Nat.testBit_zero] at h
  have ha := Nat.mod_two_eq_zero_or_one a
  have hb := Nat.mod_two_eq_zero_or_one b
  have hc := Nat.mod_two_eq_zero_or_one (a ||| b)
  rcases ha with ha | ha <;> rcases hb with hb | hb <;> rcases hc with hc | hc <;> simp_all
theorem or_ad : ∀ N a b, a < 2 ^ N → b < 2 ^ N → a &&& b = 0 → a ||| b = a + b := by
  intro N
  induction N with
  | zero =>
    intro a b ha hb _
    simp at ha hb
    subst ha; subst hb; rfl
  | succ N ih =>
    intro a b ha hb h
    rw [Nat.pow_succ] at ha hb
    have d := or_2 a b
    have r := or_m a b
    have m := and_m a b
    have e := and_2 a b
    rw [h] at m e
    rw [ih (a / 2) (b / 2) (by omega) (by omega) (by omega)] at d
    have ma := Nat.mod_two_eq_zero_or_one a
    have mb := Nat.mod_two_eq_zero_or_one b
    have r2 : (a ||| b) % 2 = a % 2 + b % 2 := by
      rw [r]
      rcases ma with ma | ma <;> rcases mb with mb | mb <;> rw [ma, mb] <;> first | decide | (exfalso; rw [ma, mb] at m; omega)
    omega
theorem pop_sub : ∀ k a b : Nat, (∀ i, i < k → a.testBit i = true → b.testBit i = true) → pop k a ≤ pop k b ∧ ((∃ i, i < k ∧ b.testBit i = true ∧ a.testBit i = false) → pop k a < pop k b) := by
  intro k
  induction k with
  | zero => intro a b _; exact ⟨Nat.le_refl _, fun ⟨i, hi, _⟩ => by omega⟩
  | succ k ih =>
    intro a b h
    obtain ⟨i1, i2⟩ := ih a b (fun i hi => h i (by omega))
    have hk := h k (by omega)
    show pop k a + a / 2 ^ k % 2 ≤ pop k b + b / 2 ^ k % 2 ∧ (_ → pop k a + a / 2 ^ k % 2 < pop k b + b / 2 ^ k % 2)
    rw [tb_m, tb_m]
    refine ⟨?_, fun ⟨i, hi, hb, ha⟩ => ?_⟩
    · cases q : a.testBit k
      · simp; omega
      · rw [hk q]; simp; omega
    · by_cases e : i = k
      · subst e; rw [ha, hb]; simp; omega
      · have := i2 ⟨i, by omega, hb, ha⟩
        cases q : a.testBit k
        · simp; omega
        · rw [hk q]; simp; omega
theorem sub_t {m H : Nat} (h : m &&& H = m) (i : Nat) (hi : m.testBit i = true) : H.testBit i = true := by
  rw [← h, Nat.testBit_and] at hi
  simp at hi; exact hi.2
theorem sub_of {m H : Nat} (h : ∀ i, m.testBit i = true → H.testBit i = true) : m &&& H = m := by
  apply Nat.eq_of_testBit_eq
  intro i
  rw [Nat.testBit_and]
  cases q : m.testBit i
  · rfl
  · rw [h i q]; rfl
theorem big_f {y k i : Nat} (h : y < 2 ^ k) (hi : k ≤ i) : y.testBit i = false := Nat.testBit_lt_two_pow (Nat.lt_of_lt_of_le h (Nat.pow_le_pow_right (by decide) hi))
theorem sub_full {m H : Nat} (hH : H < 2 ^ 31) (h : m &&& H = m) (hp : pop 31 H ≤ pop 31 m) : m = H := by
  apply Nat.eq_of_testBit_eq
  intro i
  cases q : m.testBit i with
  | true => rw [sub_t h i q]
  | false =>
    cases r : H.testBit i with
    | false => rfl
    | true =>
      have hi : i < 31 := by
        rcases Nat.lt_or_ge i 31 with z | z
        · exact z
        · rw [big_f hH z] at r; cases r
      have := (pop_sub 31 m H (fun i _ => sub_t h i)).2 ⟨i, hi, r, q⟩
      omega
theorem bfr_or {M a b : Nat} (hM : M < 2 ^ 31) (ha : a < 2 ^ 31) (hb : b < 2 ^ 31) (da : M &&& a = 0) (db : M &&& b = 0) : bfr (M ||| a) (M ||| b) ↔ bfr a b := by
  unfold bfr
  rw [pop_or 31 M a da, pop_or 31 M b db, or_ad 31 M a hM ha da, or_ad 31 M b hM hb db]
  omega
/-! the first good one: one more asked -/
theorem fst_0 {G : Nat → Prop} {N : Nat} (h : ∀ y, y < N → ¬ G y) (g : G N) : fst G (N + 1) N := ⟨by omega, g, fun z hz gz q => by
  by_cases e : z = N
  · subst e; unfold bfr at q; omega
  · exact h z (by omega) gz⟩
theorem fst_k {G : Nat → Prop} {N b : Nat} (h : fst G N b) (g : ¬ G N ∨ pop 31 b ≤ pop 31 N) : fst G (N + 1) b := ⟨by have := h.1; omega, h.2.1, fun z hz gz q => by
  by_cases e : z = N
  · subst e
    rcases g with g | g
    · exact g gz
    · have := h.1; unfold bfr at q; omega
  · exact h.2.2 z (by omega) gz q⟩
theorem fst_n {G : Nat → Prop} {N b : Nat} (h : fst G N b) (g : G N) (p : pop 31 N < pop 31 b) : fst G (N + 1) N := ⟨by omega, g, fun z hz gz q => by
  by_cases e : z = N
  · subst e; unfold bfr at q; omega
  · have := h.2.2 z (by omega) gz
    unfold bfr at this q
    omega⟩
theorem fst_ex {G : Nat → Prop} : ∀ N, (∃ y, y < N ∧ G y) → ∃ y, fst G N y := by
  intro N
  induction N with
  | zero => intro ⟨y, hy, _⟩; omega
  | succ N ih =>
    intro _
    by_cases h : ∃ y, y < N ∧ G y
    · obtain ⟨b, hb⟩ := ih h
      by_cases g : G N ∧ pop 31 N < pop 31 b
      · exact ⟨N, fst_n hb g.1 g.2⟩
      · refine ⟨b, fst_k hb ?_⟩
        by_cases q : G N
        · exact Or.inr (by have : ¬ pop 31 N < pop 31 b := fun z => g ⟨q, z⟩; omega)
        · exact Or.inl q
    · rename_i hx
      obtain ⟨y, hy, gy⟩ := hx
      have : y = N := Classical.byContradiction fun n => h ⟨y, by omega, gy⟩
      subst this
      exact ⟨y, fst_0 (fun z hz gz => h ⟨z, hz, gz⟩) gy⟩
section MQ
variable {S : et_T}
def mnH (S : et_T) (s : Nat) : Prop := ((a_al S s ∧ ¬ mnM S s) ∧ mnR S s) ∧ ¬ a_TT S (a_al S) (mnM S) s
theorem gd_all (hn : S 61 50 ≤ 30) : gdP S (2 ^ S 61 50 - 1) := fun s hs => Or.inl (by
  unfold nS
  rw [Nat.testBit_two_pow_sub_one]
  simp [hs])
theorem pop_1 : ∀ s, s < 31 → pop 31 (2 ^ s) = 1 := by decide +kernel
theorem mn_y0 (hw : wf_town S) (hn : S 61 50 ≤ 20) {y : Nat} (F : fst (gdP S) (2 ^ S 61 50) y) : ∃ m, m &&& nM (mnH S) = m ∧ y = nM (mnM S) ||| m ∧ nM (mnM S) &&& m = 0 := by
  have hy := F.1
  have h20 : (2 : Nat) ^ S 61 50 ≤ 2 ^ 20 := Nat.pow_le_pow_right (by decide) hn
  have M32 : ∀ i, (nM (mnM S)).testBit i = true ↔ mnM S i := by
    intro i
    by_cases e : i < 32
    · exact nM_b _ e
    · constructor
      · intro z
        have : nM (mnM S) < 2 ^ 32 := (mI (mnM S)).toBitVec.isLt
        rw [big_f this (by omega)] at z; cases z
      · intro z; have : i < S 61 50 := z.1; omega
  have H32 : ∀ i, (nM (mnH S)).testBit i = true ↔ mnH S i := by
    intro i
    by_cases e : i < 32
    · exact nM_b _ e
    · constructor
      · intro z
        have : nM (mnH S) < 2 ^ 32 := (mI (mnH S)).toBitVec.isLt
        rw [big_f this (by omega)] at z; cases z
      · intro z; have : i < S 61 50 := z.1.1.1; omega
  have key : ∀ s, nS y s → mnM S s ∨ mnH S s := by
    intro s hs
    have s20 : s < S 61 50 := by
      rcases Nat.lt_or_ge s (S 61 50) with z | z
      · exact z
      · unfold nS at hs; rw [big_f hy z] at hs; cases hs
    by_cases hm : mnM S s
    · exact Or.inl hm
    · refine Or.inr (Classical.byContradiction fun nh => ?_)
      have hq : a_TT S (a_al S) (mnM S) s ∨ ¬ mnR S s := by
        by_cases q : mnR S s
        · exact Or.inl (Classical.byContradiction fun n => nh ⟨⟨⟨s20, hm⟩, q⟩, n⟩)
        · exact Or.inr q
      have xb : ∀ u, nS (nM (fun u => nS y u ∧ u ≠ s)) u ↔ (nS y u ∧ u ≠ s) := by
        intro u
        by_cases e : u < 32
        · exact nM_b _ e
        · constructor
          · intro z
            have : nM (fun u => nS y u ∧ u ≠ s) < 2 ^ 32 := (mI (fun u => nS y u ∧ u ≠ s)).toBitVec.isLt
            have z' : (nM (fun u => nS y u ∧ u ≠ s)).testBit u = true := z
            rw [big_f this (by omega)] at z'; cases z'
          · intro z
            have := z.1
            unfold nS at this
            rw [big_f hy (by omega)] at this; cases this
      have G := mn_drop hw F.2.1 s20 hm xb hq
      have dj : nM (fun u => nS y u ∧ u ≠ s) &&& 2 ^ s = 0 := by
        apply Nat.eq_of_testBit_eq
        intro i
        rw [Nat.testBit_and, Nat.testBit_two_pow, Nat.zero_testBit]
        by_cases e : s = i
        · cases q : (nM (fun u => nS y u ∧ u ≠ s)).testBit i with
          | false => rfl
          | true => exact absurd e.symm ((xb i).mp q).2
        · simp [e]
      have eo : y = nM (fun u => nS y u ∧ u ≠ s) ||| 2 ^ s := by
        apply Nat.eq_of_testBit_eq
        intro i
        rw [Nat.testBit_or, Nat.testBit_two_pow]
        by_cases e : s = i
        · subst e
          rw [show y.testBit s = true from hs]; simp
        · have xi : (nM (fun u => nS y u ∧ u ≠ s)).testBit i = true ↔ (nS y i ∧ i ≠ s) := xb i
          cases q : y.testBit i with
          | false =>
            cases r : (nM (fun u => nS y u ∧ u ≠ s)).testBit i with
            | false => simp [e]
            | true =>
              have w : y.testBit i = true := (xi.mp r).1
              rw [q] at w; cases w
          | true => rw [xi.mpr ⟨q, fun z => e z.symm⟩]; rfl
      have pp := pop_or 31 _ _ dj
      rw [← eo, pop_1 s (by omega)] at pp
      have xl : nM (fun u => nS y u ∧ u ≠ s) < 2 ^ S 61 50 := nM_lt fun i _ z => by
        rcases Nat.lt_or_ge i (S 61 50) with q | q
        · exact q
        · have := z.1; unfold nS at this; rw [big_f hy q] at this; cases this
      exact F.2.2 _ xl G (Or.inl (by omega))
  refine ⟨y &&& nM (mnH S), by rw [Nat.and_assoc, Nat.and_self], ?_, ?_⟩
  · apply Nat.eq_of_testBit_eq
    intro i
    rw [Nat.testBit_or, Nat.testBit_and]
    cases q : y.testBit i with
    | true =>
      rcases key i q with z | z
      · rw [(M32 i).mpr z]; rfl
      · rw [(H32 i).mpr z]; simp
    | false =>
      cases r : (nM (mnM S)).testBit i with
      | false => rfl
      | true =>
        have := mn_must hw F.2.1 ((M32 i).mp r)
        unfold nS at this
        rw [q] at this; cases this
  · apply Nat.eq_of_testBit_eq
    intro i
    rw [Nat.testBit_and, Nat.testBit_and, Nat.zero_testBit]
    cases r : (nM (mnM S)).testBit i with
    | false => rfl
    | true =>
      cases h : (nM (mnH S)).testBit i with
      | false => simp
      | true => exact absurd ((M32 i).mp r) ((H32 i).mp h).1.1.2
/-- disjoint: must and helpful -/
theorem mn_dj (hn : S 61 50 ≤ 20) {m : Nat} (h : m &&& nM (mnH S) = m) : nM (mnM S) &&& m = 0 ∧ nM (mnM S) < 2 ^ 20 ∧ nM (mnH S) < 2 ^ 20 ∧ m < 2 ^ 20 := by
  have l1 : nM (mnM S) < 2 ^ 20 := nM_lt fun i _ z => by have : i < S 61 50 := z.1; omega
  have l2 : nM (mnH S) < 2 ^ 20 := nM_lt fun i _ z => by have : i < S 61 50 := z.1.1.1; omega
  have l3 : m < 2 ^ 20 := Nat.lt_of_le_of_lt (by rw [← h]; exact Nat.and_le_right) l2
  refine ⟨?_, l1, l2, l3⟩
  apply Nat.eq_of_testBit_eq
  intro i
  rw [Nat.testBit_and, Nat.zero_testBit]
  cases r : (nM (mnM S)).testBit i with
  | false => rfl
  | true =>
    cases q : m.testBit i with
    | false => rfl
    | true =>
      have hi : i < 32 := by
        rcases Nat.lt_or_ge i 32 with z | z
        · exact z
        · rw [big_f l1 (by omega)] at r; cases r
      have a := (nM_b _ hi).mp r
      have b := (nM_b _ hi).mp (sub_t h i q)
      exact absurd a b.1.1.2
/-- found in order: it is the first good one -/
theorem mn_found (hw : wf_town S) (hn : S 61 50 ≤ 20) {y m : Nat} (F : fst (gdP S) (2 ^ S 61 50) y) (hm : m &&& nM (mnH S) = m) (g : gdP S (nM (mnM S) ||| m)) (hl : nM (mnM S) ||| m < 2 ^ S 61 50)
    (h : ∀ x, x &&& nM (mnH S) = x → gdP S (nM (mnM S) ||| x) → ¬ bfr x m) : nM (mnM S) ||| m = y := by
  obtain ⟨m0, s0, e0, -⟩ := mn_y0 hw hn F
  obtain ⟨d1, l1, l2, l3⟩ := mn_dj hn hm
  obtain ⟨d2, -, -, l4⟩ := mn_dj hn s0
  have b := bfr_or (show nM (mnM S) < 2 ^ 31 by omega) (show m0 < 2 ^ 31 by omega) (show m < 2 ^ 31 by omega) d2 d1
  rw [← e0] at b
  rcases bfr_t (a := nM (mnM S) ||| m) (b := y) with q | q | q
  · exact absurd q (F.2.2 _ hl g)
  · exact q
  · exact absurd (b.mp q) (h m0 s0 (by rw [← e0]; exact F.2.1))
end MQ
