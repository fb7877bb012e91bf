/-! the model's questions: what they answer, by rounds R of the sayings and K of the things -/
def mB (S : et_T) (g : et_G) : Prop := rc_M S g ∧ wf_town S ∧ wf_led S
theorem mb_n {n k : Nat} (hn : n < 2 ^ 31) (hk : k < 32) : (nI n >>> (nI k &&& nI 31)) &&& nI 1 = bI (n.testBit k = true) := by
  rw [mI_n (show n < 2 ^ 32 by omega), mb_m _ hk]
def tl_P (S : et_T) (X Y : Nat → Prop) (p h t nt s : Nat) : Prop := X s ∧ a_hr S p h s ∧ a_ab S t nt s ∧ (S 84 (5 * s + 3) ≠ 4 ∨ Y s)
def m_T (S : et_T) (X Y : Nat → Prop) (R : Nat → Nat) (r s : Nat) : Prop := s < S 61 50 ∧ X s ∧ R s ≤ r ∧ (S 84 (5 * s + 3) ≠ 4 ∨ Y s)
def m_C (S : et_T) (K : Nat → Nat) (k r u : Nat) : Prop := u < S 61 5 ∧ K (8 * k + u) ≤ r
def vb (S : et_T) (X Y : Nat → Prop) (R K : Nat → Nat) (k p h t nt w v : Nat) : Prop :=
  v ≤ 1000 ∧ (v < 1000 → 1 ≤ v ∧ a_sh S (m_T S X Y R (v - 1)) (m_C S K k (v - 1)) p h t nt w) ∧ ∀ r, a_sh S (m_T S X Y R r) (m_C S K k r) p h t nt w → v ≤ r + 1
/-- what the model has by it when it asks -/
def mE (S : et_T) (X Y : Nat → Prop) (R K : Nat → Nat) (np : Nat) (g : et_G) : Prop :=
  mB S g ∧ g.1 61 60 = mI X ∧ g.1 61 61 = mI Y ∧ (∀ s, s < S 61 50 → g.1 86 s = nI (R s) ∧ R s ≤ 1000) ∧ np ≤ 21 ∧ ∀ j, j < 8 * np → g.1 91 j = nI (K j) ∧ K j ≤ 1000
section MB
variable {S : et_T} {g : et_G}
theorem mB_c (B : mB S g) : g.1 61 50 = nI (S 61 50) ∧ S 61 50 ≤ 20 ∧ g.1 61 5 = nI (S 61 5) ∧ S 61 5 ≤ 8 ∧ g.1 61 6 = nI (S 61 6) ∧ S 61 6 ≤ 6 ∧ g.1 61 4 = nI (S 61 4) ∧ S 61 4 ≤ 6 ∧ S 61 3 ≤ 6 := by
  obtain ⟨⟨M, -⟩, ⟨-, -, -, a, b, c, d, -⟩, ⟨e, -⟩⟩ := B
  exact ⟨M 61 50 rfl, e, M 61 5 rfl, c, M 61 6 rfl, d, M 61 4 rfl, b, a⟩
theorem mB_s (B : mB S g) {s : Nat} (hs : s < S 61 50) : S 84 (5 * s) < S 61 4 ∧ S 84 (5 * s + 1) < 24 ∧ S 84 (5 * s + 2) < S 61 5 ∧ S 84 (5 * s + 3) < 5 ∧ S 84 (5 * s + 4) ≤ 1 := B.2.2.2 s hs
theorem mB_t (B : mB S g) {t : Nat} (ht : t < S 61 5) : S 66 (5 * t + 1) < S 61 3 ∧ S 66 (5 * t + 2) < 24 ∧ S 66 (5 * t + 3) ≤ 1 ∧ S 66 (5 * t + 4) ≤ 1 := by
  obtain ⟨-, ⟨-, -, -, -, -, -, -, wT, -⟩, -⟩ := B
  exact (wT t ht).2
theorem mB_p (B : mB S g) {p h : Nat} (hp : p < S 61 4) (hh : h < 24) : S 69 (24 * p + h) < S 61 3 := by
  have c := mB_c B
  obtain ⟨-, ⟨-, -, -, -, -, -, -, -, -, f, -⟩, -⟩ := B
  exact f _ (by omega)
theorem mB_n (B : mB S g) {i : Nat} (hi : i < 6) : S 68 i < 64 := by
  obtain ⟨-, ⟨-, -, -, -, -, -, -, -, -, -, f, -⟩, -⟩ := B
  exact f i hi
theorem mB_r (B : mB S g) {r : Nat} (hr : r < S 61 6) : 2 ≤ S 67 (5 * r) ∧ S 67 (5 * r) ≤ 4 ∧ ∀ k, k < S 67 (5 * r) → S 67 (5 * r + 1 + k) < S 61 5 := by
  obtain ⟨-, ⟨-, -, -, -, -, -, -, -, f, -⟩, -⟩ := B
  exact f r hr
theorem of_m (B : mB S g) {s w : Nat} (h : 5 * s + w < 100) : fn_Mo_of (nI s) (nI w) g = some (nI (S 84 (5 * s + w)), g) := by
  unfold fn_Mo_of
  simp (disch := omega) only [ni_of, pk_mul, nI_add, nI_clamp, ib_e, ck_t]
  rw [B.1.1 84 _ rfl]
theorem iby_m (B : mB S g) {p h t nt w : Nat} (hp : p < S 61 4) (hh : h < 24) (ht : t < S 61 5) (hn : nt ≤ 1) (hw : w ≤ 1) : fn_Mo_isBy (nI p) (nI h) (nI t) (nI nt) (nI w) g = some (bI (a_oh S p h t nt w), g) := by
  have c := mB_c B
  obtain ⟨w1, w2, w3, w4⟩ := mB_t B ht
  have r66 : ∀ j, g.1 66 j = nI (S 66 j) := fun j => B.1.1 66 j rfl
  have r69 : ∀ j, g.1 69 j = nI (S 69 j) := fun j => B.1.1 69 j rfl
  have r68 : ∀ j, g.1 68 j = nI (S 68 j) := fun j => B.1.1 68 j rfl
  have q1 := mB_p B hp w2
  have q2 := mB_n B (show S 69 (24 * p + S 66 (5 * t + 2)) < 6 by omega)
  unfold fn_Mo_isBy
  simp (disch := omega) only [ni_of, nI_clamp, ib_e, ck_t, bd_s, et_b, nI_add, if_p, ni_eq, ni_lt, ni_le, b_e0, b_e1, io_n, pk_mul, r66, r69, r68, mb_n]
  by_cases h1 : S 66 (5 * t + 2) ≤ h
  · rw [io_t h1]
    by_cases h2 : w = 0
    · rw [io_t h2]
      simp only [io_io]
      rw [io_s]
      exact congrArg some (congrArg (·, g) (bI_c ⟨fun z => Or.inl ⟨h2, h1, z⟩, fun z => z.elim (fun z => z.2.2) (fun z => by omega)⟩))
    · rw [io_f h2]
      simp only [io_io]
      rw [io_s]
      exact congrArg some (congrArg (·, g) (bI_c ⟨fun z => Or.inr ⟨by omega, h1, z⟩, fun z => z.elim (fun z => by omega) (fun z => z.2.2)⟩))
  · rw [io_f h1, bI_f (fun z => z.elim (fun z => h1 z.2.1) (fun z => h1 z.2.1))]
theorem ito_m (B : mB S g) {X Y : Nat → Prop} (hX : g.1 61 60 = mI X) (hY : g.1 61 61 = mI Y) {s p h t nt : Nat} (hs : s < S 61 50) (hp : p < S 61 4) (hh : h < 24) (ht : t < S 61 5) (hn : nt ≤ 1) : fn_Mo_isTold (nI s) (nI p) (nI h) (nI t) (nI nt) g = some (bI (tl_P S X Y p h t nt s), g) := by
  have c := mB_c B
  obtain ⟨w1, w2, w3, w4, w5⟩ := mB_s B hs
  have r69 : ∀ j, g.1 69 j = nI (S 69 j) := fun j => B.1.1 69 j rfl
  have q1 := mB_p B hp w2
  have q2 := mB_p B w1 w2
  unfold fn_Mo_isTold
  simp (disch := omega) only [ni_of, nI_clamp, ib_e, ck_t, bd_s, et_b, nI_add, if_p, ni_eq, ni_lt, ni_le, b_e0, b_e1, io_n, pk_mul, r69, hX, hY, mb_m, Nat.add_zero, of_m B]
  by_cases h1 : X s
  · rw [io_t h1]
    by_cases h2 : S 84 (5 * s) = p
    · rw [io_t h2, bI_f (fun z => z.2.1.2.2.1 h2)]
    · rw [io_f h2]
      by_cases h3 : S 84 (5 * s + 2) = t
      · rw [io_t h3]
        by_cases h4 : S 84 (5 * s + 4) = nt
        · rw [io_t h4]
          by_cases h5 : S 84 (5 * s + 1) ≤ h
          · rw [io_t h5]
            by_cases h6 : S 69 (24 * p + S 84 (5 * s + 1)) = S 69 (24 * S 84 (5 * s) + S 84 (5 * s + 1))
            · rw [io_t h6]
              have go : (S 84 (5 * s + 3) ≠ 4 ∨ Y s) → tl_P S X Y p h t nt s := fun z => ⟨h1, ⟨hs, h5, h2, h6⟩, ⟨hs, h3, h4⟩, z⟩
              by_cases h7 : Y s
              · rw [io_t h7, bI_t (go (Or.inr h7))]
              · rw [io_f h7]
                by_cases h8 : S 84 (5 * s + 3) = 4
                · rw [io_t h8, bI_f (fun z => z.2.2.2.elim (fun z => z h8) h7)]
                · rw [io_f h8, bI_t (go (Or.inl h8))]
            · rw [io_f h6, bI_f (fun z => h6 z.2.1.2.2.2)]
          · rw [io_f h5, bI_f (fun z => h5 z.2.1.2.1)]
        · rw [io_f h4, bI_f (fun z => h4 z.2.2.1.2.2)]
      · rw [io_f h3, bI_f (fun z => h3 z.2.2.1.2.1)]
  · rw [io_f h1, bI_f (fun z => h1 z.1)]
theorem bto_m {X Y : Nat → Prop} {R K : Nat → Nat} {np : Nat} (E : mE S X Y R K np g) {p h t nt : Nat} (hp : p < S 61 4) (hh : h < 24) (ht : t < S 61 5) (hn : nt ≤ 1) : ∃ v, fn_Mo_byTold (nI p) (nI h) (nI t) (nI nt) g = some (nI v, g) ∧ v ≤ 1000 ∧ (v < 1000 → ∃ s, tl_P S X Y p h t nt s ∧ v = R s + 1) ∧ ∀ s, tl_P S X Y p h t nt s → v ≤ R s + 1 := by
  obtain ⟨B, hX, hY, hR, -, -⟩ := E
  have c := mB_c B
  unfold fn_Mo_byTold
  refine lp0 (fun m i (v : Nat) => fn_Mo_byTold_8 (nI p) (nI h) (nI t) (nI nt) m (nI v) i g) (fun o => ∃ v, o = some (nI v, g) ∧ v ≤ 1000 ∧ (v < 1000 → ∃ s, tl_P S X Y p h t nt s ∧ v = R s + 1) ∧ ∀ s, tl_P S X Y p h t nt s → v ≤ R s + 1) (S 61 50) (by omega) (fun k v => v ≤ 1000 ∧ (v < 1000 → ∃ s, tl_P S X Y p h t nt s ∧ v = R s + 1) ∧ ∀ s, s < k → tl_P S X Y p h t nt s → v ≤ R s + 1) 1000 ⟨Nat.le_refl _, fun z => by omega, fun s hs => by omega⟩ ?_ ?_
  · intro m v ⟨a1, a2, a3⟩
    refine ⟨v, ?_, a1, a2, fun s hs => a3 s hs.2.1.1 hs⟩
    show fn_Mo_byTold_8 (nI p) (nI h) (nI t) (nI nt) (m + 1) (nI v) (nI (S 61 50)) g = _
    rw [fn_Mo_byTold_8, c.1, if_pos (nI_le (Nat.le_refl _) (by omega))]
  · intro m k v hk ⟨a1, a2, a3⟩ ih
    obtain ⟨r1, r2⟩ := hR k hk
    have e : fn_Mo_byTold_8 (nI p) (nI h) (nI t) (nI nt) (m + 1) (nI v) (nI k) g = io (v ≤ R k + 1) (fn_Mo_byTold_8 (nI p) (nI h) (nI t) (nI nt) m (nI v) (nI (k + 1)) g) (io (tl_P S X Y p h t nt k) (fn_Mo_byTold_8 (nI p) (nI h) (nI t) (nI nt) m (nI (R k + 1)) (nI (k + 1)) g) (fn_Mo_byTold_8 (nI p) (nI h) (nI t) (nI nt) m (nI v) (nI (k + 1)) g)) := by
      rw [fn_Mo_byTold_8, c.1, if_neg (nI_ge hk (by omega))]
      simp (disch := omega) only [ni_of, nI_clamp, ib_e, ck_t, bd_s, et_b, nI_add, if_p, ni_eq, ni_lt, ni_le, b_e0, b_e1, io_n, r1, ito_m B hX hY hk hp hh ht hn]
    show ∃ v', fn_Mo_byTold_8 (nI p) (nI h) (nI t) (nI nt) (m + 1) (nI v) (nI k) g = some (nI v', g) ∧ _
    rw [e]
    have old : ∀ j, ¬ (¬ v ≤ R j + 1 ∧ tl_P S X Y p h t nt j) → (tl_P S X Y p h t nt j → v ≤ R j + 1) := fun j hj z => Classical.byContradiction fun q => hj ⟨q, z⟩
    have keep : (tl_P S X Y p h t nt k → v ≤ R k + 1) → ∀ s, s < k + 1 → tl_P S X Y p h t nt s → v ≤ R s + 1 := fun q s hs z => by
      by_cases e : s = k
      · subst e; exact q z
      · exact a3 s (by omega) z
    by_cases h1 : v ≤ R k + 1
    · rw [io_t h1]; exact ih v ⟨a1, a2, keep (fun _ => h1)⟩
    · rw [io_f h1]
      by_cases h2 : tl_P S X Y p h t nt k
      · rw [io_t h2]
        refine ih (R k + 1) ⟨by omega, fun _ => ⟨k, h2, rfl⟩, fun s hs z => ?_⟩
        by_cases e : s = k
        · subst e; exact Nat.le_refl _
        · have := a3 s (by omega) z; omega
      · rw [io_f h2]; exact ih v ⟨a1, a2, keep (fun z => absurd z h2)⟩
/-- the greatest of a rule's -/
theorem br_40 {X Y : Nat → Prop} {R K : Nat → Nat} {np : Nat} (E : mE S X Y R K np g) {k t r v : Nat} (hk : k < np) (hr : r < S 61 6) (f : Int32 → Int32 → et_G → Option (Int32 × et_G)) (Q : Option (Int32 × et_G) → Prop)
    (kk : ∀ mo, mo ≤ 1000 → (∀ j, 1 ≤ j → j < S 67 (5 * r) → K (8 * k + S 67 (5 * r + 1 + j)) ≤ mo) → (∀ m, (∀ j, 1 ≤ j → j < S 67 (5 * r) → K (8 * k + S 67 (5 * r + 1 + j)) ≤ m) → mo ≤ m) → Q (fn_Mo_byRules_102 f (nI k) (nI t) (nI v) (nI r) (nI mo) g)) :
    Q (fn_Mo_byRules_40 f (nI k) (nI t) (nI v) (nI r) 1000000 0 1 g) := by
  obtain ⟨B, hX, hY, hR, hnp, hK⟩ := E
  have c := mB_c B
  obtain ⟨l1, l2, l3⟩ := mB_r B hr
  have r67 : ∀ j, g.1 67 j = nI (S 67 j) := fun j => B.1.1 67 j rfl
  refine lp (fun m i (mo : Nat) => fn_Mo_byRules_40 f (nI k) (nI t) (nI v) (nI r) m (nI mo) i g) Q (S 67 (5 * r)) (fun q mo => 1 ≤ q ∧ mo ≤ 1000 ∧ (∀ j, 1 ≤ j → j < q → K (8 * k + S 67 (5 * r + 1 + j)) ≤ mo) ∧ ∀ m, (∀ j, 1 ≤ j → j < S 67 (5 * r) → K (8 * k + S 67 (5 * r + 1 + j)) ≤ m) → mo ≤ m) ?_ ?_ (S 67 (5 * r) - 1) 1000000 1 0 (by omega) (by omega) ⟨Nat.le_refl _, by omega, fun j h1 h2 => by omega, fun m _ => Nat.zero_le _⟩
  · intro m mo ⟨_, a1, a2, a3⟩
    show Q (fn_Mo_byRules_40 f (nI k) (nI t) (nI v) (nI r) (m + 1) (nI mo) (nI (S 67 (5 * r))) g)
    rw [fn_Mo_byRules_40]
    simp (disch := omega) only [ni_of, pk_mul, nI_clamp, ib_e, ck_t, r67, ni_le, Nat.le_refl, if_true]
    exact kk mo a1 a2 a3
  · intro m q mo hq ⟨a0, a1, a2, a3⟩ ih
    have b1 := l3 q hq
    obtain ⟨k1, k2⟩ := hK (8 * k + S 67 (5 * r + 1 + q)) (by omega)
    have e : fn_Mo_byRules_40 f (nI k) (nI t) (nI v) (nI r) (m + 1) (nI mo) (nI q) g = io (K (8 * k + S 67 (5 * r + 1 + q)) ≤ mo) (fn_Mo_byRules_40 f (nI k) (nI t) (nI v) (nI r) m (nI mo) (nI (q + 1)) g) (fn_Mo_byRules_40 f (nI k) (nI t) (nI v) (nI r) m (nI (K (8 * k + S 67 (5 * r + 1 + q)))) (nI (q + 1)) g) := by
      rw [fn_Mo_byRules_40]
      simp (disch := omega) only [ni_of, nI_clamp, ib_e, ck_t, bd_s, et_b, nI_add, if_p, ni_eq, ni_lt, ni_le, b_e0, b_e1, io_n, pk_mul, r67, k1]
      exact io_f (by omega)
    show Q (fn_Mo_byRules_40 f (nI k) (nI t) (nI v) (nI r) (m + 1) (nI mo) (nI q) g)
    rw [e]
    by_cases h1 : K (8 * k + S 67 (5 * r + 1 + q)) ≤ mo
    · rw [io_t h1]
      refine ih mo ⟨by omega, a1, fun j j1 j2 => ?_, a3⟩
      by_cases e : j = q
      · subst e; exact h1
      · exact a2 j j1 (by omega)
    · rw [io_f h1]
      refine ih _ ⟨by omega, k2, fun j j1 j2 => ?_, fun m hm => hm q a0 hq⟩
      by_cases e : j = q
      · subst e; exact Nat.le_refl _
      · have := a2 j j1 (by omega); omega
theorem bru_m {X Y : Nat → Prop} {R K : Nat → Nat} {np : Nat} (E : mE S X Y R K np g) {k t : Nat} (hk : k < np) (ht : t < S 61 5) : ∃ v, fn_Mo_byRules (nI k) (nI t) g = some (nI v, g) ∧ v ≤ 1000 ∧ (v < 1000 → 1 ≤ v ∧ a_wo S t (m_C S K k (v - 1))) ∧ ∀ r, a_wo S t (m_C S K k r) → v ≤ r + 1 := by
  have E0 := E
  obtain ⟨B, hX, hY, hR, hnp, hK⟩ := E
  have c := mB_c B
  have r67 : ∀ j, g.1 67 j = nI (S 67 j) := fun j => B.1.1 67 j rfl
  unfold fn_Mo_byRules
  refine lp0 (fun m i (v : Nat) => fn_Mo_byRules_7 (nI k) (nI t) m (nI v) i g) (fun o => ∃ v, o = some (nI v, g) ∧ v ≤ 1000 ∧ (v < 1000 → 1 ≤ v ∧ a_wo S t (m_C S K k (v - 1))) ∧ ∀ r, a_wo S t (m_C S K k r) → v ≤ r + 1) (S 61 6) (by omega) (fun q v => v ≤ 1000 ∧ (v < 1000 → 1 ≤ v ∧ a_wo S t (m_C S K k (v - 1))) ∧ ∀ r u, u < q → a_rl S t (m_C S K k r) u → v ≤ r + 1) 1000 ⟨Nat.le_refl _, fun z => by omega, fun r u hu => by omega⟩ ?_ ?_
  · intro m v ⟨a1, a2, a3⟩
    refine ⟨v, ?_, a1, a2, fun r ⟨u, hu⟩ => a3 r u hu.1 hu⟩
    show fn_Mo_byRules_7 (nI k) (nI t) (m + 1) (nI v) (nI (S 61 6)) g = _
    rw [fn_Mo_byRules_7, c.2.2.2.2.1, if_pos (nI_le (Nat.le_refl _) (by omega))]
  · intro m q v hq ⟨a1, a2, a3⟩ ih
    obtain ⟨l1, l2, l3⟩ := mB_r B hq
    have b1 := l3 0 (by omega)
    rw [Nat.add_zero] at b1
    have e : fn_Mo_byRules_7 (nI k) (nI t) (m + 1) (nI v) (nI q) g = io (S 67 (5 * q + 1) = t) (fn_Mo_byRules_40 (fun z3 z4 g => fn_Mo_byRules_7 (nI k) (nI t) m z3 z4 g) (nI k) (nI t) (nI v) (nI q) 1000000 0 1 g) (fn_Mo_byRules_7 (nI k) (nI t) m (nI v) (nI (q + 1)) g) := by
      rw [fn_Mo_byRules_7, c.2.2.2.2.1, if_neg (nI_ge hq (by omega))]
      simp (disch := omega) only [ni_of, nI_clamp, ib_e, ck_t, bd_s, et_b, nI_add, if_p, ni_eq, ni_lt, ni_le, b_e0, b_e1, io_n, pk_mul, r67]
    show ∃ v', fn_Mo_byRules_7 (nI k) (nI t) (m + 1) (nI v) (nI q) g = some (nI v', g) ∧ _
    rw [e]
    by_cases h1 : S 67 (5 * q + 1) = t
    · rw [io_t h1]
      refine br_40 E0 hk hq (fun z3 z4 g => fn_Mo_byRules_7 (nI k) (nI t) m z3 z4 g) (fun o => ∃ v', o = some (nI v', g) ∧ v' ≤ 1000 ∧ (v' < 1000 → 1 ≤ v' ∧ a_wo S t (m_C S K k (v' - 1))) ∧ ∀ r, a_wo S t (m_C S K k r) → v' ≤ r + 1) (fun mo m1 m2 m3 => ?_)
      unfold fn_Mo_byRules_102
      simp (disch := omega) only [ni_of, nI_clamp, ib_e, ck_t, bd_s, et_b, nI_add, if_p, ni_eq, ni_lt, ni_le, b_e0, b_e1, io_n]
      by_cases h2 : v ≤ mo + 1
      · rw [io_t h2]
        refine ih v ⟨a1, a2, fun r u hu z => ?_⟩
        by_cases e : u = q
        · subst e
          have := m3 r (fun j j1 j2 => (z.2.2 j j1 j2).2)
          omega
        · exact a3 r u (by omega) z
      · rw [io_f h2]
        refine ih (mo + 1) ⟨by omega, fun _ => ⟨by omega, q, hq, h1, fun j j1 j2 => ⟨l3 j j2, by have := m2 j j1 j2; omega⟩⟩, fun r u hu z => ?_⟩
        by_cases e : u = q
        · subst e
          have := m3 r (fun j j1 j2 => (z.2.2 j j1 j2).2)
          omega
        · have := a3 r u (by omega) z; omega
    · rw [io_f h1]
      refine ih v ⟨a1, a2, fun r u hu z => ?_⟩
      by_cases e : u = q
      · subst e; exact absurd z.2.1 h1
      · exact a3 r u (by omega) z
theorem bh_m {X Y : Nat → Prop} {R K : Nat → Nat} {np : Nat} (E : mE S X Y R K np g) {k p h t nt w : Nat} (hk : k < np) (k1 : g.1 88 k = nI p) (k2 : g.1 89 k = nI h) (hp : p < S 61 4) (hh : h < 24) (ht : t < S 61 5) (hn : nt ≤ 1) (hw : w < 5) : ∃ v, fn_Mo_byHow (nI k) (nI t) (nI nt) (nI w) g = some (nI v, g) ∧ vb S X Y R K k p h t nt w v := by
  have E0 := E
  obtain ⟨B, hX, hY, hR, hnp, hK⟩ := E
  unfold fn_Mo_byHow
  simp (disch := omega) only [ni_of, nI_clamp, ib_e, ck_t, bd_s, et_b, nI_add, if_p, ni_eq, ni_lt, ni_le, b_e0, b_e1, io_n, k1, k2]
  by_cases h4 : w = 4
  · rw [io_t h4]
    exact ⟨1, rfl, by omega, fun _ => ⟨Nat.le_refl _, Or.inr (Or.inr (Or.inr (Or.inr h4)))⟩, fun r _ => by omega⟩
  · rw [io_f h4]
    by_cases h2 : w = 2
    · rw [io_t h2]
      obtain ⟨v, v1, v2, v3, v4⟩ := bto_m E0 hp hh ht hn
      rw [v1]
      refine ⟨v, rfl, v2, fun z => ?_, fun r z => ?_⟩
      · obtain ⟨s, s1, s2⟩ := v3 z
        exact ⟨by omega, Or.inr (Or.inr (Or.inl ⟨h2, s, ⟨s1.2.1.1, s1.1, by omega, s1.2.2.2⟩, s1.2.1, s1.2.2.1⟩))⟩
      · rcases z with z | z | z | z | z
        · omega
        · omega
        · obtain ⟨s, s1, s2, s3⟩ := z.2
          have := v4 s ⟨s1.2.1, s2, s3, s1.2.2.2⟩
          have := s1.2.2.1
          omega
        · omega
        · omega
    · rw [io_f h2]
      by_cases h3 : w = 3
      · rw [io_t h3]
        by_cases hn1 : nt = 1
        · rw [io_t hn1]
          refine ⟨1000, rfl, Nat.le_refl _, fun z => by omega, fun r z => ?_⟩
          rcases z with z | z | z | z | z
          · omega
          · omega
          · omega
          · omega
          · omega
        · rw [io_f hn1]
          obtain ⟨v, v1, v2, v3, v4⟩ := bru_m E0 hk ht
          rw [v1]
          refine ⟨v, rfl, v2, fun z => ⟨(v3 z).1, Or.inr (Or.inr (Or.inr (Or.inl ⟨h3, by omega, (v3 z).2⟩)))⟩, fun r z => ?_⟩
          rcases z with z | z | z | z | z
          · omega
          · omega
          · omega
          · exact v4 r z.2.2
          · omega
      · rw [io_f h3, iby_m B hp hh ht hn (show w ≤ 1 by omega), bd_s]
        simp only [b_e0, io_n]
        by_cases hb : a_oh S p h t nt w
        · rw [io_t hb]
          exact ⟨1, rfl, by omega, fun _ => ⟨Nat.le_refl _, hb.elim Or.inl (fun z => Or.inr (Or.inl z))⟩, fun r _ => by omega⟩
        · rw [io_f hb]
          refine ⟨1000, rfl, Nat.le_refl _, fun z => by omega, fun r z => ?_⟩
          rcases z with z | z | z | z | z
          · exact absurd (Or.inl z) hb
          · exact absurd (Or.inr z) hb
          · omega
          · omega
          · omega
theorem mE_62 {X Y : Nat → Prop} {R K : Nat → Nat} {np : Nat} (E : mE S X Y R K np g) (x : Int32) : mE S X Y R K np (et_si g 61 62 x) := by
  obtain ⟨B, hX, hY, hR, hnp, hK⟩ := E
  refine ⟨⟨rc_M_q (W := fun k j => k == 61 && j == 62) (fq_s (fq_r _ _) rfl) (fun k j h => ?_) B.1, B.2⟩, ?_, ?_, fun s hs => ?_, hnp, fun j hj => ?_⟩
  · by_cases e : k = 61 ∧ j = 62
    · rw [e.1, e.2] at h; exact absurd h (by decide)
    · simp; omega
  · rw [si_j (by decide)]; exact hX
  · rw [si_j (by decide)]; exact hY
  · rw [si_x (by decide)]; exact hR s hs
  · rw [si_x (by decide)]; exact hK j hj
/-- the least, and by which ending -/
def vl (S : et_T) (X Y : Nat → Prop) (R K : Nat → Nat) (k p h t nt n : Nat) (f0 f : Int32) (v : Nat) : Prop :=
  v ≤ 1000 ∧ (v = 1000 → f = f0) ∧ (v < 1000 → 1 ≤ v ∧ ∃ w, w < n ∧ f = nI w ∧ a_sh S (m_T S X Y R (v - 1)) (m_C S K k (v - 1)) p h t nt w ∧ ∀ u, u < w → ¬ a_sh S (m_T S X Y R (v - 1)) (m_C S K k (v - 1)) p h t nt u) ∧
  ∀ r w, w < n → a_sh S (m_T S X Y R r) (m_C S K k r) p h t nt w → v ≤ r + 1
theorem le_m {X Y : Nat → Prop} {R K : Nat → Nat} {np : Nat} (E : mE S X Y R K np g) {k p h t nt : Nat} (hk : k < np) (k1 : g.1 88 k = nI p) (k2 : g.1 89 k = nI h) (hp : p < S 61 4) (hh : h < 24) (ht : t < S 61 5) (hn : nt ≤ 1) : ∃ v f, (f = g ∨ ∃ x, f = et_si g 61 62 x) ∧ fn_Mo_least (nI k) (nI t) (nI nt) g = some (nI v, f) ∧ vl S X Y R K k p h t nt 4 (g.1 61 62) (f.1 61 62) v := by
  unfold fn_Mo_least
  refine lp0 (fun m i (q : Nat × et_G) => fn_Mo_least_8 (nI k) (nI t) (nI nt) m (nI q.1) i q.2) (fun o => ∃ v f, (f = g ∨ ∃ x, f = et_si g 61 62 x) ∧ o = some (nI v, f) ∧ vl S X Y R K k p h t nt 4 (g.1 61 62) (f.1 61 62) v) 4 (by omega) (fun n q => (q.2 = g ∨ ∃ x, q.2 = et_si g 61 62 x) ∧ vl S X Y R K k p h t nt n (g.1 61 62) (q.2.1 61 62) q.1) (1000, g) ⟨Or.inl rfl, Nat.le_refl _, fun _ => rfl, fun z => by omega, fun r w hw => by omega⟩ ?_ ?_
  · intro m q ⟨a1, a2⟩
    refine ⟨q.1, q.2, a1, ?_, a2⟩
    show fn_Mo_least_8 (nI k) (nI t) (nI nt) (m + 1) (nI q.1) (nI 4) q.2 = _
    rw [fn_Mo_least_8, if_pos (by decide)]
  · intro m n q hq ⟨a1, a2, a3, a4, a5⟩ ih
    have Eq' : mE S X Y R K np q.2 ∧ q.2.1 88 k = nI p ∧ q.2.1 89 k = nI h := by
      rcases a1 with a1 | ⟨x, a1⟩
      · rw [a1]; exact ⟨E, k1, k2⟩
      · rw [a1]; exact ⟨mE_62 E x, by rw [si_x (by decide)]; exact k1, by rw [si_x (by decide)]; exact k2⟩
    obtain ⟨v, v1, v2, v3, v4⟩ := bh_m Eq'.1 hk Eq'.2.1 Eq'.2.2 hp hh ht hn (show n < 5 by omega)
    have e : fn_Mo_least_8 (nI k) (nI t) (nI nt) (m + 1) (nI q.1) (nI n) q.2 = io (v < q.1) (fn_Mo_least_8 (nI k) (nI t) (nI nt) m (nI v) (nI (n + 1)) (et_si q.2 61 62 (nI n))) (fn_Mo_least_8 (nI k) (nI t) (nI nt) m (nI q.1) (nI (n + 1)) q.2) := by
      rw [fn_Mo_least_8]
      simp (disch := omega) only [ni_of, nI_clamp, ib_e, ck_t, bd_s, et_b, nI_add, if_p, ni_eq, ni_lt, ni_le, b_e0, b_e1, io_n, v1]
      exact io_f (by omega)
    show ∃ v' f, (f = g ∨ ∃ x, f = et_si g 61 62 x) ∧ fn_Mo_least_8 (nI k) (nI t) (nI nt) (m + 1) (nI q.1) (nI n) q.2 = some (nI v', f) ∧ _
    rw [e]
    by_cases h1 : v < q.1
    · rw [io_t h1]
      refine ih (v, et_si q.2 61 62 (nI n)) ⟨?_, v2, fun z => by omega, fun z => ⟨(v3 z).1, n, by omega, si_e, (v3 z).2, fun u hu z2 => ?_⟩, fun r w hw z => ?_⟩
      · rcases a1 with a1 | ⟨x, a1⟩
        · exact Or.inr ⟨nI n, by rw [a1]⟩
        · exact Or.inr ⟨nI n, by rw [a1, si_si]⟩
      · have := a5 (v - 1) u hu z2
        have := (v3 z).1
        omega
      · by_cases e : w = n
        · subst e; exact v4 r z
        · have := a5 r w (by omega) z; omega
    · rw [io_f h1]
      refine ih q ⟨a1, a2, a3, fun z => ?_, fun r w hw z => ?_⟩
      · obtain ⟨b1, w, b2, b3⟩ := a4 z
        exact ⟨b1, w, by omega, b3⟩
      · by_cases e : w = n
        · subst e; have := v4 r z; omega
        · exact a5 r w (by omega) z
end MB
