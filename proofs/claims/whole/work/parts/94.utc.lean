/-! utter: what is read -/
def blP (S : et_T) (i : Nat) : Prop := S 71 i = 32 ∨ S 71 i = 10
def ltP (S : et_T) (i : Nat) : Prop := 97 ≤ S 71 i ∧ S 71 i ≤ 122
noncomputable def skp (P : Nat → Prop) : Nat → Nat → Nat
  | 0, i => i
  | d + 1, i => io (P i) (skp P d (i + 1)) i
theorem skp_b (P : Nat → Prop) : ∀ d i, i ≤ skp P d i ∧ skp P d i ≤ i + d := by
  intro d
  induction d with
  | zero => intro i; exact ⟨Nat.le_refl _, Nat.le_refl _⟩
  | succ d ih =>
    intro i
    rw [skp]
    by_cases h : P i
    · rw [io_t h]; have := ih (i + 1); omega
    · rw [io_f h]; omega
theorem skp_n (P : Nat → Prop) : ∀ d i, skp P d i < i + d → ¬ P (skp P d i) := by
  intro d
  induction d with
  | zero => intro i h; rw [skp] at h; omega
  | succ d ih =>
    intro i h
    rw [skp] at h ⊢
    by_cases q : P i
    · rw [io_t q] at h ⊢; exact ih (i + 1) (by omega)
    · rw [io_f q]; exact q
theorem skp_z {P : Nat → Prop} {d i : Nat} (h : ¬ P i) : skp P d i = i := by
  cases d with
  | zero => rfl
  | succ d => rw [skp, io_f h]
noncomputable def bk (S : et_T) (n i : Nat) : Nat := skp (blP S) (n - i) i
noncomputable def lte (S : et_T) (n i : Nat) : Nat := skp (ltP S) (n - i) i
theorem bk_b (S : et_T) {n i : Nat} (h : i ≤ n) : i ≤ bk S n i ∧ bk S n i ≤ n := by
  have := skp_b (blP S) (n - i) i
  unfold bk; omega
theorem lte_b (S : et_T) {n i : Nat} (h : i ≤ n) : i ≤ lte S n i ∧ lte S n i ≤ n := by
  have := skp_b (ltP S) (n - i) i
  unfold lte; omega
theorem bk_f (S : et_T) {n i : Nat} (h : i ≤ n) : bk S n (bk S n i) = bk S n i := by
  by_cases q : bk S n i < n
  · have := skp_n (blP S) (n - i) i (by unfold bk at q; omega)
    exact skp_z this
  · have := bk_b S h
    have e : bk S n i = n := by omega
    rw [e]; unfold bk; rw [Nat.sub_self]; rfl
theorem lte_n (S : et_T) (n : Nat) : lte S n n = n := by unfold lte; rw [Nat.sub_self]; rfl
theorem bk_n (S : et_T) (n : Nat) : bk S n n = n := by unfold bk; rw [Nat.sub_self]; rfl
def ntP (S : et_T) (a k : Nat) : Prop := 0 < S 65 0 ∧ k = S 65 0 ∧ ∀ i, i < S 65 0 → S 71 (a + i) = S 65 (1 + i)
noncomputable def tst (S : et_T) (x : Nat) : Nat := skp (fun t => ¬ S 66 (5 * t) = x) (S 61 5) 0
def owP (S : et_T) (l : List Nat) : Prop := l.length = 1 ∧ l.getD 0 0 / 5 % 3 = 2 ∧ tst S (l.getD 0 0 / 15) < S 61 5
noncomputable def u_a (S : et_T) (n : Nat) : Nat := bk S n 0
noncomputable def u_w (S : et_T) (n : Nat) : Nat := lte S n (u_a S n)
noncomputable def u_b (S : et_T) (n : Nat) : Nat := bk S n (u_w S n)
noncomputable def u_c (S : et_T) (n : Nat) : Nat := lte S n (u_b S n)
noncomputable def u_lo (S : et_T) (n : Nat) : Nat := io (n ≤ u_b S n) (u_a S n) (u_b S n)
noncomputable def u_m (S : et_T) (n : Nat) : Nat := io (n ≤ u_b S n) (u_w S n - u_a S n) (u_c S n - u_b S n)
noncomputable def u_t (S : et_T) (n : Nat) : Nat := io (n ≤ u_b S n) 0 1
def u_V (S : et_T) (n : Nat) : Prop := ¬ u_m S n = 0 ∧ (¬ n ≤ u_b S n → ntP S (u_a S n) (u_w S n - u_a S n) ∧ n ≤ bk S n (u_c S n))
noncomputable def u_l (S : et_T) (n : Nat) : List Nat := wl S (u_lo S n) (u_m S n) (15 * S 61 1)
def UC (S : et_T) (n : Nat) : Prop := u_V S n ∧ owP S (u_l S n)
theorem u_le (S : et_T) (n : Nat) : u_a S n ≤ u_w S n ∧ u_w S n ≤ u_b S n ∧ u_b S n ≤ u_c S n ∧ u_c S n ≤ n := by
  have h1 := bk_b S (Nat.zero_le n)
  have h2 := lte_b S (show u_a S n ≤ n from h1.2)
  have h3 := bk_b S (show u_w S n ≤ n from h2.2)
  have h4 := lte_b S (show u_b S n ≤ n from h3.2)
  exact ⟨h2.1, h3.1, h4.1, h4.2⟩
section UK
variable {S : et_T}
theorem c8_l : ∀ b, b < 256 → ((¬ c8 b < 97 ∧ ¬ 122 < c8 b) ↔ (97 ≤ b ∧ b ≤ 122)) := by decide +kernel
theorem ibl {b : Nat} (hb : b < 256) (g : et_G) : fn_Et_isBlank (c8 b) g = some (io (b = 32 ∨ b = 10) 1 0, g) := by
  unfold fn_Et_isBlank
  have h1 := c8_eq 32 (by decide) b hb
  have h2 := c8_eq 10 (by decide) b hb
  by_cases q1 : b = 32
  · rw [if_pos (show c8 b = 32 from (h1.mpr q1.symm).symm), io_t (Or.inl q1)]
  · rw [if_neg (fun z => q1 (h1.mp z.symm).symm)]
    by_cases q2 : b = 10
    · rw [if_pos (show c8 b = 10 from (h2.mpr q2.symm).symm), io_t (Or.inr q2)]
    · rw [if_neg (fun z => q2 (h2.mp z.symm).symm), io_f (fun z => z.elim q1 q2)]
theorem ilt {b : Nat} (hb : b < 256) (g : et_G) : fn_Et_isLetter (c8 b) g = some (io (97 ≤ b ∧ b ≤ 122) 1 0, g) := by
  unfold fn_Et_isLetter
  have h := c8_l b hb
  by_cases q1 : c8 b < 97
  · rw [if_pos q1, io_f (fun z => (h.mpr z).1 q1)]
  · rw [if_neg q1]
    by_cases q2 : 122 < c8 b
    · rw [if_pos q2, io_f (fun z => (h.mpr z).2 q2)]
    · rw [if_neg q2, io_t (h.mp ⟨q1, q2⟩)]
def w_cu (k j : Nat) : Bool := k == 31 && j == 2
theorem skb_c {n : Nat} (hn : n ≤ 800) (hb8 : ∀ i, i < 800 → S 71 i < 256) : ∀ d m i (g : et_G), i + d = n → d < m → (∀ j, j < 800 → g.1 1 j = c8 (S 71 j)) → g.1 31 3 = nI n → g.1 31 2 = nI i → ev_Q (fn_Ut_skipBlanks_0 m g) (fun _ g' => g'.1 31 2 = nI (skp (blP S) d i) ∧ fq w_cu g g') := by
  intro d
  induction d with
  | zero =>
    intro m i g hd hm ht h3 h2
    obtain ⟨m, rfl⟩ : ∃ q, m = q + 1 := ⟨m - 1, by omega⟩
    rw [fn_Ut_skipBlanks_0, h3, h2, if_pos (nI_le (by omega) (by omega))]
    exact ev_r ⟨h2, fq_r _ _⟩
  | succ d ih =>
    intro m i g hd hm ht h3 h2
    obtain ⟨m, rfl⟩ : ∃ q, m = q + 1 := ⟨m - 1, by omega⟩
    rw [fn_Ut_skipBlanks_0, h3, h2, if_neg (nI_ge (by omega) (by omega)), ib_e i 800 (by omega) (by decide), ck_t, nI_clamp (by omega), ht i (by omega), ibl (hb8 i (by omega)), bd_s, skp]
    by_cases q : blP S i
    · rw [io_t q, io_t (show S 71 i = 32 ∨ S 71 i = 10 from q), if_neg (by decide), h2]
      show ev_Q (fn_Ut_skipBlanks_0 m (et_si g 31 2 (nI i + nI 1))) _
      rw [nI_add]
      exact ev_w (ih m (i + 1) _ (by omega) (by omega) (fun j hj => by rw [si_x (by decide)]; exact ht j hj) (by rw [si_j (by decide)]; exact h3) si_e) (fun _ g' h => ⟨h.1, fq_t (fq_s (fq_r _ _) rfl) h.2⟩)
    · rw [io_f q, io_f (show ¬ (S 71 i = 32 ∨ S 71 i = 10) from q), if_pos rfl]
      exact ev_r ⟨h2, fq_r _ _⟩
theorem tkw_c {n i0 : Nat} (hn : n ≤ 800) (hb8 : ∀ i, i < 800 → S 71 i < 256) : ∀ d m i (g : et_G), i + d = n → i0 ≤ i → d < m → (∀ j, j < 800 → g.1 1 j = c8 (S 71 j)) → g.1 31 3 = nI n → g.1 31 2 = nI i → ev_Q (fn_Ut_takeWord_5 (nI i0) m g) (fun v g' => v = nI (skp (ltP S) d i - i0) ∧ g'.1 31 2 = nI (skp (ltP S) d i) ∧ fq w_cu g g') := by
  intro d
  induction d with
  | zero =>
    intro m i g hd hi hm ht h3 h2
    obtain ⟨m, rfl⟩ : ∃ q, m = q + 1 := ⟨m - 1, by omega⟩
    rw [fn_Ut_takeWord_5, h3, h2, if_pos (nI_le (by omega) (by omega))]
    unfold fn_Ut_takeWord_44
    rw [h2, pk_sub hi]
    exact ev_r ⟨rfl, h2, fq_r _ _⟩
  | succ d ih =>
    intro m i g hd hi hm ht h3 h2
    obtain ⟨m, rfl⟩ : ∃ q, m = q + 1 := ⟨m - 1, by omega⟩
    rw [fn_Ut_takeWord_5, h3, h2, if_neg (nI_ge (by omega) (by omega)), ib_e i 800 (by omega) (by decide), ck_t, nI_clamp (by omega), ht i (by omega), ilt (hb8 i (by omega)), bd_s, skp]
    by_cases q : ltP S i
    · rw [io_t q, io_t (show 97 ≤ S 71 i ∧ S 71 i ≤ 122 from q), if_neg (by decide), h2]
      show ev_Q (fn_Ut_takeWord_5 (nI i0) m (et_si g 31 2 (nI i + nI 1))) _
      rw [nI_add]
      exact ev_w (ih m (i + 1) _ (by omega) (by omega) (by omega) (fun j hj => by rw [si_x (by decide)]; exact ht j hj) (by rw [si_j (by decide)]; exact h3) si_e) (fun _ g' h => ⟨h.1, h.2.1, fq_t (fq_s (fq_r _ _) rfl) h.2.2⟩)
    · rw [io_f q, io_f (show ¬ (97 ≤ S 71 i ∧ S 71 i ≤ 122) from q), if_pos rfl]
      unfold fn_Ut_takeWord_44
      rw [h2, pk_sub hi]
      exact ev_r ⟨rfl, h2, fq_r _ _⟩
theorem not_c {g : et_G} (hC : rc_tong S g) (ht : ∀ j, j < 800 → g.1 1 j = c8 (S 71 j)) (hb8 : ∀ i, i < 800 → S 71 i < 256) {a k : Nat} (hk : a + k ≤ 800) : fn_To_isNot_1 (nI a) (nI k) g = some (io (ntP S a k) 1 0, g) := by
  obtain ⟨l1, l2, l3⟩ := hC.2.2.2.2.2
  unfold fn_To_isNot_1 fn_To_hasNot
  rw [show (45 : Int32) = nI 45 from rfl, ib_e 45 46 (by decide) (by decide), ck_t, nI_clamp (by decide), l1]
  by_cases h0 : S 65 0 = 0
  · rw [if_pos (by rw [h0]; decide), bd_s, if_pos rfl, io_f (fun z => by have := z.1; omega)]
  · rw [if_neg (fun z => h0 (by have := (nI_leI (b := 0) (by omega) (by decide)).mp z; omega)), bd_s, if_neg (by decide), ck_t, l1]
    by_cases h1 : k = S 65 0
    · rw [if_pos (by rw [h1]), show (360 : Int32) = nI 360 from rfl, as_41 (by omega) hk, bd_s]
      have e : (∀ i, i < k → g.1 4 (360 + i) = g.1 1 (a + i)) ↔ ntP S a k := by
        constructor
        · intro h
          refine ⟨by omega, h1, fun i hi => ?_⟩
          have := h i (by omega)
          obtain ⟨p1, p2, p3⟩ := l3 i hi
          rw [show 360 + i = 8 * 45 + i by omega, p1, ht _ (by omega)] at this
          have := (c8_eq _ (by omega) _ (hb8 (a + i) (by omega))).mp this
          rw [← this]
        · intro h i hi
          obtain ⟨p1, p2, p3⟩ := l3 i (by omega)
          rw [show 360 + i = 8 * 45 + i by omega, p1, ht _ (by omega)]
          refine (c8_eq _ (by omega) _ (hb8 (a + i) (by omega))).mpr ?_
          rw [h.2.2 i (by omega)]
      by_cases q : ntP S a k
      · rw [io_t (e.mpr q), io_t q, if_neg (by decide)]
      · rw [io_f (fun z => q (e.mp z)), io_f q, if_pos rfl]
    · rw [if_neg (by rw [ni_eq (by omega) (by omega)]; exact h1), io_f (fun z => h1 z.2.1)]
theorem tos_c {g : et_G} (hC : rc_town S g) (h8 : S 61 5 ≤ 8) {x : Nat} (hx : x < 1000) (hw : ∀ t, t < S 61 5 → S 66 (5 * t) < 1000) : fn_Tw_thingOfStem (nI x) g = some (io (tst S x < S 61 5) (nI (tst S x)) (-1), g) := by
  have h5 := hC.2.2.1
  have h9 := hC.2.2.2.2.2.2.1
  have key : ∀ d m t, t + d = S 61 5 → d < m → fn_Tw_thingOfStem_2 (nI x) m (nI t) g = some (io (skp (fun t => ¬ S 66 (5 * t) = x) d t < S 61 5) (nI (skp (fun t => ¬ S 66 (5 * t) = x) d t)) (-1), g) := by
    intro d
    induction d with
    | zero =>
      intro m t hd hm
      obtain ⟨m, rfl⟩ : ∃ q, m = q + 1 := ⟨m - 1, by omega⟩
      rw [fn_Tw_thingOfStem_2, h5, if_pos (nI_le (by omega) (by omega)), skp, io_f (by omega)]
    | succ d ih =>
      intro m t hd hm
      obtain ⟨m, rfl⟩ : ∃ q, m = q + 1 := ⟨m - 1, by omega⟩
      have ht : t < S 61 5 := by omega
      have := hw t ht
      rw [fn_Tw_thingOfStem_2, h5, if_neg (nI_ge ht (by omega)), ib_e t 8 (by omega) (by decide), ck_t, nI_clamp (by omega), (h9 t ht).1, skp]
      by_cases q : S 66 (5 * t) = x
      · rw [if_pos (by rw [q]), io_f (c := ¬ S 66 (5 * t) = x) (fun z => z q), io_t ht]
      · rw [if_neg (by rw [ni_eq (by omega) (by omega)]; exact q), io_t (c := ¬ S 66 (5 * t) = x) q]
        show fn_Tw_thingOfStem_2 (nI x) m (nI t + nI 1) g = _
        rw [nI_add]
        exact ih m (t + 1) (by omega) (by omega)
  exact key (S 61 5) 1000000 0 (by omega) (by omega)
end UK
