/-! village: the words that begin a line -/
theorem wz_tb (n : Nat) : (lN n).toBitVec = BitVec.ofNat 64 n := rfl
theorem wz_inj {a b : Int64} (h : a.toBitVec = b.toBitVec) : a = b := Int64.toBitVec_inj.mp h
theorem wz_c : ∀ k, k < 64 → ((nI k).toInt64 &&& 63) = lN k := by decide +kernel
theorem wz_sm : ∀ k, k < 64 → (BitVec.ofNat 64 k).smod 64 = BitVec.ofNat 64 k := by decide +kernel
theorem wz_shl (n : Nat) {k : Nat} (hk : k < 64) : lN n <<< ((nI k).toInt64 &&& 63) = lN (n * 2 ^ k) := by
  rw [wz_c k hk]
  apply wz_inj
  rw [Int64.toBitVec_shiftLeft, wz_tb, wz_tb, wz_tb, wz_sm k hk]
  apply BitVec.eq_of_toNat_eq
  rw [BitVec.shiftLeft_eq', BitVec.toNat_shiftLeft, BitVec.toNat_ofNat, BitVec.toNat_ofNat, BitVec.toNat_ofNat, Nat.mod_eq_of_lt (show k < 2 ^ 64 by omega), Nat.shiftLeft_eq, Nat.mul_mod, Nat.mod_mod, ← Nat.mul_mod]
theorem wz_or {a b : Nat} (ha : a < 2 ^ 64) (hb : b < 2 ^ 64) : lN a ||| lN b = lN (a ||| b) := by
  apply wz_inj
  rw [Int64.toBitVec_or, wz_tb, wz_tb, wz_tb]
  apply BitVec.eq_of_toNat_eq
  rw [BitVec.toNat_or, BitVec.toNat_ofNat, BitVec.toNat_ofNat, BitVec.toNat_ofNat, Nat.mod_eq_of_lt ha, Nat.mod_eq_of_lt hb, Nat.mod_eq_of_lt (Nat.or_lt_two_pow ha hb)]
def kwd : List (List Nat) := [[115, 116, 101, 109], [101, 110, 100, 105, 110, 103], [99, 104, 97, 110, 103, 101], [110, 111, 116], [112, 108, 97, 99, 101, 115], [110, 101, 97, 114], [112, 101, 114, 115, 111, 110], [116, 104, 105, 110, 103], [114, 117, 108, 101], [97, 116], [119, 101, 105, 103, 104], [108, 111, 117, 100], [110, 101, 118, 101, 114]]
def kl (k : Nat) : Nat := (kwd.getD k []).length
def kc (k i : Nat) : Nat := (kwd.getD k []).getD i 0
def pkn (c : Nat → Nat) : Nat → Nat
  | 0 => 0
  | m + 1 => 32 * pkn c m + (c m - 96)
/-- the token from a on is the word k -/
def wdP (S : et_T) (n a k : Nat) : Prop := tkK S n a = 1 ∧ tkE S n a - a = kl k ∧ ∀ i, i < kl k → S 71 (a + i) = kc k i
theorem kl_6 : ∀ k, k < 13 → 2 ≤ kl k ∧ kl k ≤ 6 := by decide
theorem kc_l : ∀ k, k < 13 → ∀ i, i < kl k → 97 ≤ kc k i ∧ kc k i ≤ 122 := by decide
theorem kl_e : ∀ k, k < 13 → et_len k = nI (kl k) := by decide +kernel
theorem kc_e : ∀ k, k < 13 → ∀ i, i < kl k → et_ix (nI i) (Int32.ofNat (et_sln.getD k 0)) = true ∧ et_ib (nI i) (et_sln.getD k 0) = true ∧ et_nc (et_nc (et_ch1 k (nI i))) = nI (kc k i) := by decide +kernel
theorem chr_e {k i : Nat} (hk : k < 13) (hi : i < kl k) (g : et_G) : fn_Js_charAt k (nI i) g = some (nI (kc k i), g) := by
  obtain ⟨h1, h2, h3⟩ := kc_e k hk i hi
  unfold fn_Js_charAt fn_Jl_charAt
  rw [h1, h2, ck_t]
  show some (et_nc (et_nc (et_ch1 k (nI i))), g) = _
  rw [h3]
theorem pkn_b (c : Nat → Nat) : ∀ m, (∀ i, i < m → c i ≤ 122) → pkn c m < 32 ^ m := by
  intro m
  induction m with
  | zero => intro _; unfold pkn; decide
  | succ m ih =>
    intro h
    have h1 := ih (fun i hi => h i (by omega))
    have h2 := h m (by omega)
    unfold pkn
    rw [Nat.pow_succ]
    omega
theorem pkn_i (c w : Nat → Nat) : ∀ m l, (∀ i, i < m → 97 ≤ c i ∧ c i ≤ 122) → (∀ i, i < l → 97 ≤ w i ∧ w i ≤ 122) → (pkn c m = pkn w l ↔ m = l ∧ ∀ i, i < l → c i = w i) := by
  intro m
  induction m with
  | zero =>
    intro l _ hw
    cases l with
    | zero => exact ⟨fun _ => ⟨rfl, fun i hi => absurd hi (Nat.not_lt_zero _)⟩, fun _ => rfl⟩
    | succ l =>
      have := hw l (by omega)
      unfold pkn
      exact ⟨fun h => by omega, fun h => by omega⟩
  | succ m ih =>
    intro l hc hw
    have h1 := hc m (by omega)
    cases l with
    | zero =>
      unfold pkn
      exact ⟨fun h => by omega, fun h => by omega⟩
    | succ l =>
      have h2 := hw l (by omega)
      have h3 := ih l (fun i hi => hc i (by omega)) (fun i hi => hw i (by omega))
      unfold pkn
      constructor
      · intro h
        have h4 := h3.mp (by omega)
        refine ⟨by omega, fun i hi => ?_⟩
        by_cases e : i = l
        · rw [e]
          have := h4.1
          subst this
          omega
        · exact h4.2 i (by omega)
      · intro h
        have e : m = l := by omega
        subst e
        rw [h3.mpr ⟨rfl, fun i hi => h.2 i (by omega)⟩, h.2 m (by omega)]
theorem sh5 {x c : Nat} (hx : x < 2 ^ 40) (h1 : 97 ≤ c) (h2 : c ≤ 122) : (lN x <<< ((5 : Int32).toInt64 &&& 63)) ||| ((nI c - (96 : Int32)).toInt64) = lN (32 * x + (c - 96)) := by
  rw [show (96 : Int32) = nI 96 from rfl, pk_sub (by omega), nI_l (by omega), show (5 : Int32) = nI 5 from rfl, wz_shl x (by decide), wz_or (by omega) (by omega)]
  congr 1
  have := Nat.shiftLeft_add_eq_or_of_lt (b := c - 96) (i := 5) (by omega) x
  rw [Nat.shiftLeft_eq] at this
  omega
theorem nq0 {x : Nat} (q : ¬ x = 0) (h : x < 2 ^ 31) : ¬ nI x = (0 : Int32) := fun w => q ((nI_eq (b := 0) h (by decide)).mp w)
theorem nq1 {x : Nat} (q : ¬ x = 1) (h : x < 2 ^ 31) : ¬ nI x = (1 : Int32) := fun w => q ((nI_eq (b := 1) h (by decide)).mp w)
theorem nq2 {x : Nat} (q : ¬ x = 2) (h : x < 2 ^ 31) : ¬ nI x = (2 : Int32) := fun w => q ((nI_eq (b := 2) h (by decide)).mp w)
theorem nq3 {x : Nat} (q : ¬ x = 3) (h : x < 2 ^ 31) : ¬ nI x = (3 : Int32) := fun w => q ((nI_eq (b := 3) h (by decide)).mp w)
theorem nq6 {x : Nat} (q : ¬ x = 6) (h : x < 2 ^ 31) : ¬ nI x = (6 : Int32) := fun w => q ((nI_eq (b := 6) h (by decide)).mp w)
theorem nq12 {x : Nat} (q : ¬ x = 12) (h : x < 2 ^ 31) : ¬ nI x = (12 : Int32) := fun w => q ((nI_eq (b := 12) h (by decide)).mp w)
section IW
variable {S : et_T}
theorem pkd_n {a : Nat} : ∀ m, m ≤ 6 → (∀ i, i < m → 97 ≤ S 71 (a + i) ∧ S 71 (a + i) ≤ 122) → pkd S a m = lN (pkn (fun i => S 71 (a + i)) m) := by
  intro m
  induction m with
  | zero => intro _ _; rfl
  | succ m ih =>
    intro hm h
    have b := pkn_b (fun i => S 71 (a + i)) m (fun i hi => (h i (by omega)).2)
    have b2 : 32 ^ m ≤ 32 ^ 6 := Nat.pow_le_pow_right (by decide) (by omega)
    have h1 := h m (by omega)
    rw [pkd, if_pos (by omega), ih (by omega) (fun i hi => h i (by omega)), sh5 (by omega) h1.1 h1.2]
    rfl
theorem ltr_e : ∀ k, k < 13 → ∀ g, fn_Mo_letters (nI k) g = some (lN (pkn (kc k) (kl k)), g) := by
  intro k hk g
  match k, hk with
  | 0, _ => rfl
  | 1, _ => rfl
  | 2, _ => rfl
  | 3, _ => rfl
  | 4, _ => rfl
  | 5, _ => rfl
  | 6, _ => rfl
  | 7, _ => rfl
  | 8, _ => rfl
  | 9, _ => rfl
  | 10, _ => rfl
  | 11, _ => rfl
  | 12, _ => rfl
  | k + 13, h => omega
theorem tkK_4 (n a : Nat) : tkK S n a ≤ 4 := by
  unfold tkK
  by_cases h : n ≤ a
  · rw [io_t h]; omega
  · rw [io_f h]
    by_cases h1 : ltP S a
    · rw [io_t h1]; omega
    · rw [io_f h1]
      by_cases h2 : dgP S a
      · rw [io_t h2]; omega
      · rw [io_f h2]
        by_cases h3 : S 71 a = 59
        · rw [io_t h3]; omega
        · rw [io_f h3]; omega
theorem skp_p (P : Nat → Prop) : ∀ d i j, i ≤ j → j < skp P d i → P j := by
  intro d
  induction d with
  | zero => intro i j h1 h2; rw [skp] at h2; omega
  | succ d ih =>
    intro i j h1 h2
    rw [skp] at h2
    by_cases h : P i
    · rw [io_t h] at h2
      by_cases e : i = j
      · subst e; exact h
      · exact ih (i + 1) j (by omega) h2
    · rw [io_f h] at h2; omega
/-- what a token's kind says of it -/
theorem tx_1 {n a : Nat} (h : tkK S n a = 1) : a < n ∧ tkE S n a = lte S n a ∧ tkF S n a = lte S n a ∧ tkV S n a = 0 ∧ a < lte S n a ∧ lte S n a ≤ n ∧ ∀ i, i < lte S n a - a → 97 ≤ S 71 (a + i) ∧ S 71 (a + i) ≤ 122 := by
  unfold tkK at h
  by_cases q : n ≤ a
  · rw [io_t q] at h; cases h
  · rw [io_f q] at h
    by_cases q1 : ltP S a
    · have e1 : lte S n a = skp (ltP S) (n - a - 1) (a + 1) := by
        unfold lte
        obtain ⟨d, hd⟩ : ∃ d, n - a = d + 1 := ⟨n - a - 1, by omega⟩
        rw [hd, skp, io_t q1, Nat.add_sub_cancel]
      have b1 := skp_b (ltP S) (n - a - 1) (a + 1)
      refine ⟨by omega, by unfold tkE; rw [io_f q, io_t q1], by unfold tkF; rw [io_f q, io_t q1], by unfold tkV; rw [io_f q, io_t q1], by omega, by omega, fun i hi => ?_⟩
      exact skp_p (ltP S) (n - a) a (a + i) (by omega) (by unfold lte at hi; omega)
    · rw [io_f q1] at h
      by_cases q2 : dgP S a
      · rw [io_t q2] at h; cases h
      · rw [io_f q2] at h
        by_cases q3 : S 71 a = 59
        · rw [io_t q3] at h; cases h
        · rw [io_f q3] at h; cases h
theorem tx_2 {n a : Nat} (h : tkK S n a = 2) : a < n ∧ tkE S n a = dte S n a ∧ tkF S n a = dte S n a ∧ a < dte S n a ∧ dte S n a ≤ n ∧ tkV S n a ≤ 999 := by
  unfold tkK at h
  by_cases q : n ≤ a
  · rw [io_t q] at h; cases h
  · rw [io_f q] at h
    by_cases q1 : ltP S a
    · rw [io_t q1] at h; cases h
    · rw [io_f q1] at h
      by_cases q2 : dgP S a
      · have e1 : dte S n a = skp (dgP S) (n - a - 1) (a + 1) := by
          unfold dte
          obtain ⟨d, hd⟩ : ∃ d, n - a = d + 1 := ⟨n - a - 1, by omega⟩
          rw [hd, skp, io_t q2, Nat.add_sub_cancel]
        have b1 := skp_b (dgP S) (n - a - 1) (a + 1)
        refine ⟨by omega, by unfold tkE; rw [io_f q, io_f q1, io_t q2], by unfold tkF; rw [io_f q, io_f q1, io_t q2], by omega, by omega, ?_⟩
        unfold tkV
        rw [io_f q, io_f q1, io_t q2]
        exact (nv_b (S := S) a (dte S n a - a) (fun j hj => (skp_p (dgP S) (n - a) a (a + j) (by omega) (by unfold dte at hj; omega)).2)).1
      · rw [io_f q2] at h
        by_cases q3 : S 71 a = 59
        · rw [io_t q3] at h; cases h
        · rw [io_f q3] at h; cases h
theorem tx_3 {n a : Nat} (h : tkK S n a = 3) : a < n ∧ tkE S n a = a + 1 ∧ tkF S n a = a + 1 := by
  unfold tkK at h
  by_cases q : n ≤ a
  · rw [io_t q] at h; cases h
  · rw [io_f q] at h
    by_cases q1 : ltP S a
    · rw [io_t q1] at h; cases h
    · rw [io_f q1] at h
      by_cases q2 : dgP S a
      · rw [io_t q2] at h; cases h
      · rw [io_f q2] at h
        by_cases q3 : S 71 a = 59
        · exact ⟨by omega, by unfold tkE; rw [io_f q, io_f q1, io_f q2, io_t q3], by unfold tkF; rw [io_f q, io_f q1, io_f q2]⟩
        · rw [io_f q3] at h; cases h
theorem tkE_b {n a : Nat} (ha : a ≤ n) : a ≤ tkE S n a ∧ tkE S n a ≤ n := by
  unfold tkE
  by_cases q : n ≤ a
  · rw [io_t q]; omega
  · rw [io_f q]
    by_cases q1 : ltP S a
    · rw [io_t q1]; exact lte_b S ha
    · rw [io_f q1]
      by_cases q2 : dgP S a
      · rw [io_t q2]
        have := skp_b (dgP S) (n - a) a
        unfold dte; omega
      · rw [io_f q2]
        by_cases q3 : S 71 a = 59
        · rw [io_t q3]; omega
        · rw [io_f q3]; omega
theorem is_23 {n a k : Nat} {g : et_G} (hk : k < 13) (hn : a + kl k ≤ 800) (hb8 : ∀ i, i < 800 → S 71 i < 256) (ht : ∀ j, j < 800 → g.1 1 j = c8 (S 71 j)) (h4 : g.1 28 4 = nI a) : ∀ d m j, j + d = kl k → d < m → (∀ i, i < j → S 71 (a + i) = kc k i) → fn_Re_is_23 k m (nI j) g = some (bI (∀ i, i < kl k → S 71 (a + i) = kc k i), g) := by
  have k6 := kl_6 k hk
  intro d
  induction d with
  | zero =>
    intro m j hj hm hi
    obtain ⟨m, rfl⟩ : ∃ q, m = q + 1 := ⟨m - 1, by omega⟩
    rw [fn_Re_is_23, kl_e k hk, if_pos (nI_le (by omega) (by omega)), bI_t (fun i h => hi i (by omega))]
    rfl
  | succ d ih =>
    intro m j hj hm hi
    obtain ⟨m, rfl⟩ : ∃ q, m = q + 1 := ⟨m - 1, by omega⟩
    have kb := kc_l k hk j (by omega)
    rw [fn_Re_is_23, kl_e k hk, if_neg (nI_ge (by omega) (by omega)), h4, nI_add, ib_e (a + j) 800 (by omega) (by decide), ck_t, chr_e hk (by omega), bd_s, nI_clamp (by omega), ht (a + j) (by omega)]
    have hc := c8_eq (kc k j) (by omega) (S 71 (a + j)) (hb8 _ (by omega))
    by_cases e : S 71 (a + j) = kc k j
    · rw [if_pos (hc.mpr e.symm).symm]
      show fn_Re_is_23 k m (nI j + nI 1) g = _
      rw [nI_add]
      refine ih m (j + 1) (by omega) (by omega) (fun i h => ?_)
      by_cases q : i = j
      · rw [q]; exact e
      · exact hi i (by omega)
    · rw [if_neg (fun z => e (hc.mp z.symm).symm), bI_f (fun z => e (z j (by omega)))]
      rfl
theorem is_c {n a k : Nat} {g : et_G} (hk : k < 13) (hn : n ≤ 800) (hb8 : ∀ i, i < 800 → S 71 i < 256) (ht : ∀ j, j < 800 → g.1 1 j = c8 (S 71 j)) (T : tkC S n a g) : fn_Re_is k g = some (bI (wdP S n a k), g) := by
  have k6 := kl_6 k hk
  have k4 := tkK_4 (S := S) n a
  obtain ⟨t4, t3, t2, t5, t6⟩ := T
  unfold fn_Re_is
  rw [t3, t5, kl_e k hk]
  by_cases q : tkK S n a = 1
  · rw [q, if_pos (show nI 1 = (1 : Int32) from rfl)]
    obtain ⟨e0, e1, e2, e3, e4, e5, e6⟩ := tx_1 q
    by_cases z : tkE S n a - a = kl k
    · rw [if_pos (by rw [z]), show fn_Re_is_23 k 1000000 0 g = _ from is_23 (n := n) hk (by omega) hb8 ht t4 (kl k) 1000000 0 (by omega) (by omega) (fun i hi => absurd hi (Nat.not_lt_zero _))]
      rw [bI_c (show wdP S n a k ↔ _ from ⟨fun w => w.2.2, fun w => ⟨q, z, w⟩⟩)]
    · rw [if_neg (fun w => z ((nI_eq (by omega) (by omega)).mp w)), bI_f (fun w => z w.2.1)]
      rfl
  · rw [if_neg (nq1 q (by omega)), bI_f (fun w => q w.1)]
    rfl
theorem is_m {n a k : Nat} {g : et_G} (hk : k < 13) (hn : n ≤ 800) (T : tkM S n a g) : fn_Mo_is (nI k) g = some (bI (wdP S n a k), g) := by
  have k6 := kl_6 k hk
  have k4 := tkK_4 (S := S) n a
  obtain ⟨t4, t3, t2, t5, t6, t7⟩ := T
  unfold fn_Mo_is
  rw [t3, t5]
  by_cases q : tkK S n a = 1
  · rw [q, if_pos (show nI 1 = (1 : Int32) from rfl)]
    have t7 := t7 q
    obtain ⟨e0, e1, e2, e3, e4, e5, e6⟩ := tx_1 q
    rw [e2] at t7 ⊢
    by_cases z : 7 ≤ lte S n a - a
    · rw [if_pos (show (7 : Int32) ≤ nI (lte S n a - a) from nI_le (a := 7) z (by omega)), bI_f (fun w => by have := w.2.1; rw [e1] at this; omega)]
      rfl
    · rw [if_neg (show ¬ (7 : Int32) ≤ nI (lte S n a - a) from nI_ge (b := 7) (by omega) (by decide)), ltr_e k hk, bd_s, t7, pkd_n _ (by omega) e6]
      have b1 := pkn_b (fun i => S 71 (a + i)) (lte S n a - a) (fun i hi => (e6 i hi).2)
      have b2 : 32 ^ (lte S n a - a) ≤ 32 ^ 6 := Nat.pow_le_pow_right (by decide) (by omega)
      have b3 := pkn_b (kc k) (kl k) (fun i hi => (kc_l k hk i hi).2)
      have b4 : 32 ^ kl k ≤ 32 ^ 6 := Nat.pow_le_pow_right (by decide) (by omega)
      have P := pkn_i (fun i => S 71 (a + i)) (kc k) (lte S n a - a) (kl k) e6 (kc_l k hk)
      by_cases w : wdP S n a k
      · rw [if_pos ((lg_cmp_eq _ _).mpr (by rw [P.mpr ⟨by have := w.2.1; rw [e1] at this; exact this, w.2.2⟩])), bI_t w]
        rfl
      · rw [if_neg (fun y => w (by
          have y1 := P.mp ((pk_lEQ (by omega) (by omega)).mp ((lg_cmp_eq _ _).mp y))
          exact ⟨q, by rw [e1]; exact y1.1, y1.2⟩)), bI_f w]
        rfl
  · rw [if_neg (nq1 q (by omega)), bI_f (fun w => q w.1)]
    rfl
end IW
