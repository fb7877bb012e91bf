/-! the parts of a set, one by one upward -/
def rk : Nat → Nat → Nat → Nat
  | 0, _, _ => 0
  | N + 1, H, m => if H % 2 = 1 then 2 * rk N (H / 2) (m / 2) + m % 2 else rk N (H / 2) (m / 2)
def nx (N H m : Nat) : Nat := ((m + (2 ^ N - 1 - H) + 1) % 2 ^ N) &&& H
theorem pop_0 (N H : Nat) : pop (N + 1) H = H % 2 + pop N (H / 2) := by
  induction N with
  | zero => simp [pop]
  | succ N ih =>
    show pop (N + 1) H + H / 2 ^ (N + 1) % 2 = H % 2 + (pop N (H / 2) + H / 2 / 2 ^ N % 2)
    rw [ih, Nat.div_div_eq_div_mul, show 2 * 2 ^ N = 2 ^ (N + 1) by rw [Nat.pow_succ]; omega]
    omega
theorem and_2 (a b : Nat) : (a &&& b) / 2 = a / 2 &&& b / 2 := by
  apply Nat.eq_of_testBit_eq
  intro i
  rw [show (2 : Nat) = 2 ^ 1 from rfl, Nat.testBit_div_two_pow, Nat.testBit_and, Nat.testBit_and, Nat.testBit_div_two_pow, Nat.testBit_div_two_pow]
theorem and_m (a b : Nat) : (a &&& b) % 2 = a % 2 * (b % 2) := by
  have h : (a &&& b).testBit 0 = (a.testBit 0 && b.testBit 0) := Nat.testBit_and ..
  rw [Nat.testBit_zero, Nat.testBit_zero, Nat.testBit_zero] at h
  have ha := Nat.mod_two_eq_zero_or_one a
  have hb := Nat.mod_two_eq_zero_or_one b
  have hc := Nat.mod_two_eq_zero_or_one (a &&& b)
  rcases ha with ha | ha <;> rcases hb with hb | hb <;> rcases hc with hc | hc <;> simp_all
theorem sub_2 {m H : Nat} (h : m &&& H = m) : m / 2 &&& H / 2 = m / 2 ∧ m % 2 = m % 2 * (H % 2) := by
  constructor
  · rw [← and_2, h]
  · rw [← and_m, h]
theorem rk_lt : ∀ N H m, rk N H m < 2 ^ pop N H := by
  intro N
  induction N with
  | zero => intro H m; exact Nat.one_pos
  | succ N ih =>
    intro H m
    have := ih (H / 2) (m / 2)
    rw [pop_0]
    unfold rk
    by_cases h : H % 2 = 1
    · rw [if_pos h, h, Nat.add_comm 1, Nat.pow_succ]
      have := Nat.mod_two_eq_zero_or_one m
      omega
    · rw [if_neg h, show H % 2 = 0 by omega, Nat.zero_add]
      exact this
theorem rk_mono : ∀ N H m k, m < 2 ^ N → k < 2 ^ N → m &&& H = m → k &&& H = k → (rk N H m < rk N H k ↔ m < k) := by
  intro N
  induction N with
  | zero =>
    intro H m k hm hk _ _
    unfold rk
    simp at hm hk
    omega
  | succ N ih =>
    intro H m k hm hk sm sk
    obtain ⟨m1, m2⟩ := sub_2 sm
    obtain ⟨k1, k2⟩ := sub_2 sk
    rw [Nat.pow_succ] at hm hk
    have i1 := ih (H / 2) (m / 2) (k / 2) (by omega) (by omega) m1 k1
    have i2 := ih (H / 2) (k / 2) (m / 2) (by omega) (by omega) k1 m1
    unfold rk
    by_cases h : H % 2 = 1
    · rw [if_pos h, if_pos h]
      have := Nat.mod_two_eq_zero_or_one m
      have := Nat.mod_two_eq_zero_or_one k
      constructor
      · intro z
        by_cases q : m / 2 < k / 2
        · omega
        · have := mt i1.mp q
          have := mt i2.mp
          by_cases q2 : k / 2 < m / 2
          · have := i2.mpr q2; omega
          · have e : m / 2 = k / 2 := by omega
            rw [e] at z; omega
      · intro z
        by_cases q : m / 2 < k / 2
        · have := i1.mpr q; omega
        · have e : m / 2 = k / 2 := by omega
          rw [e]; omega
    · rw [if_neg h, if_neg h]
      have h0 : H % 2 = 0 := by omega
      rw [h0, Nat.mul_zero] at m2 k2
      constructor
      · intro z; have := i1.mp z; omega
      · intro z; exact i1.mpr (by omega)
theorem rk_inj {N H m k : Nat} (hm : m < 2 ^ N) (hk : k < 2 ^ N) (sm : m &&& H = m) (sk : k &&& H = k) (e : rk N H m = rk N H k) : m = k := by
  have a := rk_mono N H m k hm hk sm sk
  have b := rk_mono N H k m hk hm sk sm
  rcases Nat.lt_trichotomy m k with z | z | z
  · have := a.mpr z; omega
  · exact z
  · have := b.mpr z; omega
theorem ap_2 : ∀ N H m, H < 2 ^ N → m &&& H = m → (m + (2 ^ N - 1 - H)) &&& H = m := by
  intro N
  induction N with
  | zero =>
    intro H m hH sm
    simp at hH
    subst hH
    rw [Nat.and_zero] at sm ⊢
    exact sm
  | succ N ih =>
    intro H m hH sm
    obtain ⟨m1, m2⟩ := sub_2 sm
    have p2 : 2 ^ (N + 1) = 2 * 2 ^ N := by rw [Nat.pow_succ]; omega
    have pp : 0 < 2 ^ N := Nat.two_pow_pos N
    rw [p2] at hH ⊢
    have hle : m ≤ H := by rw [← sm]; exact Nat.and_le_right
    have mh := Nat.mod_two_eq_zero_or_one H
    have mm := Nat.mod_two_eq_zero_or_one m
    have hb : m % 2 ≤ H % 2 := by
      rcases mh with q | q
      · rw [q, Nat.mul_zero] at m2; omega
      · omega
    have a := ih (H / 2) (m / 2) (by omega) m1
    have e2 : (m + (2 * 2 ^ N - 1 - H)) / 2 = m / 2 + (2 ^ N - 1 - H / 2) := by omega
    have e3 : (m + (2 * 2 ^ N - 1 - H)) % 2 = m % 2 + 1 - H % 2 := by omega
    have d := and_2 (m + (2 * 2 ^ N - 1 - H)) H
    have r := and_m (m + (2 * 2 ^ N - 1 - H)) H
    rw [e2, a] at d
    rw [e3] at r
    have r2 : (m % 2 + 1 - H % 2) * (H % 2) = m % 2 := by
      rcases mh with q | q
      · rw [q, Nat.mul_zero]; omega
      · rw [q, Nat.mul_one]; omega
    rw [r2] at r
    omega
theorem nx_2 {N H m : Nat} (hH : H < 2 ^ (N + 1)) (hm : m < 2 ^ (N + 1)) (sm : m &&& H = m) : nx (N + 1) H m / 2 = (if H % 2 = 1 ∧ m % 2 = 0 then m / 2 else nx N (H / 2) (m / 2)) ∧ nx (N + 1) H m % 2 = (if H % 2 = 1 ∧ m % 2 = 0 then 1 else 0) := by
  obtain ⟨m1, m2⟩ := sub_2 sm
  have p2 : 2 ^ (N + 1) = 2 * 2 ^ N := by rw [Nat.pow_succ]; omega
  have pp : 0 < 2 ^ N := Nat.two_pow_pos N
  rw [p2] at hH hm
  have hH2 : H / 2 < 2 ^ N := by omega
  have hle : m ≤ H := by rw [← sm]; exact Nat.and_le_right
  have mh := Nat.mod_two_eq_zero_or_one H
  have mm := Nat.mod_two_eq_zero_or_one m
  have hb : m % 2 ≤ H % 2 := by
    rcases mh with q | q
    · rw [q, Nat.mul_zero] at m2; omega
    · omega
  unfold nx
  rw [and_2, and_m, p2]
  by_cases c : H % 2 = 1 ∧ m % 2 = 0
  · rw [if_pos c, if_pos c]
    have e1 : m + (2 * 2 ^ N - 1 - H) + 1 < 2 * 2 ^ N := by omega
    rw [Nat.mod_eq_of_lt e1]
    have e2 : (m + (2 * 2 ^ N - 1 - H) + 1) / 2 = m / 2 + (2 ^ N - 1 - H / 2) := by omega
    have e3 : (m + (2 * 2 ^ N - 1 - H) + 1) % 2 = 1 := by omega
    rw [e2, e3, c.1, ap_2 N _ _ hH2 m1]
    exact ⟨rfl, rfl⟩
  · rw [if_neg c, if_neg c]
    have e : m + (2 * 2 ^ N - 1 - H) + 1 = 2 * (m / 2 + (2 ^ N - 1 - H / 2) + 1) := by omega
    rw [e, Nat.mul_mod_mul_left, Nat.mul_div_cancel_left _ (by decide : 0 < 2), Nat.mul_mod_right, Nat.zero_mul]
    exact ⟨rfl, rfl⟩
theorem nx_rk : ∀ N H m, H < 2 ^ N → m < 2 ^ N → m &&& H = m → rk N H (nx N H m) = (rk N H m + 1) % 2 ^ pop N H := by
  intro N
  induction N with
  | zero => intro H m _ _ _; simp [rk, pop]
  | succ N ih =>
    intro H m hH hm sm
    obtain ⟨n1, n2⟩ := nx_2 hH hm sm
    obtain ⟨m1, m2⟩ := sub_2 sm
    have p2 : 2 ^ (N + 1) = 2 * 2 ^ N := by rw [Nat.pow_succ]; omega
    rw [p2] at hH hm
    have i := ih (H / 2) (m / 2) (by omega) (by omega) m1
    have l := rk_lt N (H / 2) (m / 2)
    have mm := Nat.mod_two_eq_zero_or_one m
    rw [pop_0]
    unfold rk
    rw [n1, n2]
    by_cases h : H % 2 = 1
    · rw [if_pos h, if_pos h, h, Nat.add_comm 1 (pop N (H / 2)), Nat.pow_succ]
      by_cases b : m % 2 = 0
      · rw [if_pos ⟨rfl, b⟩, if_pos ⟨rfl, b⟩, b, Nat.mod_eq_of_lt (by omega)]
      · rw [if_neg (fun z => b z.2), if_neg (fun z => b z.2), i, show m % 2 = 1 by omega, show 2 * rk N (H / 2) (m / 2) + 1 + 1 = 2 * (rk N (H / 2) (m / 2) + 1) by omega, Nat.mul_comm (2 ^ pop N (H / 2)) 2, Nat.mul_mod_mul_left, Nat.add_zero]
    · rw [if_neg h, if_neg h, if_neg (fun z => h z.1), i, show H % 2 = 0 by omega, Nat.zero_add]
theorem nx_s (N H m : Nat) : nx N H m &&& H = nx N H m := by
  unfold nx
  rw [Nat.and_assoc, Nat.and_self]
theorem nx_l {N H m : Nat} (h : H < 2 ^ N) : nx N H m < 2 ^ N := Nat.lt_of_le_of_lt Nat.and_le_right h
/-- on the machine's numbers -/
theorem nx_i {H m : Nat} (hH : H < 2 ^ 31) (hm : m < 2 ^ 31) : (nI m - nI H) &&& nI H = nI (nx 32 H m) := by
  have e : nI m - nI H = nI ((m + (2 ^ 32 - 1 - H) + 1) % 2 ^ 32) := by
    apply Int32.toBitVec_inj.mp
    apply BitVec.eq_of_toNat_eq
    rw [Int32.toBitVec_sub, BitVec.toNat_sub, pk_tn (show m < 2 ^ 32 by omega), pk_tn (show H < 2 ^ 32 by omega), pk_tn (Nat.mod_lt _ (by decide))]
    congr 1
    omega
  rw [e, na_n (Nat.mod_lt _ (by decide)) (by omega)]
  rfl
theorem pop_31 {H : Nat} (h : H < 2 ^ 31) : pop 32 H = pop 31 H := pop_hi h 1
