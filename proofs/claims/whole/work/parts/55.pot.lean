/-! bits counted -/
theorem na_n {a b : Nat} (ha : a < 2 ^ 32) (hb : b < 2 ^ 32) : nI a &&& nI b = nI (a &&& b) := by
  apply bt_ext
  intro i _
  rw [bt_and, bt_n ha, bt_n hb, bt_n (Nat.lt_of_le_of_lt Nat.and_le_left ha), Nat.testBit_and]
theorem pop_hi {n k : Nat} (h : n < 2 ^ k) : ∀ j, pop (k + j) n = pop k n := by
  intro j
  induction j with
  | zero => rfl
  | succ j ih =>
    have h2 : n < 2 ^ (k + j) := Nat.lt_of_lt_of_le h (Nat.pow_le_pow_right (by decide) (by omega))
    show pop (k + j) n + n / 2 ^ (k + j) % 2 = _
    rw [ih, Nat.div_eq_of_lt h2, Nat.zero_mod, Nat.add_zero]
theorem pop_P {n : Nat} (h : n < 65536) : pop 31 n = sw_P n := by
  rw [show (31 : Nat) = 16 + 15 from rfl, pop_hi (k := 16) h]
  simp only [pop, sw_P]
  simp only [Nat.reducePow, Nat.zero_add, Nat.div_one]
  omega
theorem us_n {n k : Nat} (h : n < 2 ^ 32) (hk : k < 32) : et_us (nI n) (nI k) = nI (n / 2 ^ k) := pk_ushrN h (nI k) k (um_k k hk)
theorem bc_e {n : Nat} (h : n < 65536) (g : et_G) : fn_Ji_bitCount (nI n) g = some (nI (pop 31 n), g) := by
  rw [pop_P h, ← sw_ok h]
  unfold fn_Ji_bitCount
  simp only [et_b, ni_of]
  have a1 : (n / 2 &&& 1431655765) ≤ n / 2 := Nat.and_le_left
  have e1 : nI n - (et_us (nI n) (nI 1) &&& nI 1431655765) = nI (n - (n / 2 &&& 1431655765)) := by
    rw [us_n (by omega) (by decide), show (2 : Nat) ^ 1 = 2 from rfl, na_n (by omega) (by decide), pk_sub (by omega)]
  rw [e1]
  generalize hv1 : n - (n / 2 &&& 1431655765) = v1
  have b1 : v1 ≤ n := by omega
  have a2 : (v1 &&& 858993459) ≤ v1 := Nat.and_le_left
  have a3 : (v1 / 4 &&& 858993459) ≤ v1 / 4 := Nat.and_le_left
  have e2 : (nI v1 &&& nI 858993459) + (et_us (nI v1) (nI 2) &&& nI 858993459) = nI ((v1 &&& 858993459) + (v1 / 4 &&& 858993459)) := by
    rw [us_n (by omega) (by decide), na_n (by omega) (by decide), na_n (by omega) (by decide), nI_add]
  rw [e2]
  generalize hv2 : (v1 &&& 858993459) + (v1 / 4 &&& 858993459) = v2
  have b2 : v2 ≤ 2 * n := by omega
  have e3 : (nI v2 + et_us (nI v2) (nI 4)) &&& nI 252645135 = nI ((v2 + v2 / 16) &&& 252645135) := by
    rw [us_n (by omega) (by decide), nI_add, na_n (by omega) (by decide)]
  rw [e3]
  have a4 : ((v2 + v2 / 16) &&& 252645135) ≤ v2 + v2 / 16 := Nat.and_le_left
  generalize hv3 : (v2 + v2 / 16) &&& 252645135 = v3
  have b3 : v3 ≤ 3 * n := by omega
  have e4 : nI v3 + et_us (nI v3) (nI 8) = nI (v3 + v3 / 256) := by
    rw [us_n (by omega) (by decide), nI_add]
  rw [e4]
  generalize hv4 : v3 + v3 / 256 = v4
  have b4 : v4 ≤ 6 * n := by omega
  have e5 : nI v4 + et_us (nI v4) (nI 16) = nI (v4 + v4 / 65536) := by
    rw [us_n (by omega) (by decide), nI_add]
  rw [e5, na_n (by omega) (by decide)]
  simp only [sw_F, hv1, hv2, hv3, hv4]
theorem bi_l {x : Nat} (hx : x < 2 ^ 31) (g : et_G) : ∀ d n k, k + d = 31 → d < n → fn_Mo_bits_4 (nI x) n (nI (pop k x)) (nI k) g = some (nI (pop 31 x), g) := by
  intro d
  induction d with
  | zero =>
    intro n k hk hn
    obtain ⟨n, rfl⟩ : ∃ m, n = m + 1 := ⟨n - 1, by omega⟩
    rw [fn_Mo_bits_4]
    simp (disch := omega) only [ni_of, ni_le]
    rw [if_pos (by omega), show k = 31 from by omega]
  | succ d ih =>
    intro n k hk hn
    obtain ⟨n, rfl⟩ : ∃ m, n = m + 1 := ⟨n - 1, by omega⟩
    rw [fn_Mo_bits_4]
    simp (disch := omega) only [ni_of, ni_le]
    rw [if_neg (by omega)]
    simp only [et_b]
    have e : (nI x >>> (nI k &&& nI 31)) &&& nI 1 = nI (x / 2 ^ k % 2) := by
      rw [sr_n hx (by omega)]
      exact pk_andN (Nat.lt_of_le_of_lt (Nat.div_le_self _ _) (by omega)) 1 (by decide)
    rw [e, nI_add, nI_add]
    exact ih n (k + 1) (by omega) (by omega)
theorem bi_e {n : Nat} (h : n < 2 ^ 31) (g : et_G) : fn_Mo_bits (nI n) g = some (nI (pop 31 n), g) :=
  bi_l h g 31 1000000 0 rfl (by decide)
