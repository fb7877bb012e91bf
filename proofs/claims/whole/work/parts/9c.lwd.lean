/-! the law's loop -/
section LZ
variable {L : Nat} {xs : Nat → Int32}
theorem ll_n : ∀ L, L < 6 → nI L - (6 : Int32) < 0 := by decide
theorem ll_t (hL : L ≤ 3072) {j : Nat} (hj : j ≤ 600) : (Int32.ofNat L - (6 : Int32)) < nI (6 * j) ↔ L < 6 * j + 6 := by
  show (nI L - (6 : Int32)) < nI (6 * j) ↔ L < 6 * j + 6
  by_cases h : L < 6
  · exact ⟨fun _ => by omega, fun _ => Int32.lt_of_lt_of_le (ll_n L h) (nI_pos' (by omega))⟩
  · rw [show (6 : Int32) = nI 6 from rfl, pk_sub (by omega), nI_ltI (by omega) (by omega)]
    omega
theorem ll_e (hv : ∀ S g, Ij S g → ∀ p, okW 1 S g (fn_Et_village p g) (fn_Mo_village p)) (hL : L ≤ 3072) : ∀ d m j S g, j + d = 600 → d < m → Ij S g → ev_Q (fn_La_law_L L xs m (nI (6 * j)) g) (fun a _ => a = 1) := by
  intro d
  induction d with
  | zero =>
    intro m j S g hd hm I
    obtain ⟨m, rfl⟩ : ∃ q, m = q + 1 := ⟨m - 1, by omega⟩
    rw [fn_La_law_L, if_pos ((ll_t hL (by omega)).mpr (by omega))]
    exact ev_r rfl
  | succ d ih =>
    intro m j S g hd hm I
    obtain ⟨m, rfl⟩ : ∃ q, m = q + 1 := ⟨m - 1, by omega⟩
    rw [fn_La_law_L]
    by_cases h : L < 6 * j + 6
    · rw [if_pos ((ll_t hL (by omega)).mpr h)]
      exact ev_r rfl
    · rw [if_neg (fun z => h ((ll_t hL (by omega)).mp z))]
      refine ev_k (ib_n (by omega) (by omega)) ?_
      have e1 : et_ib (nI (6 * j) + (1 : Int32)) L = true := by rw [show (1 : Int32) = nI 1 from rfl, nI_add]; exact ib_n (by omega) (by omega)
      have e2 : et_ib (nI (6 * j) + (2 : Int32)) L = true := by rw [show (2 : Int32) = nI 2 from rfl, nI_add]; exact ib_n (by omega) (by omega)
      have e3 : et_ib (nI (6 * j) + (3 : Int32)) L = true := by rw [show (3 : Int32) = nI 3 from rfl, nI_add]; exact ib_n (by omega) (by omega)
      have e4 : et_ib (nI (6 * j) + (4 : Int32)) L = true := by rw [show (4 : Int32) = nI 4 from rfl, nI_add]; exact ib_n (by omega) (by omega)
      have e5 : et_ib (nI (6 * j) + (5 : Int32)) L = true := by rw [show (5 : Int32) = nI 5 from rfl, nI_add]; exact ib_n (by omega) (by omega)
      have kk : ∀ S' g', Ij S' g' → ev_Q (fn_La_law_L L xs m (nI (6 * j) + (6 : Int32)) g') (fun a _ => a = 1) := fun S' g' I' => by
        rw [show (6 : Int32) = nI 6 from rfl, nI_add]
        exact ih m (j + 1) S' g' (by omega) (by omega) I'
      by_cases h0 : (xs (nI (6 * j)).toNatClampNeg &&& (31 : Int32)) = 0
      · rw [if_pos h0]; exact lc_0 I e1 e2 e3 e4 e5 kk
      rw [if_neg h0]
      by_cases h1 : (xs (nI (6 * j)).toNatClampNeg &&& (31 : Int32)) = 1
      · rw [if_pos h1]; exact lc_1 I (hv S g I) e1 kk
      rw [if_neg h1]
      by_cases h2 : (xs (nI (6 * j)).toNatClampNeg &&& (31 : Int32)) = 2
      · rw [if_pos h2]; exact lc_2 I  kk
      rw [if_neg h2]
      by_cases h3 : (xs (nI (6 * j)).toNatClampNeg &&& (31 : Int32)) = 3
      · rw [if_pos h3]; exact lc_3 I e1 kk
      rw [if_neg h3]
      by_cases h4 : (xs (nI (6 * j)).toNatClampNeg &&& (31 : Int32)) = 4
      · rw [if_pos h4]; exact lc_4 I e1 e2 kk
      rw [if_neg h4]
      by_cases h5 : (xs (nI (6 * j)).toNatClampNeg &&& (31 : Int32)) = 5
      · rw [if_pos h5]; exact lc_5 I e1 e2 kk
      rw [if_neg h5]
      by_cases h6 : (xs (nI (6 * j)).toNatClampNeg &&& (31 : Int32)) = 6
      · rw [if_pos h6]; exact lc_6 I e1 e2 e3 e4 kk
      rw [if_neg h6]
      by_cases h7 : (xs (nI (6 * j)).toNatClampNeg &&& (31 : Int32)) = 7
      · rw [if_pos h7]; exact lc_7 I e1 kk
      rw [if_neg h7]
      by_cases h8 : (xs (nI (6 * j)).toNatClampNeg &&& (31 : Int32)) = 8
      · rw [if_pos h8]; exact lc_8 I e1 kk
      rw [if_neg h8]
      by_cases h9 : (xs (nI (6 * j)).toNatClampNeg &&& (31 : Int32)) = 9
      · rw [if_pos h9]; exact lc_9 I e1 e2 e3 e4 e5 kk
      rw [if_neg h9]
      by_cases h10 : (xs (nI (6 * j)).toNatClampNeg &&& (31 : Int32)) = 10
      · rw [if_pos h10]; exact lc_10 I e1 e2 e3 kk
      rw [if_neg h10]
      by_cases h11 : (xs (nI (6 * j)).toNatClampNeg &&& (31 : Int32)) = 11
      · rw [if_pos h11]; exact lc_11 I  kk
      rw [if_neg h11]
      by_cases h12 : (xs (nI (6 * j)).toNatClampNeg &&& (31 : Int32)) = 12
      · rw [if_pos h12]; exact lc_12 I e1 e2 kk
      rw [if_neg h12]
      by_cases h13 : (xs (nI (6 * j)).toNatClampNeg &&& (31 : Int32)) = 13
      · rw [if_pos h13]; exact lc_13 I e1 e2 e3 e4 kk
      rw [if_neg h13]
      by_cases h14 : (xs (nI (6 * j)).toNatClampNeg &&& (31 : Int32)) = 14
      · rw [if_pos h14]; exact lc_14 I e1 kk
      rw [if_neg h14]
      by_cases h15 : (xs (nI (6 * j)).toNatClampNeg &&& (31 : Int32)) = 15
      · rw [if_pos h15]; exact lc_15 I  kk
      rw [if_neg h15]
      by_cases h16 : (xs (nI (6 * j)).toNatClampNeg &&& (31 : Int32)) = 16
      · rw [if_pos h16]; exact lc_16 I e1 kk
      rw [if_neg h16]
      by_cases h17 : (xs (nI (6 * j)).toNatClampNeg &&& (31 : Int32)) = 17
      · rw [if_pos h17]; exact lc_17 I e1 e2 kk
      rw [if_neg h17]
      by_cases h18 : (xs (nI (6 * j)).toNatClampNeg &&& (31 : Int32)) = 18
      · rw [if_pos h18]; exact lc_18 I e1 e2 kk
      rw [if_neg h18]
      by_cases h19 : (xs (nI (6 * j)).toNatClampNeg &&& (31 : Int32)) = 19
      · rw [if_pos h19]; exact lc_19 I e1 kk
      rw [if_neg h19]
      by_cases h20 : (xs (nI (6 * j)).toNatClampNeg &&& (31 : Int32)) = 20
      · rw [if_pos h20]; exact lc_20 I e1 e2 e3 kk
      rw [if_neg h20]
      by_cases h21 : (xs (nI (6 * j)).toNatClampNeg &&& (31 : Int32)) = 21
      · rw [if_pos h21]; exact lc_21 I e1 e2 e3 e4 kk
      rw [if_neg h21]
      by_cases h22 : (xs (nI (6 * j)).toNatClampNeg &&& (31 : Int32)) = 22
      · rw [if_pos h22]; exact lc_22 I  kk
      rw [if_neg h22]
      by_cases h23 : (xs (nI (6 * j)).toNatClampNeg &&& (31 : Int32)) = 23
      · rw [if_pos h23]; exact lc_23 I  kk
      rw [if_neg h23]
      exact kk S g I
end LZ
