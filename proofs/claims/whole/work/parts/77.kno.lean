/-! known; image, restore -/
def th_2 (o : et_oc) : Int32 := match o with | .inl 0 => 1 | .inl _ => 2 | .inr _ => 0
def okB2 (S : et_T) (g : et_G) (FC : Option (et_oc × et_G)) (FM : et_G → Option (Int32 × et_G)) : Prop := ∃ S' o, okC S' g FC o ∧ okM S S' FM (va_o o) (th_2 o) ∧ wf_S S' ∧ wf_4 S' ∧ ∀ k, o = .inl k → k = 0 ∨ k = 1
def fgN (x : Int32) (i : Nat) : Nat := (et_us x (nI (3 * i)) &&& nI 7).toBitVec.toNat
def kz (S : et_T) (x : Int32) : Nat → (Nat → Prop) → Nat → Prop
  | 0, Z => a_kn S (fgN x 0) Z
  | i + 1, Z => kz S x i (a_kn S (fgN x (i + 1)) Z)
theorem kz_0 (S : et_T) (x : Int32) (Z : Nat → Prop) : kz S x 0 Z = a_kn S (fgN x 0) Z := rfl
theorem kz_s (S : et_T) (x : Int32) (i : Nat) (Z : Nat → Prop) : kz S x (i + 1) Z = kz S x i (a_kn S (fgN x (i + 1)) Z) := rfl
section KN
variable {S : et_T} {g : et_G}
theorem fg_lt (x : Int32) (i : Nat) : fgN x i < 8 := by
  obtain ⟨j, h1, h2⟩ := pk_andE (et_us x (nI (3 * i))) (m := nI 7) 3 (by decide)
  unfold fgN
  rw [h2, pk_tn (by omega)]
  exact h1
theorem fg_c (x : Int32) (i : Nat) (g : et_G) : fn_Mi_figure x (nI i) g = some (nI (fgN x i), g) := by
  unfold fn_Mi_figure fgN
  rw [← nI_x, show (3 : Int32) = nI 3 from rfl, pk_mul]
  rfl
theorem fg_m (x : Int32) {i : Nat} (hi : i < 4) : (x >>> (nI (3 * i) &&& nI 31)) &&& nI 7 = nI (fgN x i) := by
  unfold fgN
  rw [← nI_x]
  refine bt_ext fun k hk => ?_
  rw [bt_and, bt_and, bt_us x (by omega)]
  by_cases h : k < 3
  · rw [bt_sr x (by omega) (by omega)]
  · have : bt (nI 7) k = false := by
      rw [bt_n (by decide)]
      exact Nat.testBit_lt_two_pow (Nat.lt_of_lt_of_le (show 7 < 2 ^ 3 by decide) (Nat.pow_le_pow_right (by decide) (by omega)))
    rw [this, Bool.and_false, Bool.and_false]
theorem kz_c {x : Int32} {i : Nat} {Z Y : Nat → Prop} (h : ∀ u, u < 16 → (S 61 68).testBit u = true → (Z u ↔ Y u)) : kz S x i Z = kz S x i Y := by
  cases i with
  | zero => rw [kz_0, kz_0, a_kn_c h]
  | succ i => rw [kz_s, kz_s, a_kn_c h]
theorem and_b (c : Prop) : bI c &&& 1 = bI c := by
  by_cases q : c
  · rw [bI_t q]; rfl
  · rw [bI_f q]; rfl
theorem ik_52 (M : cM S g) (Z : Nat → Prop) : fn_Mi_isKnown_52 (mI Z) g = some (bI (Z (nM (a_rw S))), g) := by
  have c := gA_c M.1
  have rl := rN_lt (by omega) M.2.2
  unfold fn_Mi_isKnown_52
  rw [rw_c M, bd_s, nM_e (a_rw S), hb_m _ (by omega), bd_s, and_b]
theorem ik_st (M : cM S g) (x : Int32) {i n : Nat} (Z : Nat → Prop) (h : i < 2 ^ 31) (hp : fgN x i < S 61 4) : fn_Mi_isKnown_27 x (n + 1) (mI Z) (nI i) g = fn_Mi_isKnown_27 x n (mI (a_kn S (fgN x i) Z)) (nI i + (-1)) g := by
  rw [fn_Mi_isKnown_27, if_neg (nI_pos h), fg_c, bd_s, kn_c M hp, bd_s]
  exact rfl
theorem ik_b {n : Nat} (M : cM S g) (x : Int32) (Z : Nat → Prop) : fn_Mi_isKnown_27 x (n + 1) (mI Z) (nI 0 + (-1)) g = some (bI (Z (nM (a_rw S))), g) := by
  rw [fn_Mi_isKnown_27, if_pos (by decide), ik_52 M]
theorem ik_27 (M : cM S g) (x : Int32) : ∀ i n Z, i < 4 → i < n → (∀ k, k ≤ i → fgN x k < S 61 4) → fn_Mi_isKnown_27 x (n + 1) (mI Z) (nI i) g = some (bI (kz S x i Z (nM (a_rw S))), g) := by
  intro i
  induction i with
  | zero =>
    intro n Z _ hn hp
    obtain ⟨n, rfl⟩ : ∃ m, n = m + 1 := ⟨n - 1, by omega⟩
    rw [ik_st M x Z (by decide) (hp 0 (Nat.le_refl _)), ik_b M, kz_0]
  | succ i ih =>
    intro n Z h4 hn hp
    obtain ⟨n, rfl⟩ : ∃ m, n = m + 1 := ⟨n - 1, by omega⟩
    rw [ik_st M x Z (by omega) (hp _ (Nat.le_refl _)), pk_m1, ih n _ (by omega) (by omega) (fun k hk => hp k (by omega)), kz_s]
theorem ik_128 (M : mM S g) (Z : Nat → Prop) : fn_Mo_known_128 (mI Z) g = some (bI (Z (nM (a_rw S))), g) := by
  have c := mB_c M.1
  have rl := rN_lt (by omega) M.2
  unfold fn_Mo_known_128
  rw [rw_m M, bd_s, nM_e (a_rw S)]
  simp (disch := omega) only [ni_of, nI_clamp, ib_e, ck_t, bd_s, et_b, nI_add, if_p, ni_eq, ni_lt, ni_le, b_e0, b_e1, io_n, mb_m]
  rw [io_s]
theorem ik_st' (M : mM S g) (x : Int32) {i n : Nat} (Z : Nat → Prop) (h : i < 4) (hp : fgN x i < S 61 4) : fn_Mo_known_100 x (n + 1) (mI Z) (nI i) g = fn_Mo_known_100 x n (mI (a_kn S (fgN x i) Z)) (nI i + (-1)) g := by
  rw [fn_Mo_known_100, if_neg (nI_pos (by omega)), show (3 : Int32) = nI 3 from rfl, show (7 : Int32) = nI 7 from rfl, show (31 : Int32) = nI 31 from rfl, pk_mul, fg_m x h, kn_m M hp, bd_s]
  exact rfl
theorem ik_b' {n : Nat} (M : mM S g) (x : Int32) (Z : Nat → Prop) : fn_Mo_known_100 x (n + 1) (mI Z) (nI 0 + (-1)) g = some (bI (Z (nM (a_rw S))), g) := by
  rw [fn_Mo_known_100, if_pos (by decide), ik_128 M]
theorem ik_100 (M : mM S g) (x : Int32) : ∀ i n Z, i < 4 → i < n → (∀ k, k ≤ i → fgN x k < S 61 4) → fn_Mo_known_100 x (n + 1) (mI Z) (nI i) g = some (bI (kz S x i Z (nM (a_rw S))), g) := by
  intro i
  induction i with
  | zero =>
    intro n Z h4 hn hp
    obtain ⟨n, rfl⟩ : ∃ m, n = m + 1 := ⟨n - 1, by omega⟩
    rw [ik_st' M x Z h4 (hp 0 (Nat.le_refl _)), ik_b' M, kz_0]
  | succ i ih =>
    intro n Z h4 hn hp
    obtain ⟨n, rfl⟩ : ∃ m, n = m + 1 := ⟨n - 1, by omega⟩
    rw [ik_st' M x Z h4 (hp _ (Nat.le_refl _)), pk_m1, ih n _ (by omega) (by omega) (fun k hk => hp k (by omega)), kz_s]
end KN
