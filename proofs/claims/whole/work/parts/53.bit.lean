/-! straight steps as equations; bits -/
section BD
variable {α β γ : Type}
theorem bd_s (a : β) (g : et_G) (f : β → et_G → Option γ) : et_bd (some (a, g)) f = f a g := rfl
theorem bt_r (a : β) (g : et_G) (f : β → et_G → Option ((Nat ⊕ γ) × et_G)) : et_bt (some (.inr a, g)) f = f a g := rfl
theorem bt_l (k : Nat) (g : et_G) (f : β → et_G → Option ((Nat ⊕ γ) × et_G)) : et_bt (some (.inl k, g)) f = some (.inl k, g) := rfl
theorem ck_t (o : Option β) : et_ck true o = o := rfl
end BD
theorem ib_e (i N : Nat) (h : i < N) (hN : N < 2 ^ 31) : et_ib (nI i) N = true := ib_n h hN
theorem bt_or (a b : Int32) (i : Nat) : bt (a ||| b) i = (bt a i || bt b i) := by simp [bt]
theorem bt_and (a b : Int32) (i : Nat) : bt (a &&& b) i = (bt a i && bt b i) := by simp [bt]
theorem bt_not (a : Int32) (i : Nat) : bt (~~~ a) i = (decide (i < 32) && !bt a i) := by simp [bt]
theorem bt_xor (a b : Int32) (i : Nat) : bt (a ^^^ b) i = (bt a i ^^ bt b i) := by simp [bt]
theorem bt_ext {a b : Int32} (h : ∀ i, i < 32 → bt a i = bt b i) : a = b := by
  apply Int32.toBitVec_inj.mp
  apply BitVec.eq_of_getLsbD_eq
  exact h
theorem bt_big (a : Int32) {i : Nat} (h : 32 ≤ i) : bt a i = false := BitVec.getLsbD_of_ge _ _ h
theorem bt_n {n : Nat} (h : n < 2 ^ 32) (i : Nat) : bt (nI n) i = n.testBit i := by
  show (nI n).toBitVec.toNat.testBit i = _
  rw [pk_tn h]
theorem bt_0 (i : Nat) : bt 0 i = false := by simp [bt]
theorem bt_n0 (i : Nat) : bt (nI 0) i = false := bt_0 i
theorem sm_k : ∀ k, k < 32 → ((nI k &&& nI 31).toBitVec.smod 32).toNat = k := by decide
theorem um_k : ∀ k, k < 32 → (((nI k).toUInt32 &&& Int32.toUInt32 31).toBitVec % 32).toNat = k := by decide
theorem sr_n {n k : Nat} (h : n < 2 ^ 31) (hk : k < 32) : nI n >>> (nI k &&& nI 31) = nI (n / 2 ^ k) := pk_shrN h _ k (sm_k k hk)
theorem sl_n {k : Nat} (hk : k < 31) : nI 1 <<< (nI k &&& nI 31) = nI (2 ^ k) := by
  have h2 : (2 : Nat) ^ k < 2 ^ 31 := Nat.pow_lt_pow_right (by decide) hk
  have := pk_shlN (n := 1) (nI k &&& nI 31) k (sm_k k (by omega)) (by omega)
  rw [this, Nat.one_mul]
theorem bt_sl {k : Nat} (hk : k < 31) (i : Nat) : bt (nI 1 <<< (nI k &&& nI 31)) i = decide (i = k) := by
  have h2 : (2 : Nat) ^ k < 2 ^ 31 := Nat.pow_lt_pow_right (by decide) hk
  rw [sl_n hk, bt_n (by omega), Nat.testBit_two_pow]
  exact decide_eq_decide.mpr ⟨Eq.symm, Eq.symm⟩
theorem bt_us (x : Int32) {k : Nat} (hk : k < 32) (i : Nat) : bt (et_us x (nI k)) i = bt x (k + i) := by
  show (et_us x (nI k)).toBitVec.toNat.testBit i = x.toBitVec.toNat.testBit (k + i)
  rw [show (et_us x (nI k)).toBitVec.toNat = x.toBitVec.toNat / 2 ^ k from pk_ushr x (nI k) k (um_k k hk), Nat.testBit_div_two_pow, Nat.add_comm]
theorem bt_sr (x : Int32) {k : Nat} (hk : k < 32) {i : Nat} (hi : k + i < 32) : bt (x >>> (nI k &&& nI 31)) i = bt x (k + i) := by
  have e : (x >>> (nI k &&& nI 31)).toBitVec = x.toBitVec.sshiftRight k := by
    have h := sm_k k hk
    show x.toBitVec.sshiftRight ((nI k &&& nI 31).toBitVec.smod 32).toNat = _
    rw [h]
  unfold bt
  rw [e, BitVec.getLsbD_sshiftRight]
  simp [hi]
  omega
theorem and_1 (x : Int32) : x &&& nI 1 = if bt x 0 = true then 1 else 0 := by
  apply bt_ext
  intro i hi
  rw [bt_and, show nI 1 = (1 : Int32) from rfl]
  have h1 : bt 1 i = decide (i = 0) := by
    rw [show (1 : Int32) = nI 1 from rfl, bt_n (by decide), show (1 : Nat) = 2 ^ 0 from rfl, Nat.testBit_two_pow]
    exact decide_eq_decide.mpr ⟨Eq.symm, Eq.symm⟩
  by_cases e : i = 0
  · subst e
    cases hb : bt x 0
    · simp [bt_0]
    · simp [h1]
  · rw [h1]
    cases hb : bt x 0 <;> simp [e, bt_0, h1]
theorem hb_1 (x : Int32) {k : Nat} (hk : k < 32) (g : et_G) : fn_Et_hasBit x (nI k) g = some (if bt x k = true then 1 else 0, g) := by
  unfold fn_Et_hasBit
  rw [show (1 : Int32) = nI 1 from rfl, and_1, bt_us x hk]
  cases h : bt x (k + 0)
  · rw [Nat.add_zero] at h
    simp [h]
  · rw [Nat.add_zero] at h
    simp [h]
/-- a bit asked for as the model does -/
theorem mb_1 (x : Int32) {k : Nat} (hk : k < 32) : (x >>> (nI k &&& nI 31)) &&& nI 1 = if bt x k = true then 1 else 0 := by
  rw [and_1, bt_sr x hk (by omega)]
  rfl
