/-! feed -/
def by_n (x : Int32) (s : Nat) : Nat := x.toBitVec.toNat / 2 ^ s % 256
def s1 (S : et_T) (b : Nat) : et_T := fun k j => if k = 71 ∧ j = S 61 17 then b else if k = 61 ∧ j = 17 then S 61 17 + 1 else S k j
def s4 (S : et_T) (x : Int32) : et_T := s1 (s1 (s1 (s1 S (by_n x 24)) (by_n x 16)) (by_n x 8)) (by_n x 0)
theorem s1_17 (S : et_T) (b : Nat) : s1 S b 61 17 = S 61 17 + 1 := by simp [s1]
theorem s1_71 (S : et_T) (b j : Nat) : s1 S b 71 j = if j = S 61 17 then b else S 71 j := by simp [s1]
theorem s1_o (S : et_T) (b k j : Nat) (h : k ≠ 71) (h2 : k ≠ 61 ∨ j ≠ 17) : s1 S b k j = S k j := by
  unfold s1
  rw [if_neg (fun e => h e.1), if_neg (fun e => h2.elim (fun f => f e.1) (fun f => f e.2))]
theorem s4_17 (S : et_T) (x : Int32) : s4 S x 61 17 = S 61 17 + 4 := by simp [s4, s1_17]
theorem s4_o (S : et_T) (x : Int32) (k j : Nat) (h : k ≠ 71) (h2 : k ≠ 61 ∨ j ≠ 17) : s4 S x k j = S k j := by
  unfold s4
  rw [s1_o _ _ _ _ h h2, s1_o _ _ _ _ h h2, s1_o _ _ _ _ h h2, s1_o _ _ _ _ h h2]
theorem by_lt (x : Int32) (s : Nat) : by_n x s < 256 := Nat.mod_lt _ (by decide)
theorem by_m (x : Int32) : ∀ s, s = 24 ∨ s = 16 ∨ s = 8 ∨ s = 0 → (x >>> (nI s &&& nI 31)) &&& nI 255 = nI (by_n x s) := by
  intro s hs
  rw [pk_and _ 8 (by decide)]
  congr 1
  have key : ∀ k, k ≤ 24 → (x.toBitVec.sshiftRight k).toNat % 2 ^ 8 = x.toBitVec.toNat / 2 ^ k % 256 := by
    intro k hk
    apply Nat.eq_of_testBit_eq
    intro i
    rw [show (256 : Nat) = 2 ^ 8 from rfl, Nat.testBit_mod_two_pow, Nat.testBit_mod_two_pow, Nat.testBit_div_two_pow]
    by_cases hi : i < 8
    · have h1 : (x.toBitVec.sshiftRight k).getLsbD i = x.toBitVec.getLsbD (k + i) := by
        rw [BitVec.getLsbD_sshiftRight]
        have : ¬ 32 ≤ i := by omega
        have h3 : k + i < 32 := by omega
        simp [h3]
        omega
      simp only [hi, decide_true, Bool.true_and]
      rw [show (x.toBitVec.sshiftRight k).toNat.testBit i = (x.toBitVec.sshiftRight k).getLsbD i from rfl, h1, Nat.add_comm]
      rfl
    · simp [hi]
  unfold by_n
  rcases hs with rfl | rfl | rfl | rfl
  · exact key 24 (by decide)
  · exact key 16 (by decide)
  · exact key 8 (by decide)
  · exact key 0 (by decide)
theorem by_c (x : Int32) : ∀ s, s = 24 ∨ s = 16 ∨ s = 8 ∨ s = 0 → vp_nar .byte ((et_us x (nI s)).toInt8.toInt32) = c8 (by_n x s) := by
  intro s hs
  rw [pk_vb]
  unfold c8
  have key : ∀ (y : Int32) (n : Nat), y.toBitVec.toNat = n → y.toInt8.toInt32 = (nI (n % 256)).toInt8.toInt32 := by
    intro y n h
    have e : y.toInt8 = (nI (n % 256)).toInt8 := by
      apply Int8.toBitVec_inj.mp
      apply BitVec.eq_of_toNat_eq
      have h2 : (nI (n % 256)).toBitVec.toNat = n % 256 := pk_tn (by omega)
      rw [Int32.toBitVec_toInt8, Int32.toBitVec_toInt8, BitVec.signExtend_eq_setWidth_of_le _ (by decide), BitVec.signExtend_eq_setWidth_of_le _ (by decide), BitVec.toNat_setWidth, BitVec.toNat_setWidth, h, h2]
      omega
    rw [e]
  unfold by_n
  rcases hs with rfl | rfl | rfl | rfl
  · exact key _ _ (pk_ushr x (nI 24) 24 (by decide))
  · exact key _ _ (pk_ushr x (nI 16) 16 (by decide))
  · exact key _ _ (pk_ushr x (nI 8) 8 (by decide))
  · exact key _ _ (pk_ushr x (nI 0) 0 (by decide))
def wt_c (k j : Nat) : Bool := k == 1 || (k == 0 && j == 1)
def wt_m (k j : Nat) : Bool := k == 71 || (k == 61 && j == 17)
def rm_tape (S : et_T) (g : et_G) : Prop := g.1 61 17 = nI (S 61 17) ∧ ∀ i, i < 800 → g.1 71 i = nI (S 71 i)
theorem pb_1 {Q : Unit → et_G → Prop} {S : et_T} {g : et_G} (x : Int32) (n s : Nat) (hs : s = 24 ∨ s = 16 ∨ s = 8 ∨ s = 0) (ht : S 61 17 < 800) (h : rc_tape S g)
    (k : ∀ g', rc_tape (s1 S (by_n x s)) g' → fq wt_c g g' → ev_Q (fn_Et_putBytes_3 x n (nI s + (-8)) g') Q) : ev_Q (fn_Et_putBytes_3 x (n + 1) (nI s) g) Q := by
  rw [fn_Et_putBytes_3]
  obtain ⟨h1, h2⟩ := h
  have hs2 : s ≤ 24 := by omega
  simp (disch := omega) only [h1, ni_of, ni_lt, ni_le, nI_clamp, et_b]
  rw [if_neg (by omega), if_neg (by omega)]
  refine ev_k (ib_n ht (by decide)) (k _ ⟨?_, ?_⟩ (fq_s (fq_s (fq_r _ _) rfl) (by simp [wt_c])))
  · simp [si_g, s1_17, h1, ni_of, nI_add]
  · intro i hi
    rw [by_c x s hs, s1_71]
    simp only [si_g]
    by_cases e : i = S 61 17
    · simp [e]
    · simp [e, h2 i hi]
theorem pl_1 {Q : Unit → et_G → Prop} {S : et_T} {g : et_G} (x : Int32) (n s : Nat) (hs : s = 24 ∨ s = 16 ∨ s = 8 ∨ s = 0) (ht : S 61 17 < 800) (h : rm_tape S g)
    (k : ∀ g', rm_tape (s1 S (by_n x s)) g' → fq wt_m g g' → ev_Q (fn_Mo_lays_3 x n (nI s + (-8)) g') Q) : ev_Q (fn_Mo_lays_3 x (n + 1) (nI s) g) Q := by
  rw [fn_Mo_lays_3]
  obtain ⟨h1, h2⟩ := h
  have hs2 : s ≤ 24 := by omega
  simp (disch := omega) only [h1, ni_of, ni_lt, ni_le, nI_clamp, et_b]
  rw [if_neg (by omega)]
  refine ev_k (ib_n ht (by decide)) (k _ ⟨?_, ?_⟩ (fq_s (fq_s (fq_r _ _) rfl) (by simp [wt_m])))
  · simp [si_g, s1_17, h1, ni_of, nI_add]
  · intro i hi
    rw [by_m x s hs, s1_71]
    simp only [si_g]
    by_cases e : i = S 61 17
    · simp [e]
    · simp [e, h2 i hi]
theorem pb_4 {S : et_T} {g : et_G} (x : Int32) (ht : S 61 17 + 4 ≤ 800) (h : rc_tape S g) : ev_Q (fn_Et_putBytes x g) (fun _ g' => rc_tape (s4 S x) g' ∧ fq wt_c g g') := by
  unfold fn_Et_putBytes
  refine pb_1 x 999999 24 (by decide) (by omega) h (fun g1 r1 f1 => ?_)
  refine pb_1 x 999998 16 (by decide) (by rw [s1_17]; omega) r1 (fun g2 r2 f2 => ?_)
  refine pb_1 x 999997 8 (by decide) (by rw [s1_17, s1_17]; omega) r2 (fun g3 r3 f3 => ?_)
  refine pb_1 x 999996 0 (by decide) (by rw [s1_17, s1_17, s1_17]; omega) r3 (fun g4 r4 f4 => ?_)
  rw [fn_Et_putBytes_3, if_pos (by decide)]
  exact ev_r ⟨r4, fq_t (fq_t (fq_t f1 f2) f3) f4⟩
theorem pl_4 {S : et_T} {g : et_G} (x : Int32) (ht : S 61 17 + 4 ≤ 800) (h : rm_tape S g) : ev_Q (fn_Mo_lays x g) (fun _ g' => rm_tape (s4 S x) g' ∧ fq wt_m g g') := by
  unfold fn_Mo_lays
  refine pl_1 x 999999 24 (by decide) (by omega) h (fun g1 r1 f1 => ?_)
  refine pl_1 x 999998 16 (by decide) (by rw [s1_17]; omega) r1 (fun g2 r2 f2 => ?_)
  refine pl_1 x 999997 8 (by decide) (by rw [s1_17, s1_17]; omega) r2 (fun g3 r3 f3 => ?_)
  refine pl_1 x 999996 0 (by decide) (by rw [s1_17, s1_17, s1_17]; omega) r3 (fun g4 r4 f4 => ?_)
  rw [fn_Mo_lays_3, if_pos (by decide)]
  exact ev_r ⟨r4, fq_t (fq_t (fq_t f1 f2) f3) f4⟩
