/-! known, whole; images -/
section KW
variable {S : et_T} {g : et_G}
noncomputable def kw_o (S : et_T) (x : Int32) (m : Int32) (t : Int32) (nt : Nat) : et_oc :=
  io (iN t (S 61 5)) (io (∃ k, 1 ≤ k ∧ k ≤ 4 ∧ m = nI k ∧ ∀ i, i < k → fgN x i < S 61 4) (.inr (bI ((S 61 67).testBit t.toNatClampNeg = true ∧ kz S x (m.toNatClampNeg - 1) (a_ww S t.toNatClampNeg nt) (nM (a_rw S))))) (.inl 1)) (.inl 0)
theorem kn_26 (M : cM S g) (x : Int32) {k t nt : Nat} (hk : k ≤ 4) (h1 : 1 ≤ k) (ht : t < S 61 5) (hnt : nt ≤ 1) : fn_Et_known_26 x (nI k) (nI t) (nI nt) 1000000 0 g = io (∀ i, i < k → fgN x i < S 61 4) (some (.inr (bI ((S 61 67).testBit t = true ∧ kz S x (k - 1) (a_ww S t nt) (nM (a_rw S)))), g)) (some (.inl 1, g)) := by
  have c := gA_c M.1
  have w := m4_w (by omega) M.2.2
  refine lp0 (fun m i (_ : Unit) => fn_Et_known_26 x (nI k) (nI t) (nI nt) m i g) (fun o => o = io (∀ i, i < k → fgN x i < S 61 4) (some (.inr (bI ((S 61 67).testBit t = true ∧ kz S x (k - 1) (a_ww S t nt) (nM (a_rw S)))), g)) (some (.inl 1, g))) k (by omega) (fun j _ => ∀ i, i < j → fgN x i < S 61 4) () (fun i hi => by omega) ?_ ?_
  · intro m _ h
    show fn_Et_known_26 x (nI k) (nI t) (nI nt) (m + 1) (nI k) g = _
    rw [fn_Et_known_26, if_pos (nI_le (Nat.le_refl _) (by omega)), io_t h]
    unfold fn_Et_known_62 fn_Mi_isKnown
    rw [M.2.1.1, hb_n (by omega) (by omega), bd_s]
    by_cases q : (S 61 67).testBit t = true
    · rw [bI_t q, if_neg (by decide), ww_c M (by omega) hnt, bd_s]
      simp only [et_b]
      rw [show nI k - (1 : Int32) = nI (k - 1) from pk_sub (b := 1) h1, show (1000000 : Nat) = 999999 + 1 from rfl, ik_27 M x (k - 1) 999999 _ (by omega) (by omega) (fun i hi => h i (by omega)), bd_s, kz_c (Y := a_ww S t nt) (fun u _ hu => ⟨fun z => z.1, fun z => ⟨z, hu⟩⟩)]
      by_cases r : kz S x (k - 1) (a_ww S t nt) (nM (a_rw S))
      · rw [bI_t r, bI_t ⟨q, r⟩]; rfl
      · rw [bI_f r, bI_f (fun z => r z.2)]; rfl
    · rw [bI_f q, if_pos (by decide), bd_s, bI_f (fun z => q z.1)]; rfl
  · intro m j _ hj h ih
    show fn_Et_known_26 x (nI k) (nI t) (nI nt) (m + 1) (nI j) g = _
    rw [fn_Et_known_26, if_neg (nI_ge hj (by omega)), fg_c, bd_s, hp_c c.2.1, bd_s]
    have f8 := fg_lt x j
    by_cases q : fgN x j < S 61 4
    · rw [io_t (iN_n q (by omega)), if_neg (by decide)]
      simp only [et_b, ni_of, nI_add]
      refine ih () (fun i hi => ?_)
      by_cases e : i = j
      · subst e; exact q
      · exact h i (by omega)
    · rw [io_f (fun z => q (by
        obtain ⟨u, u1, u2⟩ := iN_e z (by omega)
        rw [nI_eq (by omega) (by omega)] at u2
        omega)), if_pos rfl, io_f (fun z => q (z j hj))]
theorem kn_32 (M : mM S g) (h0 : g.1 61 0 = 0) (x : Int32) {k t nt : Nat} (hk : k ≤ 4) (h1 : 1 ≤ k) (ht : t < S 61 5) (hnt : nt ≤ 1) : fn_Mo_known_32 x (nI k) (nI t) (nI nt) 1000000 0 g = io (∀ i, i < k → fgN x i < S 61 4) (some (bI ((S 61 67).testBit t = true ∧ kz S x (k - 1) (a_ww S t nt) (nM (a_rw S))), g)) (some (0, et_si g 61 0 2)) := by
  have c := mB_c M.1
  have w := m4_w (by omega) M.2
  refine lp0 (fun m i (_ : Unit) => fn_Mo_known_32 x (nI k) (nI t) (nI nt) m i g) (fun o => o = io (∀ i, i < k → fgN x i < S 61 4) (some (bI ((S 61 67).testBit t = true ∧ kz S x (k - 1) (a_ww S t nt) (nM (a_rw S))), g)) (some (0, et_si g 61 0 2))) k (by omega) (fun j _ => ∀ i, i < j → fgN x i < S 61 4) () (fun i hi => by omega) ?_ ?_
  · intro m _ h
    show fn_Mo_known_32 x (nI k) (nI t) (nI nt) (m + 1) (nI k) g = _
    rw [fn_Mo_known_32, if_pos (nI_le (Nat.le_refl _) (by omega)), io_t h]
    unfold fn_Mo_known_75
    rw [pl_m M (by omega)]
    by_cases q : (S 61 67).testBit t = true
    · rw [io_t q, bd_s, if_neg (fun e => nI_pos (show pop t (S 61 67) < 2 ^ 31 by have := m4_p (by omega) M.2 (show t < 8 by omega); omega) (by rw [e]; decide)), wo_m' M (by omega) q hnt, bd_s]
      simp only [et_b]
      rw [show nI k - (1 : Int32) = nI (k - 1) from pk_sub (b := 1) h1, show (1000000 : Nat) = 999999 + 1 from rfl, ik_100 M x (k - 1) 999999 _ (by omega) (by omega) (fun i hi => h i (by omega))]
      exact congrArg some (congrArg (·, g) (bI_c ⟨fun z => ⟨q, z⟩, fun z => z.2⟩))
    · rw [io_f q, bd_s, if_pos rfl, bI_f (fun z => q z.1)]; rfl
  · intro m j _ hj h ih
    show fn_Mo_known_32 x (nI k) (nI t) (nI nt) (m + 1) (nI j) g = _
    have f8 := fg_lt x j
    rw [fn_Mo_known_32, if_neg (nI_ge hj (by omega)), c.2.2.2.2.2.2.1]
    simp only [show (31 : Int32) = nI 31 from rfl, show (3 : Int32) = nI 3 from rfl, show (7 : Int32) = nI 7 from rfl, pk_mul, fg_m x (show j < 4 by omega)]
    unfold fn_Mo_known_60
    by_cases q : fgN x j < S 61 4
    · rw [if_neg (nI_ge q (by omega)), ri_y h0 _ _ (by decide), bd_s, if_neg (by decide)]
      simp only [et_b, ni_of, nI_add]
      refine ih () (fun i hi => ?_)
      by_cases e : i = j
      · subst e; exact q
      · exact h i (by omega)
    · rw [if_pos (nI_le (by omega) (by omega)), ri_n h0 _ (by decide), bd_s, if_pos rfl, io_f (fun z => q (z j hj))]
theorem wi_14 (p : Int32) (g : et_G) : fn_Mo_within p 1 4 g = some (io (∃ k, 1 ≤ k ∧ k ≤ 4 ∧ p = nI k) 1 0, g) := by
  unfold fn_Mo_within
  by_cases h1 : p < 1
  · rw [if_pos h1, io_f]
    rintro ⟨k, k1, k2, rfl⟩
    rw [show (1 : Int32) = nI 1 from rfl, ni_lt (by omega) (by decide)] at h1
    omega
  · rw [if_neg h1]
    by_cases h2 : (4 : Int32) < p
    · rw [if_pos h2, io_f]
      rintro ⟨k, k1, k2, rfl⟩
      rw [show (4 : Int32) = nI 4 from rfl, ni_lt (by decide) (by omega)] at h2
      omega
    · rw [if_neg h2, io_t]
      have n0 : ¬ p < 0 := fun z => h1 (Int32.lt_of_lt_of_le z (by decide))
      rcases pk_ix p (n := 5) (by decide) with q | q | ⟨j, j1, j2⟩
      · exact absurd q n0
      · exact absurd (Int32.lt_of_lt_of_le (show (4 : Int32) < nI 5 by decide) q) h2
      · subst j2
        rw [show (1 : Int32) = nI 1 from rfl, ni_lt (by omega) (by decide)] at h1
        exact ⟨j, by omega, by omega, rfl⟩
theorem ok_known (I : Iv S g) (x m t : Int32) {nt : Nat} (hnt : nt ≤ 1) : okB2 S g (fn_Et_known x m t (nI nt) g) (fn_Mo_known x m t (nI nt)) := by
  have Mc := Iv_cM I
  have c := gA_c Mc.1
  refine ⟨S, kw_o S x m t nt, okC_q I ?_, fun g1 M => ?_, I.2.2.2.1, I.2.2.2.2, fun k e => ?_⟩
  · unfold fn_Et_known kw_o
    rw [nt_c c.2.2.1]
    by_cases h3 : iN t (S 61 5)
    · rw [io_t h3, bt_r, io_t h3]
      obtain ⟨t, ht, rfl⟩ := iN_e h3 (by omega)
      rw [nI_clamp (by omega)]
      by_cases hm : ∃ k, 1 ≤ k ∧ k ≤ 4 ∧ m = nI k
      · obtain ⟨k, k1, k2, rfl⟩ := hm
        rw [if_neg (show ¬ nI k < (1 : Int32) from nI_nlt (b := 1) k1 (by omega)), if_pos (show nI k ≤ (4 : Int32) from nI_le (b := 4) k2 (by decide)), kn_26 Mc x k2 k1 ht hnt, nI_clamp (by omega)]
        by_cases q : ∀ i, i < k → fgN x i < S 61 4
        · rw [io_t q, io_t ⟨k, k1, k2, rfl, q⟩]
        · rw [io_f q, io_f]
          rintro ⟨k', -, k3, k4, k5⟩
          rw [nI_eq (by omega) (by omega)] at k4
          exact q (k4 ▸ k5)
      · rw [io_f (fun ⟨k, k1, k2, k3, _⟩ => hm ⟨k, k1, k2, k3⟩)]
        by_cases h1 : m < 1
        · rw [if_pos h1]
        · rw [if_neg h1, if_neg (fun h2 => hm ?_)]
          have n0 : ¬ m < 0 := fun z => h1 (Int32.lt_of_lt_of_le z (by decide))
          rcases pk_ix m (n := 5) (by decide) with q | q | ⟨j, j1, j2⟩
          · exact absurd q n0
          · exact absurd (Int32.le_trans q h2) (by decide)
          · subst j2
            rw [show (1 : Int32) = nI 1 from rfl, ni_lt (by omega) (by decide)] at h1
            exact ⟨j, by omega, by omega, rfl⟩
    · rw [io_f h3, bt_l, io_f h3]
  · unfold fn_Mo_known kw_o
    simp only [et_b]
    have M0 := Iv_mM I (t0_m M 0)
    have B := mB_c M0.1
    by_cases h3 : iN t (S 61 5)
    · rw [io_t h3]
      obtain ⟨t, ht, rfl⟩ := iN_e h3 (by omega)
      rw [nI_clamp (by omega), it_y si_e B.2.2.1 (by omega) ht, bd_s, if_neg (by decide), wi_14, bd_s]
      by_cases hm : ∃ k, 1 ≤ k ∧ k ≤ 4 ∧ m = nI k
      · rw [io_t hm, ri_y si_e _ _ (by decide), bd_s, if_neg (by decide)]
        obtain ⟨k, k1, k2, rfl⟩ := hm
        rw [kn_32 M0 si_e x k2 k1 ht hnt, nI_clamp (by omega)]
        by_cases q : ∀ i, i < k → fgN x i < S 61 4
        · rw [io_t q, io_t ⟨k, k1, k2, rfl, q⟩]
          exact ev_r ⟨rfl, si_e, M0.1.1, t0_M _⟩
        · rw [io_f q, io_f]
          · exact okM_t (g' := g) M
          · rintro ⟨k', -, k3, k4, k5⟩
            rw [nI_eq (by omega) (by omega)] at k4
            exact q (k4 ▸ k5)
      · rw [io_f hm, ri_n si_e _ (by decide), bd_s, if_pos rfl, io_f (fun ⟨k, k1, k2, k3, _⟩ => hm ⟨k, k1, k2, k3⟩)]
        exact okM_t (g' := g) M
    · rw [it_n si_e B.2.2.1 h3, bd_s, if_pos rfl, io_f h3]
      exact okM_t (g' := g) M
  · unfold kw_o at e
    by_cases h3 : iN t (S 61 5)
    · rw [io_t h3] at e
      exact Or.inr (io_in e)
    · rw [io_f h3] at e; cases e; exact Or.inl rfl
/-! image, restore -/
theorem cc_20 : et_cc (0 : Int32) (0 : Int32) (20 : Int32) 20 20 = true := by decide
theorem cp_i {g : et_G} {k0 k1 b : Nat} (hb : b < 20) : (et_cp g k0 k1 0 0 20).1 k1 b = g.1 k0 b := by
  rw [cp_g, if_pos ⟨rfl, Nat.zero_le _, by omega⟩, Nat.sub_zero, Nat.zero_add]
theorem cp_x {g : et_G} {k0 k1 sp dp n a b : Nat} (h : a ≠ k1) : (et_cp g k0 k1 sp dp n).1 a b = g.1 a b := by
  rw [cp_g, if_neg (fun e => h e.1)]
theorem cb_1 {x : Int32} (h : x = nI 0 ∨ x = nI 1) : vp_nar .boolean x = x := by
  rcases h with rfl | rfl
  · rfl
  · rfl
def w_kp (k j : Nat) : Bool := (k == 0 && j == 11) || (k == 40 && j == 0) || (Nat.ble 41 k && Nat.ble k 45) || (k == 47 && (j == 1 || j == 2))
theorem w_kp_c {k j : Nat} (h : w_kp k j = true) : (k = 0 ∧ j = 11) ∨ (k = 40 ∧ j = 0) ∨ (41 ≤ k ∧ k ≤ 45) ∨ (k = 47 ∧ (j = 1 ∨ j = 2)) := by
  unfold w_kp at h
  simp only [Bool.or_eq_true, Bool.and_eq_true, beq_iff_eq, Nat.ble_eq] at h
  omega
def v_kp (k j : Nat) : Bool := (k == 95 && Nat.ble (j + 1) 100) || (k == 61 && (Nat.ble 69 j && Nat.ble j 72))
def im_S (S : et_T) : et_T := fun k j => if k = 95 ∧ j < 100 then S 84 j else if k = 61 ∧ j = 69 then 1 else if k = 61 ∧ j = 70 then S 61 50 else if k = 61 ∧ j = 71 then S 61 67 else if k = 61 ∧ j = 72 then S 61 68 else S k j
theorem im_ag : ag v_kp S (im_S S) := fun k j e => by
  unfold im_S
  simp only [v_kp, Bool.or_eq_false_iff, Bool.and_eq_false_iff, beq_eq_false_iff_ne] at e
  have n1 : ∀ a b, Nat.ble a b = false → ¬ a ≤ b := fun a b z e => by rw [Nat.ble_eq.mpr e] at z; cases z
  obtain ⟨e1, e2⟩ := e
  have q1 : ¬ (k = 95 ∧ j < 100) := fun z => e1.elim (fun q => q z.1) (fun q => n1 _ _ q (by omega))
  have q2 : ¬ (k = 61 ∧ 69 ≤ j ∧ j ≤ 72) := fun z => e2.elim (fun q => q z.1) (fun q => q.elim (fun q => n1 _ _ q z.2.1) (fun q => n1 _ _ q z.2.2))
  rw [if_neg q1, if_neg (by omega), if_neg (by omega), if_neg (by omega), if_neg (by omega)]
theorem im_95 {j : Nat} (h : j < 100) : im_S S 95 j = S 84 j := if_pos ⟨rfl, h⟩
theorem im_v : im_S S 61 69 = 1 ∧ im_S S 61 70 = S 61 50 ∧ im_S S 61 71 = S 61 67 ∧ im_S S 61 72 = S 61 68 := by
  unfold im_S
  refine ⟨?_, ?_, ?_, ?_⟩ <;> simp
theorem cpf_82 (hb : ∀ i, i < 20 → g.1 39 i = nI 0 ∨ g.1 39 i = nI 1 ∨ True) : ev_Q (fn_Le_copyFrom_40_82 1000000 0 g) (fun _ g' => fq (fun k _ => k == 45) g g' ∧ ∀ i, i < 20 → g'.1 45 i = vp_nar .boolean (g.1 39 i)) := by
  refine lp0 (fun m i (s : et_G) => fn_Le_copyFrom_40_82 m i s) (fun o => ev_Q o (fun _ g' => fq (fun k _ => k == 45) g g' ∧ ∀ i, i < 20 → g'.1 45 i = vp_nar .boolean (g.1 39 i))) 20 (by omega) (fun k s => fq (fun k _ => k == 45) g s ∧ ∀ i, i < k → s.1 45 i = vp_nar .boolean (g.1 39 i)) g ⟨fq_r _ _, fun i hi => by omega⟩ ?_ ?_
  · intro m s h
    show ev_Q (fn_Le_copyFrom_40_82 (m + 1) (nI 20) s) _
    rw [fn_Le_copyFrom_40_82, if_pos (by decide)]
    exact ev_r h
  · intro m k s hk ⟨h1, h2⟩ ih
    show ev_Q (fn_Le_copyFrom_40_82 (m + 1) (nI k) s) _
    rw [fn_Le_copyFrom_40_82]
    simp (disch := omega) only [ni_of, nI_clamp, ib_e, ck_t, bd_s, et_b, nI_add, if_p, ni_eq, ni_lt, ni_le, b_e0, b_e1, io_n]
    rw [io_f (by omega)]
    refine ih _ ⟨fq_s h1 rfl, fun i hi => ?_⟩
    by_cases e : i = k
    · rw [e, si_e, h1.1 39 k rfl]
    · rw [si_j e]; exact h2 i (by omega)
theorem cpb_82 : ev_Q (fn_Le_copyFrom_40b_82 1000000 0 g) (fun _ g' => fq (fun k _ => k == 39) g g' ∧ ∀ i, i < 20 → g'.1 39 i = vp_nar .boolean (g.1 45 i)) := by
  refine lp0 (fun m i (s : et_G) => fn_Le_copyFrom_40b_82 m i s) (fun o => ev_Q o (fun _ g' => fq (fun k _ => k == 39) g g' ∧ ∀ i, i < 20 → g'.1 39 i = vp_nar .boolean (g.1 45 i))) 20 (by omega) (fun k s => fq (fun k _ => k == 39) g s ∧ ∀ i, i < k → s.1 39 i = vp_nar .boolean (g.1 45 i)) g ⟨fq_r _ _, fun i hi => by omega⟩ ?_ ?_
  · intro m s h
    show ev_Q (fn_Le_copyFrom_40b_82 (m + 1) (nI 20) s) _
    rw [fn_Le_copyFrom_40b_82, if_pos (by decide)]
    exact ev_r h
  · intro m k s hk ⟨h1, h2⟩ ih
    show ev_Q (fn_Le_copyFrom_40b_82 (m + 1) (nI k) s) _
    rw [fn_Le_copyFrom_40b_82]
    simp (disch := omega) only [ni_of, nI_clamp, ib_e, ck_t, bd_s, et_b, nI_add, if_p, ni_eq, ni_lt, ni_le, b_e0, b_e1, io_n]
    rw [io_f (by omega)]
    refine ih _ ⟨fq_s h1 rfl, fun i hi => ?_⟩
    by_cases e : i = k
    · rw [e, si_e, h1.1 45 k rfl]
    · rw [si_j e]; exact h2 i (by omega)
theorem mcp_1 : ev_Q (fn_Mo_copies_84_95 g) (fun _ g' => fq (fun k j => k == 95 && Nat.ble (j + 1) 100) g g' ∧ ∀ i, i < 100 → g'.1 95 i = g.1 84 i) := by
  unfold fn_Mo_copies_84_95
  refine lp0 (fun m i (s : et_G) => fn_Mo_copies_84_95_2 m i s) (fun o => ev_Q o (fun _ g' => fq (fun k j => k == 95 && Nat.ble (j + 1) 100) g g' ∧ ∀ i, i < 100 → g'.1 95 i = g.1 84 i)) 100 (by omega) (fun k s => fq (fun k j => k == 95 && Nat.ble (j + 1) 100) g s ∧ ∀ i, i < k → s.1 95 i = g.1 84 i) g ⟨fq_r _ _, fun i hi => by omega⟩ ?_ ?_
  · intro m s h
    show ev_Q (fn_Mo_copies_84_95_2 (m + 1) (nI 100) s) _
    rw [fn_Mo_copies_84_95_2, if_pos (by decide)]
    exact ev_r h
  · intro m k s hk ⟨h1, h2⟩ ih
    show ev_Q (fn_Mo_copies_84_95_2 (m + 1) (nI k) s) _
    rw [fn_Mo_copies_84_95_2]
    simp (disch := omega) only [ni_of, nI_clamp, ib_e, ck_t, bd_s, et_b, nI_add, if_p, ni_eq, ni_lt, ni_le, b_e0, b_e1, io_n]
    rw [io_f (by omega)]
    refine ih _ ⟨fq_s h1 (by simp [Nat.ble_eq.mpr (show k + 1 ≤ 100 from hk)]), fun i hi => ?_⟩
    by_cases e : i = k
    · rw [e, si_e, h1.1 84 k rfl]
    · rw [si_j e]; exact h2 i (by omega)
theorem mcp_2 : ev_Q (fn_Mo_copies_95_84 g) (fun _ g' => fq (fun k j => k == 84 && Nat.ble (j + 1) 100) g g' ∧ ∀ i, i < 100 → g'.1 84 i = g.1 95 i) := by
  unfold fn_Mo_copies_95_84
  refine lp0 (fun m i (s : et_G) => fn_Mo_copies_95_84_2 m i s) (fun o => ev_Q o (fun _ g' => fq (fun k j => k == 84 && Nat.ble (j + 1) 100) g g' ∧ ∀ i, i < 100 → g'.1 84 i = g.1 95 i)) 100 (by omega) (fun k s => fq (fun k j => k == 84 && Nat.ble (j + 1) 100) g s ∧ ∀ i, i < k → s.1 84 i = g.1 95 i) g ⟨fq_r _ _, fun i hi => by omega⟩ ?_ ?_
  · intro m s h
    show ev_Q (fn_Mo_copies_95_84_2 (m + 1) (nI 100) s) _
    rw [fn_Mo_copies_95_84_2, if_pos (by decide)]
    exact ev_r h
  · intro m k s hk ⟨h1, h2⟩ ih
    show ev_Q (fn_Mo_copies_95_84_2 (m + 1) (nI k) s) _
    rw [fn_Mo_copies_95_84_2]
    simp (disch := omega) only [ni_of, nI_clamp, ib_e, ck_t, bd_s, et_b, nI_add, if_p, ni_eq, ni_lt, ni_le, b_e0, b_e1, io_n]
    rw [io_f (by omega)]
    refine ih _ ⟨fq_s h1 (by simp [Nat.ble_eq.mpr (show k + 1 ≤ 100 from hk)]), fun i hi => ?_⟩
    by_cases e : i = k
    · rw [e, si_e, h1.1 95 k rfl]
    · rw [si_j e]; exact h2 i (by omega)
end KW
