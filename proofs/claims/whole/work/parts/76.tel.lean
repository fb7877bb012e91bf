/-! worlds, tell, known -/
section TL
variable {S : et_T} {g : et_G}
theorem Iv_cM (I : Iv S g) : cM S g := ⟨Iv_gA I, I.1.2.2.2.2.2.1, I.2.2.2.2.1⟩
theorem Iv_mM {g' : et_G} (I : Iv S g) (M : rc_M S g') : mM S g' := ⟨Iv_mB I M, I.2.2.2.2.1⟩
def v_mi (k j : Nat) : Bool := k == 61 && (j == 67 || j == 68)
theorem mi_C {S' : et_T} {g' : et_G} (I : Iv S g) (f : fq (fun k j => k == 46 && (j == 1 || j == 2)) g g') (a : ag v_mi S S') (T : rc_mind S' g') : rc_C S' g' ∧ rc_G S' g' ∧ fq w_C g g' := by
  obtain ⟨h0, h1, h2, h3, h4, h5, h6, h7, h8⟩ := I.1
  refine ⟨⟨(rc_tape_q f a ⟨rfl, fun _ => rfl⟩ ⟨rfl, fun _ => rfl⟩ h0), (rc_tong_q f a ⟨rfl, rfl, fun _ => rfl, fun _ => rfl⟩ ⟨rfl, rfl, fun _ => rfl, fun _ => rfl, fun _ => rfl, fun _ => rfl⟩ h1), (rc_town_q f a ⟨rfl, rfl, rfl, rfl, rfl, rfl, fun _ => rfl, fun _ => rfl, fun _ => rfl, fun _ => rfl, fun _ => rfl, fun _ => rfl, fun _ => rfl, fun _ => rfl⟩ ⟨rfl, rfl, rfl, rfl, fun _ => rfl, fun _ => rfl, fun _ => rfl, fun _ => rfl, fun _ => rfl⟩ h2), (rc_led_q f a ⟨rfl, fun _ => rfl, fun _ => rfl, fun _ => rfl, fun _ => rfl, fun _ => rfl⟩ ⟨rfl, fun _ => rfl⟩ h3), (rc_kept_q f a ⟨rfl, rfl, fun _ => rfl, fun _ => rfl, fun _ => rfl, fun _ => rfl, fun _ => rfl, rfl, rfl⟩ ⟨rfl, rfl, rfl, rfl, fun _ => rfl⟩ h4), T, (rc_ways_q f a ⟨rfl, fun _ => rfl⟩ ⟨rfl, fun _ => rfl⟩ h6), (rc_mend_q f a ⟨rfl, fun _ => rfl⟩ ⟨rfl, fun _ => rfl⟩ h7), (rc_misc_q f a ⟨rfl, rfl, rfl, rfl⟩ ⟨rfl, fun _ => rfl⟩ h8)⟩, rc_G_e (sE_of a rfl rfl rfl rfl rfl (fun _ => rfl) (fun _ => rfl) (fun _ => rfl) (fun _ => rfl) (fun _ => rfl)) (rc_G_q f (fun k j e => ?_) I.2.1), w_C_of f (fun k j e => by simp at e; omega)⟩
  unfold w_gr at e
  simp only [Bool.or_eq_true, Bool.and_eq_true, beq_iff_eq, Nat.ble_eq] at e
  simp; omega
theorem mi_W {S' : et_T} (I : Iv S g) (a : ag v_mi S S') (T : m4 S') : wf_S S' ∧ wf_4 S' := by
  obtain ⟨h0, h1, h2, h3, h4, h5, h6⟩ := I.2.2.2.1
  refine ⟨⟨(wf_tape_q a ⟨rfl, fun _ => rfl⟩ h0), (wf_town_q a ⟨rfl, rfl, rfl, rfl, rfl, rfl, fun _ => rfl, fun _ => rfl, fun _ => rfl, fun _ => rfl, fun _ => rfl⟩ h1), (wf_led_q a ⟨rfl, rfl, rfl, fun _ => rfl⟩ h2), ⟨T.1, T.2.1, T.2.2.2⟩, (wf_kept_q a ⟨rfl, rfl, rfl, rfl, rfl, rfl, fun _ => rfl⟩ h4), (wf_ways_q a ⟨rfl, fun _ => rfl⟩ h5), (wf_mend_q a rfl h6)⟩, T, ?_⟩
  have := I.2.2.2.2.2
  rw [a 61 69 rfl, a 61 71 rfl, a 61 72 rfl, a 61 5 rfl]
  exact this
theorem ok_tell (I : Iv S g) (p t : Int32) {nt : Nat} (hnt : nt ≤ 1) : okB 0 S g (fn_Et_tell p t (nI nt) g) (fn_Mo_tell p t (nI nt)) := by
  have Mc := Iv_cM I
  have A := Mc.1
  have c := gA_c A
  by_cases hv : iN p (S 61 4) ∧ iN t (S 61 5)
  · obtain ⟨h1, h3⟩ := hv
    obtain ⟨p, hp, rfl⟩ := iN_e h1 (by omega)
    obtain ⟨t, ht, rfl⟩ := iN_e h3 (by omega)
    have w := m4_w (by omega) Mc.2.2
    have l := Mc.2.2.2.1
    have rl := rN_lt (by omega) Mc.2.2
    have ek : a_kn S p (fun w => a_ww S t nt w ∧ (S 61 68).testBit w = true) = a_kn S p (a_ww S t nt) := a_kn_c fun u _ h => ⟨fun z => z.1, fun z => ⟨z, h⟩⟩
    have eH : fn_Mi_hear (nI p) (nI t) (nI nt) g = io ((S 61 67).testBit t = true) (io (a_kn S p (a_ww S t nt) (nM (a_rw S))) (some (1, et_si g 46 2 (nI (nM (a_kn S p (a_ww S t nt)))))) (some (0, g))) (some (0, g)) := by
      unfold fn_Mi_hear
      rw [Mc.2.1.1, hb_n (by omega) (by omega), bd_s]
      simp only [ww_c Mc (show t < 8 by omega) hnt, bd_s, kn_c Mc hp, rw_c Mc, ek]
      rw [nM_e (a_rw S)]
      simp only [hb_m _ (show nM (a_rw S) < 32 by omega), bd_s, et_b, ← nM_e (a_kn S p (a_ww S t nt))]
      simp only [ni_of, if_p, b_e0, io_n]
    have eM : ∀ g1, rc_M S g1 → ∀ o, okM S o (fun _ => none) 0 0 ∨ True → fn_Mo_tell (nI p) (nI t) (nI nt) g1 = io ((S 61 67).testBit t = true) (io (a_kn S p (a_ww S t nt) (nM (a_rw S))) (some (nI (pop 31 (nM (a_kn S p (a_ww S t nt)))), et_si (et_si g1 61 0 0) 61 68 (nI (nM (a_kn S p (a_ww S t nt)))))) (et_bd (fn_Mo_refuses 2 (et_si g1 61 0 0)) (fun v g => some (v, g)))) (et_bd (fn_Mo_refuses 2 (et_si g1 61 0 0)) (fun v g => some (v, g))) := by
      intro g1 M _ _
      have M0 := Iv_mM I (t0_m M 0)
      have B := mB_c M0.1
      unfold fn_Mo_tell
      simp only [et_b]
      rw [show fn_Mo_isWho (nI p) 0 (et_si g1 61 0 0) = _ from iw_y (h := 0) si_e B.2.2.2.2.2.2.1 (by omega) hp (by decide), bd_s, if_neg (by decide), it_y si_e B.2.2.1 (by omega) ht, bd_s, if_neg (by decide), pl_m M0 (show t < 8 by omega)]
      by_cases hb : (S 61 67).testBit t = true
      · rw [io_t hb, io_t hb, bd_s, if_neg (fun e => nI_pos (show pop t (S 61 67) < 2 ^ 31 by have := m4_p (by omega) Mc.2.2 (show t < 8 by omega); omega) (by rw [e]; decide)), wo_m' M0 (by omega) hb hnt, bd_s, kn_m M0 hp, bd_s, rw_m M0, bd_s, nM_e (a_rw S)]
        have e68 : (et_si g1 61 0 0).1 61 68 &&& mI (a_kn S p (a_ww S t nt)) = nI (nM (a_kn S p (a_ww S t nt))) := by
          rw [(mM_r M0).2.1, mI_n (n := S 61 68) (by omega), mI_and, ← nM_e]
          exact mI_c fun i _ => ⟨fun z => z.2, fun z => ⟨z.2.1, z⟩⟩
        have lt : nM (a_kn S p (a_ww S t nt)) < 2 ^ 16 := nM_lt fun i _ z => z.1
        rw [e68, si_e, bi_e (by omega), bd_s, show (31 : Int32) = nI 31 from rfl, show (1 : Int32) = nI 1 from rfl, mb_m _ (show nM (a_rw S) < 32 by omega)]
        simp only [ni_of, if_p, b_e0, io_n]
      · rw [io_f hb, io_f hb, bd_s, if_pos rfl]
    by_cases hb : (S 61 67).testBit t = true ∧ a_kn S p (a_ww S t nt) (nM (a_rw S))
    · have lt : nM (a_kn S p (a_ww S t nt)) < 2 ^ 16 := nM_lt fun i _ z => z.1
      have a : ag v_mi S (su S 61 68 (nM (a_kn S p (a_ww S t nt)))) := su_ag (ag_0 _ _) rfl
      have e67 : su S 61 68 (nM (a_kn S p (a_ww S t nt))) 61 67 = S 61 67 := su_j (by decide)
      have e5 : su S 61 68 (nM (a_kn S p (a_ww S t nt))) 61 5 = S 61 5 := su_j (by decide)
      obtain ⟨w1, w2⟩ := mi_W I a ⟨by rw [e67, e5]; exact Mc.2.2.1, by rw [su_e]; exact lt, by rw [e67]; exact Mc.2.2.2.2.1, by
        rw [e67, su_e]
        have n1 : S 61 67 ≠ 0 := fun e => by rw [e] at hb; simp at hb
        have n2 : nM (a_kn S p (a_ww S t nt)) ≠ 0 := fun e => by
          have := (nM_b (a_kn S p (a_ww S t nt)) (i := nM (a_rw S)) (by omega)).mpr hb.2
          rw [e] at this; simp at this
        exact ⟨fun e => absurd e n1, fun e => absurd e n2⟩⟩
      refine ⟨_, .inr (nI (pop 31 (nM (a_kn S p (a_ww S t nt))))), ?_, fun g1 M => ?_, w1, w2, fun k e => by cases e⟩
      · unfold okC fn_Et_tell
        rw [np_c c.2.1, io_t h1, bt_r, nt_c c.2.2.1, io_t h3, bt_r, eH, io_t hb.1, io_t hb.2, bd_s, if_neg (by decide), si_e, bc_e lt, bd_s]
        refine ev_r ⟨rfl, mi_C I (fq_s (fq_r _ _) rfl) a ⟨?_, ?_⟩⟩
        · rw [si_j (by decide), e67]; exact Mc.2.1.1
        · rw [si_e, su_e]
      · show ev_Q (fn_Mo_tell (nI p) (nI t) (nI nt) g1) _
        rw [eM g1 M S (Or.inr trivial), io_t hb.1, io_t hb.2]
        have f : fq (fun k j => k == 61 && j == 68) (et_si g1 61 0 0) (et_si (et_si g1 61 0 0) 61 68 (nI (nM (a_kn S p (a_ww S t nt))))) := fq_s (fq_r _ _) rfl
        refine ev_r ⟨rfl, by rw [si_j (by decide), si_e]; rfl, rc_M_n f (V := fun k j => k == 61 && j == 68) (su_ag (ag_0 _ _) rfl) (fun k j _ e => e) (t0_m M 0) (fun k j _ e => ?_) (fun z => by simp at z) (fun z => by simp at z), fq_t (t0_M _) (w_M_of f (fun k j e => by simp at e; omega))⟩
        simp at e
        rw [e.1, e.2, si_e, su_e]
    · refine ⟨su S 72 2 (S 72 2 + 1), .inr (-1), ?_, fun g1 M => ?_, wf_rf 2 I.2.2.2.1 _, wf4_rf 2 I.2.2.2.2 _, fun k e => by cases e⟩
      · unfold okC fn_Et_tell
        have e0 : fn_Mi_hear (nI p) (nI t) (nI nt) g = some (0, g) := by
          rw [eH]
          by_cases q : (S 61 67).testBit t = true
          · rw [io_t q, io_f (fun z => hb ⟨q, z⟩)]
          · rw [io_f q]
        rw [np_c c.2.1, io_t h1, bt_r, nt_c c.2.2.1, io_t h3, bt_r, e0, bd_s, if_pos rfl]
        obtain ⟨a, b, d⟩ := rf_c I (q := 2) (Or.inr rfl)
        exact ev_r ⟨rfl, a, b, d⟩
      · show ev_Q (fn_Mo_tell (nI p) (nI t) (nI nt) g1) _
        have e0 : fn_Mo_tell (nI p) (nI t) (nI nt) g1 = et_bd (fn_Mo_refuses 2 (et_si g1 61 0 0)) (fun v g => some (v, g)) := by
          rw [eM g1 M S (Or.inr trivial)]
          by_cases q : (S 61 67).testBit t = true
          · rw [io_t q, io_f (fun z => hb ⟨q, z⟩)]
          · rw [io_f q]
        obtain ⟨g', e1, e2, e3⟩ := rf_m (t0_m M 0) (q := 2) (by decide)
        rw [e0, show fn_Mo_refuses (2 : Int32) (et_si g1 61 0 0) = some (-1, g') from e1, bd_s]
        exact ev_r ⟨rfl, by rw [e3.1 61 0 rfl, si_e]; rfl, e2, fq_t (t0_M _) (w_M_of e3 (rf_w 2))⟩
  · refine ⟨S, .inl 0, ?_, fun g1 M => ?_, I.2.2.2.1, I.2.2.2.2, fun k e => by cases e; rfl⟩
    · refine okC_q I ?_
      unfold fn_Et_tell
      rw [np_c c.2.1]
      by_cases h1 : iN p (S 61 4)
      · rw [io_t h1, bt_r, nt_c c.2.2.1, io_f (fun z => hv ⟨h1, z⟩), bt_l]
      · rw [io_f h1, bt_l]
    · unfold fn_Mo_tell
      simp only [et_b]
      have B := mB_c (Iv_mB I (t0_m M 0))
      by_cases h1 : iN p (S 61 4)
      · have h3 : ¬ iN t (S 61 5) := fun z => hv ⟨h1, z⟩
        obtain ⟨p, hp, rfl⟩ := iN_e h1 (by omega)
        rw [show fn_Mo_isWho (nI p) 0 (et_si g1 61 0 0) = _ from iw_y (h := 0) si_e B.2.2.2.2.2.2.1 (by omega) hp (by decide), bd_s, if_neg (by decide), it_n si_e B.2.2.1 h3, bd_s, if_pos rfl]
        exact okM_t (g' := g) M
      · rw [iw_n si_e B.2.2.2.2.2.2.1 (fun z => h1 z.1), bd_s, if_pos rfl]
        exact okM_t (g' := g) M
/-! worlds -/
theorem wd_b {T : Nat} (hT : T ≤ 8) (p : Int32) : (p &&& (((nI 1 <<< (nI T &&& nI 31)) - nI 1) ^^^ (-nI 1)) = nI 0) ↔ ∃ j, j < 2 ^ T ∧ p = nI j := by
  rw [mI_all (by omega), mI_not]
  constructor
  · intro h
    refine ⟨p.toBitVec.toNat, Nat.lt_pow_two_of_testBit _ (fun i hi => ?_), nI_x p⟩
    by_cases e : i < 32
    · have := congrArg (fun x => bt x i) h
      simp only [bt_and, bt_n0] at this
      have q : bt (mI fun i => ¬ i < T) i = true := (mI_b _ e).mpr (by omega)
      rw [q, Bool.and_true] at this
      exact this
    · exact Nat.testBit_lt_two_pow (Nat.lt_of_lt_of_le p.toBitVec.isLt (Nat.pow_le_pow_right (by decide) (by omega)))
  · rintro ⟨j, hj, rfl⟩
    have h2 : (2 : Nat) ^ T ≤ 2 ^ 8 := Nat.pow_le_pow_right (by decide) hT
    rw [mI_n (n := j) (by omega), mI_and]
    refine mI_z.mpr fun i _ z => z.2 ?_
    rcases Nat.lt_or_ge i T with q | q
    · exact q
    · have := Nat.testBit_lt_two_pow (Nat.lt_of_lt_of_le hj (Nat.pow_le_pow_right (by decide) q))
      rw [this] at z; cases z.1
theorem pow_d : ∀ b, b < 5 → (nI 1 <<< ((nI 1 <<< (nI b &&& nI 31)) &&& nI 31)) - nI 1 = nI (2 ^ 2 ^ b - 1) ∧ 2 ^ 2 ^ b - 1 < 65536 ∧ 2 ^ 2 ^ b - 1 ≠ 0 := by decide +kernel
theorem ok_worlds (I : Iv S g) (p : Int32) : okB 1 S g (fn_Et_worlds p g) (fn_Mo_worlds p) := by
  have Mc := Iv_cM I
  have A := Mc.1
  have c := gA_c A
  have h2 : (2 : Nat) ^ S 61 5 ≤ 2 ^ 8 := Nat.pow_le_pow_right (by decide) (by omega)
  by_cases hv : ∃ j, j < 2 ^ S 61 5 ∧ p = nI j ∧ j ≠ 0 ∧ pop 31 j ≤ 4
  · obtain ⟨j, hj, rfl, j0, j4⟩ := hv
    obtain ⟨b1, b2, b3⟩ := pow_d (pop 31 j) (by omega)
    have a : ag v_mi S (su (su S 61 67 j) 61 68 (2 ^ 2 ^ pop 31 j - 1)) := su_ag (su_ag (ag_0 _ _) rfl) rfl
    have e67 : su (su S 61 67 j) 61 68 (2 ^ 2 ^ pop 31 j - 1) 61 67 = j := by rw [su_j (by decide), su_e]
    have e68 : su (su S 61 67 j) 61 68 (2 ^ 2 ^ pop 31 j - 1) 61 68 = 2 ^ 2 ^ pop 31 j - 1 := su_e
    have e5 : su (su S 61 67 j) 61 68 (2 ^ 2 ^ pop 31 j - 1) 61 5 = S 61 5 := by rw [su_j (by decide), su_j (by decide)]
    obtain ⟨w1, w2⟩ := mi_W I a ⟨by rw [e67, e5]; exact hj, by rw [e68]; exact b2, by rw [e67]; exact j4, by rw [e67, e68]; exact ⟨fun e => absurd e j0, fun e => absurd e b3⟩⟩
    refine ⟨_, .inr (nI (pop 31 (2 ^ 2 ^ pop 31 j - 1))), ?_, fun g1 M => ?_, w1, w2, fun k e => by cases e⟩
    · unfold okC fn_Et_worlds fn_Mi_open
      rw [c.2.2.1]
      simp only [et_b, ni_of]
      rw [if_neg (fun e => j0 ((nI_eq (by omega) (by decide)).mp e)), if_pos ((wd_b (by omega) _).mpr ⟨j, hj, rfl⟩), bc_e (by omega), bd_s, if_pos (nI_le j4 (by decide)), bc_e (by omega), bd_s, b1, bd_s, si_e, bc_e b2, bd_s]
      refine ev_r ⟨rfl, mi_C I (fq_s (fq_s (fq_r _ _) rfl) rfl) a ⟨?_, ?_⟩⟩
      · rw [si_j (by decide), si_e, e67]
      · rw [si_e, e68]
    · unfold fn_Mo_worlds fn_Mo_worlds_33
      simp only [et_b, ni_of]
      rw [si_j (by decide), M.1 61 5 rfl, sl_n (by omega), if_neg (fun e => by rw [ni_le (by omega) (by decide)] at e; omega), if_neg (nI_ge hj (by omega)), bi_e (by omega), bd_s, if_neg (nI_nlt j4 (by decide)), show fn_Mo_right (nI 1) (nI 1) (et_si g1 61 0 (nI 0)) = _ from ri_y si_e _ _ (by decide), bd_s, if_neg (by decide), bi_e (by omega), bd_s, b1, si_e, bi_e (by omega), bd_s]
      have f : fq v_mi (et_si g1 61 0 (nI 0)) (et_si (et_si (et_si g1 61 0 (nI 0)) 61 67 (nI j)) 61 68 (nI (2 ^ 2 ^ pop 31 j - 1))) := fq_s (fq_s (fq_r _ _) rfl) rfl
      refine ev_r ⟨rfl, by rw [si_j (by decide), si_j (by decide), si_e]; rfl, rc_M_n f a (fun k j _ e => e) (t0_m M _) (fun k i _ e => ?_) (fun z => by simp [v_mi] at z) (fun z => by simp [v_mi] at z), fq_t (t0_M _) (w_M_of f (fun k j e => by simp [v_mi] at e; omega))⟩
      simp [v_mi] at e
      rcases e.2 with q | q
      · rw [e.1, q, si_j (by decide), si_e, e67]
      · rw [e.1, q, si_e, e68]
  · refine ⟨S, .inl 1, okC_q I ?_, okM_q (fun g1 M => ?_), I.2.2.2.1, I.2.2.2.2, fun k e => by cases e; rfl⟩
    · unfold fn_Et_worlds
      rw [c.2.2.1]
      simp only [et_b, ni_of]
      by_cases q0 : p = nI 0
      · rw [if_pos q0]
      · rw [if_neg q0]
        by_cases q1 : ∃ j, j < 2 ^ S 61 5 ∧ p = nI j
        · rw [if_pos ((wd_b (by omega) _).mpr q1)]
          obtain ⟨j, hj, rfl⟩ := q1
          have : ¬ pop 31 j ≤ 4 := fun z => hv ⟨j, hj, rfl, fun e => q0 (by rw [e]), z⟩
          have p8 : pop 31 j ≤ 31 := by
            have key : ∀ k n, pop k n ≤ k := fun k n => by
              induction k with
              | zero => exact Nat.le_refl _
              | succ k ih => show pop k n + n / 2 ^ k % 2 ≤ k + 1; omega
            exact key 31 j
          rw [bc_e (by omega), bd_s, if_neg (nI_ge (by omega) (by omega))]
        · rw [if_neg (fun e => q1 ((wd_b (by omega) _).mp e))]
    · unfold fn_Mo_worlds
      simp only [et_b, ni_of]
      have bad : fn_Mo_worlds_32 p (et_si g1 61 0 (nI 0)) = some (0, et_si g1 61 0 1) := by
        have z0 : (et_si g1 61 0 (nI 0)).1 61 0 = 0 := by rw [si_e]; rfl
        unfold fn_Mo_worlds_32 fn_Mo_worlds_33
        rw [ri_n z0 _ (by decide), bd_s, if_pos rfl, si_si]
      rw [si_j (by decide), M.1 61 5 rfl, sl_n (by omega)]
      by_cases q0 : p ≤ nI 0
      · rw [if_pos q0, bad]; rfl
      · rw [if_neg q0]
        by_cases q1 : nI (2 ^ S 61 5) ≤ p
        · rw [if_pos q1, bad]; rfl
        · rw [if_neg q1]
          have nn : ¬ p < 0 := fun z => q0 (Int32.le_of_lt z)
          obtain ⟨j, hj, rfl⟩ := iN_e ⟨nn, q1⟩ (by omega)
          have : ¬ pop 31 j ≤ 4 := fun z => hv ⟨j, hj, rfl, fun e => q0 (by rw [e]; exact Int32.le_refl _), z⟩
          have p8 : pop 31 j ≤ 31 := by
            have key : ∀ k n, pop k n ≤ k := fun k n => by
              induction k with
              | zero => exact Nat.le_refl _
              | succ k ih => show pop k n + n / 2 ^ k % 2 ≤ k + 1; omega
            exact key 31 j
          rw [bi_e (by omega), bd_s, if_pos (nI_lt (by omega) (by omega)), bad]; rfl
end TL
