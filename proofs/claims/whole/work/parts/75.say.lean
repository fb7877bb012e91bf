/-! say, unsay, feed -/
section SY
variable {S : et_T} {g : et_G}
theorem sy_w : ∀ k j, v_sy k j = true → 61 ≤ k := fun k j e => by simp [v_sy] at e; omega
theorem rf_w (q : Nat) : ∀ k j, v_rf q k j = true → 61 ≤ k := fun k j e => by simp [v_rf] at e; omega
theorem t0_M (x : Int32) : fq w_M g (et_si g 61 0 x) := fq_s (fq_r _ _) rfl
theorem t0_m (M : rc_M S g) (x : Int32) : rc_M S (et_si g 61 0 x) := rc_M_q (W := w_sc) (fq_s (fq_r _ _) rfl) w_sc_m M
theorem okM_t {v t : Int32} {g g' : et_G} (M : rc_M S g) : ev_Q (some (v, et_si (et_si g 61 0 0) 61 0 t)) (fun a g' => a = v ∧ g'.1 61 0 = t ∧ rc_M S g' ∧ fq w_M g g') :=
  ev_r ⟨rfl, si_e, t0_m (t0_m M _) _, fq_t (t0_M _) (t0_M _)⟩
theorem ok_say (I : Iv S g) (p h t w : Int32) {nt : Nat} (hnt : nt ≤ 1) : okB 0 S g (fn_Et_say p h t w (nI nt) g) (fn_Mo_say p h t w (nI nt)) := by
  have A := Iv_gA I
  have c := gA_c A
  have hn := gA_n A
  by_cases hv : iN p (S 61 4) ∧ iN h 24 ∧ iN t (S 61 5)
  · obtain ⟨h1, h2, h3⟩ := hv
    obtain ⟨p, hp, rfl⟩ := iN_e h1 (by omega)
    obtain ⟨h, hh, rfl⟩ := iN_e h2 (by omega)
    obtain ⟨t, ht, rfl⟩ := iN_e h3 (by omega)
    have eC : fn_Et_say (nI p) (nI h) (nI t) w (nI nt) g = if w < 0 then fn_Et_say_43 g else if (5 : Int32) ≤ w then fn_Et_say_43 g else et_bd (fn_Le_add (nI p) (nI h) (nI t) w (nI nt) g) (fun v8 g9 => if v8 = 0 then fn_Et_say_43 g9 else et_bd (fn_Gr_forget g9) (fun _ g11 => some (.inr (g11.1 34 0), g11))) := by
      unfold fn_Et_say
      rw [np_c c.2.1, io_t h1, bt_r, nh_c, io_t h2, bt_r, nt_c c.2.2.1, io_t h3, bt_r]
    have eM : ∀ g1, rc_M S g1 → fn_Mo_say (nI p) (nI h) (nI t) w (nI nt) g1 = if nI (S 61 50) = (20 : Int32) then fn_Mo_say_43 (et_si g1 61 0 0) else if (io (iN w 5) (1 : Int32) 0) = 0 then fn_Mo_say_43 (et_si g1 61 0 0) else if nI nt = 0 then fn_Mo_say_65 (0 : Int32) w (nI t) (nI h) (nI p) (et_si g1 61 0 0) else fn_Mo_say_65 (1 : Int32) w (nI t) (nI h) (nI p) (et_si g1 61 0 0) := by
      intro g1 M
      unfold fn_Mo_say
      simp only [et_b]
      have B := mB_c (Iv_mB I (t0_m M 0))
      rw [iw_y si_e B.2.2.2.2.2.2.1 (by omega) hp hh, bd_s, if_neg (by decide), it_y si_e B.2.2.1 (by omega) ht, bd_s, if_neg (by decide), B.1, show (4 : Int32) = nI 4 from rfl, wi_c w 4 (by decide), bd_s]
    by_cases hw : iN w 5 ∧ S 61 50 < 20
    · have hw5 := hw.1
      obtain ⟨w, hw1, rfl⟩ := iN_e hw.1 (by decide)
      refine ⟨sy_S S p h t w nt, .inr (nI (S 61 50 + 1)), ?_, fun g1 M => ?_, wf_sy1 I.2.2.2.1 hw.2 hp hh ht hw1 hnt, wf4_q (sy_ag _ _ _ _ _) rfl rfl rfl rfl rfl rfl I.2.2.2.2, fun k e => by cases e⟩
      · unfold okC
        rw [eC, if_neg hw5.1, if_neg (show ¬ (5 : Int32) ≤ nI w from hw5.2)]
        obtain ⟨g', e1, e2, e3, e4⟩ := sy_c I.1 I.2.2.2.1 (p := p) (h := h) (t := t) (w := w) hw.2 hnt
        rw [e1, bd_s, if_neg (by decide)]
        unfold fn_Gr_forget
        simp only [et_b]
        rw [bd_s, e3]
        exact ev_r ⟨rfl, e2, fg_G, w_C_of e4 (fun k j e => by have := w_sy_c e; omega)⟩
      · show ev_Q (fn_Mo_say (nI p) (nI h) (nI t) (nI w) (nI nt) g1) _
        rw [eM g1 M, if_neg (fun e => by rw [show (20 : Int32) = nI 20 from rfl, nI_eq (by omega) (by decide)] at e; omega), io_t hw5, if_neg (by decide)]
        obtain ⟨g', e1, e2, e3⟩ := sy_m (t0_m M 0) (p := p) (h := h) (t := t) (w := w) (nt := nt) hw.2
        have fin : ev_Q (fn_Mo_say_65 (nI nt) (nI w) (nI t) (nI h) (nI p) (et_si g1 61 0 0)) (fun a g' => a = va_o (.inr (nI (S 61 50 + 1))) ∧ g'.1 61 0 = th_o (.inr (nI (S 61 50 + 1))) ∧ rc_M (sy_S S p h t w nt) g' ∧ fq w_M g1 g') := by
          unfold fn_Mo_say_65
          rw [e1, bd_s]
          exact ev_r ⟨rfl, by rw [e3.1 61 0 rfl, si_e]; rfl, e2, fq_t (t0_M _) (w_M_of e3 sy_w)⟩
        match nt, hnt with
        | 0, _ => rw [if_pos nI_0]; exact fin
        | 1, _ => rw [if_neg (by decide)]; exact fin
    · refine ⟨su S 72 1 (S 72 1 + 1), .inr (-1), ?_, fun g1 M => ?_, wf_rf 1 I.2.2.2.1 _, wf4_rf 1 I.2.2.2.2 _, fun k e => by cases e⟩
      · unfold okC
        rw [eC]
        have bad : ev_Q (fn_Et_say_43 g) (fun a g' => a = .inr (-1) ∧ rc_C (su S 72 1 (S 72 1 + 1)) g' ∧ rc_G (su S 72 1 (S 72 1 + 1)) g' ∧ fq w_C g g') := by
          unfold fn_Et_say_43
          obtain ⟨a, b, d⟩ := rf_c I (q := 1) (Or.inl rfl)
          exact ev_r ⟨rfl, a, b, d⟩
        by_cases q1 : w < 0
        · rw [if_pos q1]; exact bad
        · rw [if_neg q1]
          by_cases q2 : (5 : Int32) ≤ w
          · rw [if_pos q2]; exact bad
          · rw [if_neg q2]
            have q3 : ¬ S 61 50 < 20 := fun z => hw ⟨⟨q1, q2⟩, z⟩
            have ef : fn_Le_add (nI p) (nI h) (nI t) w (nI nt) g = some (0, g) := by
              unfold fn_Le_add
              rw [hn.1, if_neg (show ¬ nI (S 61 50) < (20 : Int32) from nI_nlt (b := 20) (by omega) (by omega))]
            rw [ef, bd_s, if_pos rfl]
            exact bad
      · show ev_Q (fn_Mo_say (nI p) (nI h) (nI t) w (nI nt) g1) _
        rw [eM g1 M]
        have bad : ev_Q (fn_Mo_say_43 (et_si g1 61 0 0)) (fun a g' => a = va_o (.inr (-1)) ∧ g'.1 61 0 = th_o (.inr (-1)) ∧ rc_M (su S 72 1 (S 72 1 + 1)) g' ∧ fq w_M g1 g') := by
          unfold fn_Mo_say_43
          obtain ⟨g', e1, e2, e3⟩ := rf_m (t0_m M 0) (q := 1) (by decide)
          rw [show fn_Mo_refuses (1 : Int32) (et_si g1 61 0 0) = some (-1, g') from e1, bd_s]
          exact ev_r ⟨rfl, by rw [e3.1 61 0 rfl, si_e]; rfl, e2, fq_t (t0_M _) (w_M_of e3 (rf_w 1))⟩
        by_cases q1 : nI (S 61 50) = (20 : Int32)
        · rw [if_pos q1]; exact bad
        · rw [if_neg q1]
          have q2 : ¬ iN w 5 := fun z => hw ⟨z, by
            have : ¬ S 61 50 = 20 := fun e => q1 (by rw [e]; rfl)
            omega⟩
          rw [io_f q2, if_pos rfl]
          exact bad
  · refine ⟨S, .inl 0, ?_, fun g1 M => ?_, I.2.2.2.1, I.2.2.2.2, fun k e => by cases e; rfl⟩
    · refine okC_q I ?_
      unfold fn_Et_say
      rw [np_c c.2.1]
      by_cases h1 : iN p (S 61 4)
      · rw [io_t h1, bt_r, nh_c]
        by_cases h2 : iN h 24
        · rw [io_t h2, bt_r, nt_c c.2.2.1, io_f (fun z => hv ⟨h1, h2, z⟩), bt_l]
        · rw [io_f h2, bt_l]
      · rw [io_f h1, bt_l]
    · unfold fn_Mo_say
      simp only [et_b]
      have B := mB_c (Iv_mB I (t0_m M 0))
      by_cases h12 : iN p (S 61 4) ∧ iN h 24
      · obtain ⟨h1, h2⟩ := h12
        have h3 : ¬ iN t (S 61 5) := fun z => hv ⟨h1, h2, z⟩
        obtain ⟨p, hp, rfl⟩ := iN_e h1 (by omega)
        obtain ⟨h, hh, rfl⟩ := iN_e h2 (by omega)
        rw [iw_y si_e B.2.2.2.2.2.2.1 (by omega) hp hh, bd_s, if_neg (by decide), it_n si_e B.2.2.1 h3, bd_s, if_pos rfl]
        exact okM_t (g' := g) M
      · rw [iw_n si_e B.2.2.2.2.2.2.1 h12, bd_s, if_pos rfl]
        exact okM_t (g' := g) M
theorem ok_unsay (I : Iv S g) : okU S g (fn_Et_unsay g) fn_Mo_unsay := by
  have A := Iv_gA I
  have hn := gA_n A
  by_cases h : S 61 50 = 0
  · refine ⟨S, -1, okC_q I ?_, okM_q (fun g1 M => ?_), I.2.2.2.1, I.2.2.2.2⟩
    · unfold fn_Et_unsay; rw [hn.1, h, if_pos nI_0]
    · unfold fn_Mo_unsay
      simp only [et_b]
      rw [si_j (by decide), M.1 61 50 rfl, h, if_pos nI_0]
  · have a : ag v_sy S (su S 61 50 (S 61 50 - 1)) := su_ag (ag_0 _ _) rfl
    have e84 : su S 61 50 (S 61 50 - 1) 84 = S 84 := funext fun j => su_x (by decide)
    refine ⟨su S 61 50 (S 61 50 - 1), nI (S 61 50 - 1), ?_, fun g1 M => ?_, wf_sy a I.2.2.2.1 ⟨?_, fun i hi => ?_⟩, wf4_q a rfl rfl rfl rfl rfl rfl I.2.2.2.2⟩
    · unfold okC fn_Et_unsay
      rw [hn.1, if_neg (fun e => by rw [← nI_0, nI_eq (by omega) (by decide)] at e; exact h e)]
      unfold fn_Gr_forget
      simp only [et_b]
      rw [bd_s]
      have e1 : nI (S 61 50) - (1 : Int32) = nI (S 61 50 - 1) := pk_sub (b := 1) (by omega)
      rw [e1]
      have f : fq w_sy g (et_si (et_si g 34 0 (nI (S 61 50 - 1))) 48 15 0) := fq_s (fq_s (fq_r _ _) rfl) rfl
      refine ev_r ⟨by rw [si_x (by decide), si_e], rc_C_sy f a I.1 ⟨by rw [si_x (by decide), si_e, su_e], fun i hi => ?_⟩, fg_G, w_C_of f (fun k j e => by have := w_sy_c e; omega)⟩
      rw [su_e] at hi
      have := I.1.2.2.2.1.2 i (by omega)
      unfold rc_say at this ⊢
      rw [e84]
      simp (disch := omega) only [si_x]
      exact this
    · unfold fn_Mo_unsay
      simp only [et_b]
      rw [si_j (by decide), M.1 61 50 rfl, if_neg (fun e => by rw [← nI_0, nI_eq (by omega) (by decide)] at e; exact h e), show nI (S 61 50) - (1 : Int32) = nI (S 61 50 - 1) from pk_sub (b := 1) (by omega), si_e]
      have f : fq (fun k j => k == 61 && (j == 0 || j == 50)) g1 (et_si (et_si g1 61 0 0) 61 50 (nI (S 61 50 - 1))) := fq_s (fq_s (fq_r _ _) rfl) rfl
      have a2 : ag (fun k j => k == 61 && j == 50) S (su S 61 50 (S 61 50 - 1)) := su_ag (ag_0 _ _) rfl
      refine ev_r ⟨rfl, by rw [si_j (by decide), si_e], rc_M_n f a2 (fun k j e z => ?_) M (fun k j e z => ?_) (fun z => by simp at z) (fun z => by simp at z), w_M_of f (fun k j e => by simp at e; omega)⟩
      · simp at z ⊢
        intro q; exact (z q).2
      · simp at z
        rcases z.2 with q | q
        · rw [z.1, q] at e; exact absurd e (by decide)
        · rw [z.1, q, si_e, su_e]
    · rw [su_e]; omega
    · rw [su_e] at hi
      have := I.2.2.2.1.2.2.1.2 i (by omega)
      unfold wf_say at this ⊢
      rw [e84, a 61 4 rfl, a 61 5 rfl]
      exact this
def w_t8 (k j : Nat) : Bool := (k == 71 && Nat.ble (j + 1) 800) || (k == 61 && j == 17)
def v_tp (k j : Nat) : Bool := k == 71 || (k == 61 && j == 17)
theorem pm_1 {Q : Unit → et_G → Prop} {S : et_T} {g : et_G} (x : Int32) (n s : Nat) (hs : s = 24 ∨ s = 16 ∨ s = 8 ∨ s = 0) (ht : S 61 17 < 800) (h : rm_tape S g)
    (k : ∀ g', rm_tape (s1 S (by_n x s)) g' → fq w_t8 g g' → ev_Q (fn_Mo_lays_3 x n (nI s + (-8)) g') Q) : ev_Q (fn_Mo_lays_3 x (n + 1) (nI s) g) Q := by
  rw [fn_Mo_lays_3]
  obtain ⟨h1, h2⟩ := h
  have hs2 : s ≤ 24 := by omega
  simp (disch := omega) only [h1, ni_of, ni_lt, ni_le, nI_clamp, et_b]
  rw [if_neg (by omega)]
  have h8 : Nat.ble (S 61 17 + 1) 800 = true := Nat.ble_eq.mpr (by omega)
  refine ev_k (ib_n ht (by decide)) (k _ ⟨?_, ?_⟩ (fq_s (fq_s (fq_r _ _) (by simp [w_t8, h8])) (by simp [w_t8])))
  · simp [si_g, s1_17, h1, ni_of, nI_add]
  · intro i hi
    rw [by_m x s hs, s1_71]
    simp only [si_g]
    by_cases e : i = S 61 17
    · simp [e]
    · simp [e, h2 i hi]
theorem pm_4 {S : et_T} {g : et_G} (x : Int32) (ht : S 61 17 + 4 ≤ 800) (h : rm_tape S g) : ev_Q (fn_Mo_lays x g) (fun _ g' => rm_tape (s4 S x) g' ∧ fq w_t8 g g') := by
  unfold fn_Mo_lays
  refine pm_1 x 999999 24 (by decide) (by omega) h (fun g1 r1 f1 => ?_)
  refine pm_1 x 999998 16 (by decide) (by rw [s1_17]; omega) r1 (fun g2 r2 f2 => ?_)
  refine pm_1 x 999997 8 (by decide) (by rw [s1_17, s1_17]; omega) r2 (fun g3 r3 f3 => ?_)
  refine pm_1 x 999996 0 (by decide) (by rw [s1_17, s1_17, s1_17]; omega) r3 (fun g4 r4 f4 => ?_)
  rw [fn_Mo_lays_3, if_pos (by decide)]
  exact ev_r ⟨r4, fq_t (fq_t (fq_t f1 f2) f3) f4⟩
theorem s4_ag (S : et_T) (x : Int32) : ag v_tp S (s4 S x) := fun k j e => s4_o S x k j (fun z => by rw [z] at e; cases e) (by
  by_cases z : k = 61
  · refine Or.inr (fun q => ?_)
    rw [z, q] at e; cases e
  · exact Or.inl z)
theorem s1_ok {S : et_T} {b : Nat} (hb : b < 256) (h : ∀ i, i < 800 → S 71 i < 256) : ∀ i, i < 800 → s1 S b 71 i < 256 := fun i hi => by
  rw [s1_71]
  by_cases e : i = S 61 17
  · rw [if_pos e]; exact hb
  · rw [if_neg e]; exact h i hi
theorem s4_ok {S : et_T} {x : Int32} (h : ∀ i, i < 800 → S 71 i < 256) : ∀ i, i < 800 → s4 S x 71 i < 256 := s1_ok (by_lt _ _) (s1_ok (by_lt _ _) (s1_ok (by_lt _ _) (s1_ok (by_lt _ _) h)))
theorem s4_far {S : et_T} {x : Int32} (ht : S 61 17 + 4 ≤ 800) {j : Nat} (hj : 800 ≤ j) : s4 S x 71 j = S 71 j := by
  unfold s4
  rw [s1_71, if_neg (by rw [s1_17, s1_17, s1_17]; omega), s1_71, if_neg (by rw [s1_17, s1_17]; omega), s1_71, if_neg (by rw [s1_17]; omega), s1_71, if_neg (by omega)]
theorem tp_C {S' : et_T} {g' : et_G} (I : Iv S g) (f : fq wt_c g g') (a : ag v_tp S S') (T : rc_tape S' g') : rc_C S' g' ∧ rc_G S' g' ∧ fq w_C g g' := by
  obtain ⟨h0, h1, h2, h3, h4, h5, h6, h7, h8⟩ := I.1
  refine ⟨⟨T, (rc_tong_q f a ⟨rfl, rfl, fun _ => rfl, fun _ => rfl⟩ ⟨rfl, rfl, fun _ => rfl, fun _ => rfl, fun _ => rfl, fun _ => rfl⟩ h1), (rc_town_q f a ⟨rfl, rfl, rfl, rfl, rfl, rfl, fun _ => rfl, fun _ => rfl, fun _ => rfl, fun _ => rfl, fun _ => rfl, fun _ => rfl, fun _ => rfl, fun _ => rfl⟩ ⟨rfl, rfl, rfl, rfl, fun _ => rfl, fun _ => rfl, fun _ => rfl, fun _ => rfl, fun _ => rfl⟩ h2), (rc_led_q f a ⟨rfl, fun _ => rfl, fun _ => rfl, fun _ => rfl, fun _ => rfl, fun _ => rfl⟩ ⟨rfl, fun _ => rfl⟩ h3), (rc_kept_q f a ⟨rfl, rfl, fun _ => rfl, fun _ => rfl, fun _ => rfl, fun _ => rfl, fun _ => rfl, rfl, rfl⟩ ⟨rfl, rfl, rfl, rfl, fun _ => rfl⟩ h4), (rc_mind_q f a ⟨rfl, rfl⟩ ⟨rfl, rfl⟩ h5), (rc_ways_q f a ⟨rfl, fun _ => rfl⟩ ⟨rfl, fun _ => rfl⟩ h6), (rc_mend_q f a ⟨rfl, fun _ => rfl⟩ ⟨rfl, fun _ => rfl⟩ h7), (rc_misc_q f a ⟨rfl, rfl, rfl, rfl⟩ ⟨rfl, fun _ => rfl⟩ h8)⟩, rc_G_e (sE_of a rfl rfl rfl rfl rfl (fun _ => rfl) (fun _ => rfl) (fun _ => rfl) (fun _ => rfl) (fun _ => rfl)) (rc_G_q f (fun k j e => ?_) I.2.1), w_C_of f (fun k j e => by simp [wt_c] at e; omega)⟩
  unfold w_gr at e
  simp only [Bool.or_eq_true, Bool.and_eq_true, beq_iff_eq, Nat.ble_eq] at e
  simp [wt_c]; omega
theorem tp_W {S' : et_T} (I : Iv S g) (a : ag v_tp S S') (T : wf_tape S') : wf_S S' ∧ wf_4 S' := by
  obtain ⟨h0, h1, h2, h3, h4, h5, h6⟩ := I.2.2.2.1
  exact ⟨⟨T, (wf_town_q a ⟨rfl, rfl, rfl, rfl, rfl, rfl, fun _ => rfl, fun _ => rfl, fun _ => rfl, fun _ => rfl, fun _ => rfl⟩ h1), (wf_led_q a ⟨rfl, rfl, rfl, fun _ => rfl⟩ h2), (wf_mind_q a ⟨rfl, rfl, rfl⟩ h3), (wf_kept_q a ⟨rfl, rfl, rfl, rfl, rfl, rfl, fun _ => rfl⟩ h4), (wf_ways_q a ⟨rfl, fun _ => rfl⟩ h5), (wf_mend_q a rfl h6)⟩, wf4_q a rfl rfl rfl rfl rfl rfl I.2.2.2.2⟩
theorem ok_feed (I : Iv S g) (x1 x2 x3 x4 x5 : Int32) : okU S g (fn_Et_feed x1 x2 x3 x4 x5 g) (fn_Mo_feed x1 x2 x3 x4 x5) := by
  have T := I.1.1
  have wT := I.2.2.2.1.1
  by_cases h : S 61 17 + 20 ≤ 800
  · have l1 : s4 S x1 61 17 = S 61 17 + 4 := s4_17 _ _
    have l2 : s4 (s4 S x1) x2 61 17 = S 61 17 + 8 := by rw [s4_17, l1]
    have l3 : s4 (s4 (s4 S x1) x2) x3 61 17 = S 61 17 + 12 := by rw [s4_17, l2]
    have l4 : s4 (s4 (s4 (s4 S x1) x2) x3) x4 61 17 = S 61 17 + 16 := by rw [s4_17, l3]
    have l5 : s4 (s4 (s4 (s4 (s4 S x1) x2) x3) x4) x5 61 17 = S 61 17 + 20 := by rw [s4_17, l4]
    have a : ag v_tp S (s4 (s4 (s4 (s4 (s4 S x1) x2) x3) x4) x5) := ag_t (ag_t (ag_t (ag_t (s4_ag _ _) (s4_ag _ _)) (s4_ag _ _)) (s4_ag _ _)) (s4_ag _ _)
    obtain ⟨w1, w2⟩ := tp_W I a ⟨by rw [l5]; exact h, s4_ok (s4_ok (s4_ok (s4_ok (s4_ok wT.2))))⟩
    refine ⟨_, nI (S 61 17 + 20), ?_, fun g1 M => ?_, w1, w2⟩
    · unfold okC fn_Et_feed
      rw [T.1, show (20 : Int32) = nI 20 from rfl, nI_add, if_pos (show nI (S 61 17 + 20) ≤ (800 : Int32) from nI_le (b := 800) h (by decide))]
      refine ev_d (pb_4 x1 (by omega) T) (fun _ g1 ⟨r1, f1⟩ => ?_)
      refine ev_d (pb_4 x2 (by omega) r1) (fun _ g2 ⟨r2, f2⟩ => ?_)
      refine ev_d (pb_4 x3 (by omega) r2) (fun _ g3 ⟨r3, f3⟩ => ?_)
      refine ev_d (pb_4 x4 (by omega) r3) (fun _ g4 ⟨r4, f4⟩ => ?_)
      refine ev_d (pb_4 x5 (by omega) r4) (fun _ g5 ⟨r5, f5⟩ => ?_)
      exact ev_r ⟨by rw [r5.1, l5], tp_C I (fq_t (fq_t (fq_t (fq_t f1 f2) f3) f4) f5) a r5⟩
    · unfold fn_Mo_feed
      simp only [et_b]
      have M0 := t0_m M 0
      rw [M0.1 61 17 rfl, show (20 : Int32) = nI 20 from rfl, nI_add, if_pos (show nI (S 61 17 + 20) ≤ (800 : Int32) from nI_le (b := 800) h (by decide))]
      have t0 : rm_tape S (et_si g1 61 0 0) := ⟨M0.1 61 17 rfl, fun i _ => M0.1 71 i rfl⟩
      refine ev_d (pm_4 x1 (by omega) t0) (fun _ g2 ⟨r1, f1⟩ => ?_)
      refine ev_d (pm_4 x2 (by omega) r1) (fun _ g3 ⟨r2, f2⟩ => ?_)
      refine ev_d (pm_4 x3 (by omega) r2) (fun _ g4 ⟨r3, f3⟩ => ?_)
      refine ev_d (pm_4 x4 (by omega) r3) (fun _ g5 ⟨r4, f4⟩ => ?_)
      refine ev_d (pm_4 x5 (by omega) r4) (fun _ g6 ⟨r5, f5⟩ => ?_)
      have f := fq_t (fq_t (fq_t (fq_t f1 f2) f3) f4) f5
      have a8 : ag w_t8 S (s4 (s4 (s4 (s4 (s4 S x1) x2) x3) x4) x5) := fun k j e => by
        by_cases q : k = 71
        · subst q
          have hj : 800 ≤ j := by
            rcases Nat.lt_or_ge j 800 with z | z
            · simp [w_t8, Nat.ble_eq.mpr (show j + 1 ≤ 800 from z)] at e
            · exact z
          rw [s4_far (by omega) hj, s4_far (by omega) hj, s4_far (by omega) hj, s4_far (by omega) hj, s4_far (by omega) hj]
        · refine a k j ?_
          simp [w_t8] at e
          simp [v_tp, q]
          exact e.2
      refine ev_r ⟨by rw [r5.1, l5], by rw [f.1 61 0 rfl, si_e], rc_M_n f a8 (fun k j _ e => e) M0 (fun k j _ e => ?_) (fun z => by simp [w_t8] at z) (fun z => by simp [w_t8] at z), fq_t (t0_M _) (w_M_of f (fun k j e => by simp [w_t8] at e; omega))⟩
      simp only [w_t8, Bool.or_eq_true, Bool.and_eq_true, beq_iff_eq, Nat.ble_eq] at e
      rcases e with e | e
      · rw [e.1]; exact r5.2 j (by omega)
      · rw [e.1, e.2]; exact r5.1
  · refine ⟨S, -1, okC_q I ?_, okM_q (fun g1 M => ?_), I.2.2.2.1, I.2.2.2.2⟩
    · unfold fn_Et_feed
      rw [T.1, show (20 : Int32) = nI 20 from rfl, nI_add, if_neg (show ¬ nI (S 61 17 + 20) ≤ (800 : Int32) from nI_ge (a := 800) (by omega) (by have := wT.1; omega))]
    · unfold fn_Mo_feed
      simp only [et_b]
      rw [si_j (by decide), M.1 61 17 rfl, show (20 : Int32) = nI 20 from rfl, nI_add, if_neg (show ¬ nI (S 61 17 + 20) ≤ (800 : Int32) from nI_ge (a := 800) (by omega) (by have := wT.1; omega))]
end SY
