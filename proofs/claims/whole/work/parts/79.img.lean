/-! image, restore, whole -/
def okI (S : et_T) (g : et_G) (FC : Option (Unit × et_G)) (FM : et_G → Option (Unit × et_G)) : Prop := ∃ S', okC S' g FC () ∧ (∀ g1, rc_M S g1 → ev_Q (FM g1) (fun _ g' => rc_M S' g' ∧ fq w_M g1 g')) ∧ wf_S S' ∧ wf_4 S'
theorem cl_0 : (0 : Int32).toNatClampNeg = 0 := by decide
theorem cl_20 : (20 : Int32).toNatClampNeg = 20 := by decide
section IM
variable {S : et_T} {g : et_G}
theorem imM {g1 : et_G} (M : rc_M S g1) : ev_Q (fn_Mo_image g1) (fun _ g' => rc_M (im_S S) g' ∧ fq w_M g1 g') := by
  obtain ⟨i69, i70, i71, i72⟩ := im_v (S := S)
  have a := im_ag (S := S)
  unfold fn_Mo_image
  generalize hF : fn_Mo_copies_84_95 = F
  simp only [et_b]
  subst hF
  refine ev_d mcp_1 (fun _ g2 ⟨q1, q2⟩ => ?_)
  have M0 := t0_m M 0
  have r50 := M0.1 61 50 rfl
  have r67 := M0.1 61 67 rfl
  have r68 := M0.1 61 68 rfl
  generalize hb : et_si g1 61 0 0 = b at M0 r50 r67 r68 q1 q2
  have hbM : fq w_M g1 b := by rw [← hb]; exact t0_M _
  have p : fq v_kp b (et_si (et_si (et_si (et_si b 61 69 1) 61 70 ((et_si b 61 69 1).1 61 50)) 61 71 ((et_si (et_si b 61 69 1) 61 70 ((et_si b 61 69 1).1 61 50)).1 61 67)) 61 72 ((et_si (et_si (et_si b 61 69 1) 61 70 ((et_si b 61 69 1).1 61 50)) 61 71 ((et_si (et_si b 61 69 1) 61 70 ((et_si b 61 69 1).1 61 50)).1 61 67)).1 61 68)) := fq_s (fq_s (fq_s (fq_s (fq_r _ _) rfl) rfl) rfl) rfl
  have f : fq v_kp b g2 := fq_t p (fq_w q1 (fun k j e => by
    cases q : (k == 95 && Nat.ble (j + 1) 100) with
    | false => rfl
    | true => unfold v_kp at e; rw [q] at e; cases e))
  refine ev_r ⟨rc_M_n f a (fun k j _ e => e) M0 (fun k j _ e => ?_) (fun z => by cases z) (fun z => by cases z), fq_t hbM (w_M_of f (fun k j e => ?_))⟩
  · simp only [v_kp, Bool.or_eq_true, Bool.and_eq_true, beq_iff_eq, Nat.ble_eq] at e
    rcases e with e | e
    · rw [e.1, q2 j (by omega), im_95 (by omega), si_x (by decide), si_x (by decide), si_x (by decide), si_x (by decide)]; exact M0.1 84 j rfl
    · rw [e.1]
      have : j = 69 ∨ j = 70 ∨ j = 71 ∨ j = 72 := by omega
      rcases this with rfl | rfl | rfl | rfl
      · rw [q1.1 61 69 rfl, si_j (by decide), si_j (by decide), si_j (by decide), si_e, i69]; rfl
      · rw [q1.1 61 70 rfl, si_j (by decide), si_j (by decide), si_e, si_j (by decide), i70]; exact r50
      · rw [q1.1 61 71 rfl, si_j (by decide), si_e, si_j (by decide), si_j (by decide), i71]; exact r67
      · rw [q1.1 61 72 rfl, si_e, si_j (by decide), si_j (by decide), si_j (by decide), i72]; exact r68
  · simp only [v_kp, Bool.or_eq_true, Bool.and_eq_true, beq_iff_eq, Nat.ble_eq] at e
    omega
theorem eb_q {α β : Type} {Q : α → et_G → Prop} {x : β} {f : β → Option (α × et_G)} (h : ev_Q (f x) Q) : ev_Q (et_b x f) Q := h
theorem cp_j {g : et_G} {k0 k1 b x y z : Nat} (h : x = 0 ∧ y = 0 ∧ z = 20) (hb : b < 20) : (et_cp g k0 k1 x y z).1 k1 b = g.1 k0 b := by
  obtain ⟨rfl, rfl, rfl⟩ := h
  exact cp_i hb
theorem cl_3 : (0 : Int32).toNatClampNeg = 0 ∧ (0 : Int32).toNatClampNeg = 0 ∧ (20 : Int32).toNatClampNeg = 20 := by decide
def w_k4 (k j : Nat) : Bool := (k == 40 && j == 0) || (Nat.ble 41 k && Nat.ble k 45)
theorem cpl_c (g : et_G) : ev_Q (fn_Le_copyFrom_40 g) (fun _ g' => fq w_k4 g g' ∧ g'.1 40 0 = g.1 34 0 ∧ ∀ i, i < 20 → g'.1 41 i = g.1 35 i ∧ g'.1 42 i = g.1 36 i ∧ g'.1 43 i = g.1 37 i ∧ g'.1 44 i = g.1 38 i ∧ g'.1 45 i = vp_nar .boolean (g.1 39 i)) := by
  unfold fn_Le_copyFrom_40
  refine eb_q (ev_k cc_20 (eb_q (ev_k cc_20 (eb_q (ev_k cc_20 (eb_q (ev_k cc_20 (eb_q (ev_w (cpf_82 (fun _ _ => Or.inr (Or.inr trivial))) (fun _ g2 ⟨q1, q2⟩ => ⟨fq_t (fq_c (fq_c (fq_c (fq_c (fq_s (fq_r _ _) rfl) (fun _ _ _ => rfl)) (fun _ _ _ => rfl)) (fun _ _ _ => rfl)) (fun _ _ _ => rfl)) (fq_w q1 (fun k j e => ?_)), ?_, fun i hi => ⟨?_, ?_, ?_, ?_, ?_⟩⟩))))))))))
  · cases q : k == 45 with
    | false => rfl
    | true => rw [beq_iff_eq] at q; subst q; cases e
  · rw [q1.1 40 0 rfl, cp_x (by decide), cp_x (by decide), cp_x (by decide), cp_x (by decide), si_e]
  · rw [q1.1 41 i rfl, cp_x (by decide), cp_x (by decide), cp_x (by decide), cp_j cl_3 hi, si_x (by decide)]
  · rw [q1.1 42 i rfl, cp_x (by decide), cp_x (by decide), cp_j cl_3 hi, cp_x (by decide), si_x (by decide)]
  · rw [q1.1 43 i rfl, cp_x (by decide), cp_j cl_3 hi, cp_x (by decide), cp_x (by decide), si_x (by decide)]
  · rw [q1.1 44 i rfl, cp_j cl_3 hi, cp_x (by decide), cp_x (by decide), cp_x (by decide), si_x (by decide)]
  · rw [q2 i hi, cp_x (by decide), cp_x (by decide), cp_x (by decide), cp_x (by decide), si_x (by decide)]
def w_k5 (k j : Nat) : Bool := (k == 34 && j == 0) || (Nat.ble 35 k && Nat.ble k 39)
theorem cpm_c (g : et_G) : ev_Q (fn_Le_copyFrom_40b g) (fun _ g' => fq w_k5 g g' ∧ g'.1 34 0 = g.1 40 0 ∧ ∀ i, i < 20 → g'.1 35 i = g.1 41 i ∧ g'.1 36 i = g.1 42 i ∧ g'.1 37 i = g.1 43 i ∧ g'.1 38 i = g.1 44 i ∧ g'.1 39 i = vp_nar .boolean (g.1 45 i)) := by
  unfold fn_Le_copyFrom_40b
  refine eb_q (ev_k cc_20 (eb_q (ev_k cc_20 (eb_q (ev_k cc_20 (eb_q (ev_k cc_20 (eb_q (ev_w cpb_82 (fun _ g2 ⟨q1, q2⟩ => ⟨fq_t (fq_c (fq_c (fq_c (fq_c (fq_s (fq_r _ _) rfl) (fun _ _ _ => rfl)) (fun _ _ _ => rfl)) (fun _ _ _ => rfl)) (fun _ _ _ => rfl)) (fq_w q1 (fun k j e => ?_)), ?_, fun i hi => ⟨?_, ?_, ?_, ?_, ?_⟩⟩))))))))))
  · cases q : k == 39 with
    | false => rfl
    | true => rw [beq_iff_eq] at q; subst q; cases e
  · rw [q1.1 34 0 rfl, cp_x (by decide), cp_x (by decide), cp_x (by decide), cp_x (by decide), si_e]
  · rw [q1.1 35 i rfl, cp_x (by decide), cp_x (by decide), cp_x (by decide), cp_j cl_3 hi, si_x (by decide)]
  · rw [q1.1 36 i rfl, cp_x (by decide), cp_x (by decide), cp_j cl_3 hi, cp_x (by decide), si_x (by decide)]
  · rw [q1.1 37 i rfl, cp_x (by decide), cp_j cl_3 hi, cp_x (by decide), cp_x (by decide), si_x (by decide)]
  · rw [q1.1 38 i rfl, cp_j cl_3 hi, cp_x (by decide), cp_x (by decide), cp_x (by decide), si_x (by decide)]
  · rw [q2 i hi, cp_x (by decide), cp_x (by decide), cp_x (by decide), cp_x (by decide), si_x (by decide)]
theorem k4_p {g g' : et_G} (h : fq w_k4 g g') : fq w_kp g g' := fq_w h (fun k j e => by
  cases q : w_k4 k j with
  | false => rfl
  | true =>
    unfold w_k4 at q
    unfold w_kp at e
    simp only [Bool.or_eq_true] at q
    rcases q with q | q <;> rw [q] at e <;> simp at e)
theorem imC (I : Iv S g) : okC (im_S S) g (fn_Et_image g) () := by
  obtain ⟨i69, i70, i71, i72⟩ := im_v (S := S)
  have a := im_ag (S := S)
  have A := Iv_gA I
  have hn := gA_n A
  obtain ⟨h0, h1, h2, h3, h4, h5, h6, h7, h8⟩ := I.1
  unfold okC fn_Et_image
  refine ev_d (cpl_c g) (fun _ g2 ⟨q1, q2, q3⟩ => ?_)
  unfold fn_Mi_copyFrom_47
  simp only [et_b]
  rw [bd_s]
  have p2 : fq w_kp g g2 := k4_p q1
  have f : fq w_kp g (et_si (et_si (et_si g2 47 1 (g2.1 46 1)) 47 2 ((et_si g2 47 1 (g2.1 46 1)).1 46 2)) 0 11 1) := fq_s (fq_s (fq_s p2 rfl) rfl) rfl
  refine ev_r ⟨trivial, ⟨(rc_tape_q f a ⟨rfl, fun _ => rfl⟩ ⟨rfl, fun _ => rfl⟩ h0), (rc_tong_q f a ⟨rfl, rfl, fun _ => rfl, fun _ => rfl⟩ ⟨rfl, rfl, fun _ => rfl, fun _ => rfl, fun _ => rfl, fun _ => rfl⟩ h1), (rc_town_q f a ⟨rfl, rfl, rfl, rfl, rfl, rfl, fun _ => rfl, fun _ => rfl, fun _ => rfl, fun _ => rfl, fun _ => rfl, fun _ => rfl, fun _ => rfl, fun _ => rfl⟩ ⟨rfl, rfl, rfl, rfl, fun _ => rfl, fun _ => rfl, fun _ => rfl, fun _ => rfl, fun _ => rfl⟩ h2), (rc_led_q f a ⟨rfl, fun _ => rfl, fun _ => rfl, fun _ => rfl, fun _ => rfl, fun _ => rfl⟩ ⟨rfl, fun _ => rfl⟩ h3), ⟨by rw [si_e, i69]; rfl, fun _ => ⟨?_, fun i hi => ?_, ?_, ?_⟩⟩, (rc_mind_q f a ⟨rfl, rfl⟩ ⟨rfl, rfl⟩ h5), (rc_ways_q f a ⟨rfl, fun _ => rfl⟩ ⟨rfl, fun _ => rfl⟩ h6), (rc_mend_q f a ⟨rfl, fun _ => rfl⟩ ⟨rfl, fun _ => rfl⟩ h7), (rc_misc_q f a ⟨rfl, rfl, rfl, rfl⟩ ⟨rfl, fun _ => rfl⟩ h8)⟩, rc_G_e (sE_of a rfl rfl rfl rfl rfl (fun _ => rfl) (fun _ => rfl) (fun _ => rfl) (fun _ => rfl) (fun _ => rfl)) (rc_G_q f (fun k j e => ?_) I.2.1), w_C_of f (fun k j e => by have := w_kp_c e; omega)⟩
  · rw [si_x (by decide), si_x (by decide), si_x (by decide), q2, i70]; exact hn.1
  · rw [i70] at hi
    obtain ⟨s0, s1, s2, s3, s4⟩ := gA_s A hi
    obtain ⟨t0, t1, t2, t3, t4⟩ := q3 i (by omega)
    have w5 := (gA_w A hi).2.2.2.2
    unfold rc_say
    rw [im_95 (by omega), im_95 (by omega), im_95 (by omega), im_95 (by omega), im_95 (by omega)]
    refine ⟨?_, ?_, ?_, ?_, ?_⟩
    · rw [si_x (by decide), si_x (by decide), si_x (by decide), t0]; exact s0
    · rw [si_x (by decide), si_x (by decide), si_x (by decide), t1]; exact s1
    · rw [si_x (by decide), si_x (by decide), si_x (by decide), t2]; exact s2
    · rw [si_x (by decide), si_x (by decide), si_x (by decide), t3]; exact s3
    · rw [si_x (by decide), si_x (by decide), si_x (by decide), t4, s4, vp_b w5]
  · rw [si_x (by decide), si_j (by decide), si_e, p2.1 46 1 rfl, i71]; exact h5.1
  · rw [si_x (by decide), si_e, si_x (by decide), p2.1 46 2 rfl, i72]; exact h5.2
  · unfold w_gr at e
    simp only [Bool.or_eq_true, Bool.and_eq_true, beq_iff_eq, Nat.ble_eq] at e
    cases q : w_kp k j with
    | false => rfl
    | true => have := w_kp_c q; omega
theorem ok_image (I : Iv S g) : okI S g (fn_Et_image g) fn_Mo_image := by
  obtain ⟨i69, i70, i71, i72⟩ := im_v (S := S)
  have a := im_ag (S := S)
  have A := Iv_gA I
  have hn := gA_n A
  obtain ⟨f0, f1, f2, f3, f4, f5, f6⟩ := I.2.2.2.1
  refine ⟨im_S S, imC I, fun g1 M => imM M, ⟨(wf_tape_q a ⟨rfl, fun _ => rfl⟩ f0), (wf_town_q a ⟨rfl, rfl, rfl, rfl, rfl, rfl, fun _ => rfl, fun _ => rfl, fun _ => rfl, fun _ => rfl, fun _ => rfl⟩ f1), (wf_led_q a ⟨rfl, rfl, rfl, fun _ => rfl⟩ f2), (wf_mind_q a ⟨rfl, rfl, rfl⟩ f3), ?_, (wf_ways_q a ⟨rfl, fun _ => rfl⟩ f5), (wf_mend_q a rfl f6)⟩, ?_⟩
  · refine ⟨by rw [i69]; exact Nat.le_refl _, fun _ => ⟨by rw [i70]; exact hn.2, fun i hi => ?_, ?_⟩⟩
    · rw [i70] at hi
      have := f2.2 i hi
      have := hn.2
      unfold wf_say
      rw [im_95 (by omega), im_95 (by omega), im_95 (by omega), im_95 (by omega), im_95 (by omega), a 61 4 rfl, a 61 5 rfl]
      exact f2.2 i hi
    · unfold wf_mnd
      rw [i71, i72, a 61 5 rfl]; exact f3
  · unfold wf_4 m4
    rw [i69, i71, i72, a 61 5 rfl, a 61 67 rfl, a 61 68 rfl]
    exact ⟨I.2.2.2.2.1, fun _ => I.2.2.2.2.1⟩
def v_rs (k j : Nat) : Bool := (k == 84 && Nat.ble (j + 1) 100) || (k == 61 && (j == 50 || j == 67 || j == 68))
def rs_S (S : et_T) : et_T := fun k j => if k = 84 ∧ j < 100 then S 95 j else if k = 61 ∧ j = 50 then S 61 70 else if k = 61 ∧ j = 67 then S 61 71 else if k = 61 ∧ j = 68 then S 61 72 else S k j
theorem rs_ag : ag v_rs S (rs_S S) := fun k j e => by
  unfold rs_S
  simp only [v_rs, Bool.or_eq_false_iff, Bool.and_eq_false_iff, beq_eq_false_iff_ne] at e
  have n1 : ∀ a b, Nat.ble a b = false → ¬ a ≤ b := fun a b z e => by rw [Nat.ble_eq.mpr e] at z; cases z
  obtain ⟨e1, e2⟩ := e
  have q1 : ¬ (k = 84 ∧ j < 100) := fun z => e1.elim (fun q => q z.1) (fun q => n1 _ _ q (by omega))
  rw [if_neg q1, if_neg (by omega), if_neg (by omega), if_neg (by omega)]
theorem rs_84 {j : Nat} (h : j < 100) : rs_S S 84 j = S 95 j := if_pos ⟨rfl, h⟩
theorem rs_v : rs_S S 61 50 = S 61 70 ∧ rs_S S 61 67 = S 61 71 ∧ rs_S S 61 68 = S 61 72 := by
  unfold rs_S
  refine ⟨?_, ?_, ?_⟩ <;> simp
def w_rs (k j : Nat) : Bool := (k == 34 && j == 0) || (Nat.ble 35 k && Nat.ble k 39) || (k == 46 && (j == 1 || j == 2)) || (k == 48 && j == 15)
theorem w_rs_c {k j : Nat} (h : w_rs k j = true) : 34 ≤ k ∧ k ≤ 48 := by
  unfold w_rs at h
  simp only [Bool.or_eq_true, Bool.and_eq_true, beq_iff_eq, Nat.ble_eq] at h
  omega
theorem k5_p {g g' : et_G} (h : fq w_k5 g g') : fq w_rs g g' := fq_w h (fun k j e => by
  cases q : w_k5 k j with
  | false => rfl
  | true =>
    unfold w_k5 at q
    unfold w_rs at e
    simp only [Bool.or_eq_true] at q
    rcases q with q | q <;> rw [q] at e <;> simp at e)
theorem ok_restore (I : Iv S g) : okU S g (fn_Et_restore g) fn_Mo_restore := by
  have A := Iv_gA I
  obtain ⟨h0, h1, h2, h3, h4, h5, h6, h7, h8⟩ := I.1
  obtain ⟨f0, f1, f2, f3, f4, f5, f6⟩ := I.2.2.2.1
  by_cases h : S 61 69 = 0
  · refine ⟨S, 0, okC_q I ?_, okM_q (fun g1 M => ?_), I.2.2.2.1, I.2.2.2.2⟩
    · unfold fn_Et_restore; rw [h4.1, h, if_pos nI_0]
    · unfold fn_Mo_restore
      simp only [et_b]
      rw [si_j (by decide), M.1 61 69 rfl, h, if_pos nI_0]
  · have h1' : S 61 69 = 1 := by have := f4.1; omega
    obtain ⟨k1, k2, k3, k4⟩ := h4.2 h1'
    obtain ⟨l1, l2, l3⟩ := f4.2 h1'
    have a := rs_ag (S := S)
    obtain ⟨r50, r67, r68⟩ := rs_v (S := S)
    have wl : wf_led (rs_S S) := ⟨by rw [r50]; exact l1, fun i hi => by
      rw [r50] at hi
      have := l2 i hi
      unfold wf_say at this ⊢
      rw [rs_84 (by omega), rs_84 (by omega), rs_84 (by omega), rs_84 (by omega), rs_84 (by omega), a 61 4 rfl, a 61 5 rfl]
      exact this⟩
    have wm : m4 (rs_S S) := by
      unfold m4
      rw [r67, r68, a 61 5 rfl]; exact I.2.2.2.2.2 h1'
    refine ⟨rs_S S, 1, ?_, fun g1 M => ?_, ⟨(wf_tape_q a ⟨rfl, fun _ => rfl⟩ f0), (wf_town_q a ⟨rfl, rfl, rfl, rfl, rfl, rfl, fun _ => rfl, fun _ => rfl, fun _ => rfl, fun _ => rfl, fun _ => rfl⟩ f1), wl, ⟨wm.1, wm.2.1, wm.2.2.2⟩, (wf_kept_q a ⟨rfl, rfl, rfl, rfl, rfl, rfl, fun _ => rfl⟩ f4), (wf_ways_q a ⟨rfl, fun _ => rfl⟩ f5), (wf_mend_q a rfl f6)⟩, wm, ?_⟩
    · unfold okC fn_Et_restore
      rw [h4.1, h1', if_neg (by decide)]
      refine ev_d (cpm_c g) (fun _ g2 ⟨q1, q2, q3⟩ => ?_)
      unfold fn_Mi_copyFrom_47b fn_Gr_forget
      simp only [et_b]
      rw [bd_s, bd_s]
      have p2 : fq w_rs g g2 := k5_p q1
      have f : fq w_rs g (et_si (et_si (et_si g2 46 1 (g2.1 47 1)) 46 2 ((et_si g2 46 1 (g2.1 47 1)).1 47 2)) 48 15 0) := fq_s (fq_s (fq_s p2 rfl) rfl) rfl
      refine ev_r ⟨rfl, ⟨(rc_tape_q f a ⟨rfl, fun _ => rfl⟩ ⟨rfl, fun _ => rfl⟩ h0), (rc_tong_q f a ⟨rfl, rfl, fun _ => rfl, fun _ => rfl⟩ ⟨rfl, rfl, fun _ => rfl, fun _ => rfl, fun _ => rfl, fun _ => rfl⟩ h1), (rc_town_q f a ⟨rfl, rfl, rfl, rfl, rfl, rfl, fun _ => rfl, fun _ => rfl, fun _ => rfl, fun _ => rfl, fun _ => rfl, fun _ => rfl, fun _ => rfl, fun _ => rfl⟩ ⟨rfl, rfl, rfl, rfl, fun _ => rfl, fun _ => rfl, fun _ => rfl, fun _ => rfl, fun _ => rfl⟩ h2), ⟨?_, fun i hi => ?_⟩, (rc_kept_q f a ⟨rfl, rfl, fun _ => rfl, fun _ => rfl, fun _ => rfl, fun _ => rfl, fun _ => rfl, rfl, rfl⟩ ⟨rfl, rfl, rfl, rfl, fun _ => rfl⟩ h4), ⟨?_, ?_⟩, (rc_ways_q f a ⟨rfl, fun _ => rfl⟩ ⟨rfl, fun _ => rfl⟩ h6), (rc_mend_q f a ⟨rfl, fun _ => rfl⟩ ⟨rfl, fun _ => rfl⟩ h7), (rc_misc_q f a ⟨rfl, rfl, rfl, rfl⟩ ⟨rfl, fun _ => rfl⟩ h8)⟩, fg_G, w_C_of f (fun k j e => by have := w_rs_c e; omega)⟩
      · rw [si_x (by decide), si_x (by decide), si_x (by decide), q2, r50]; exact k1
      · rw [r50] at hi
        obtain ⟨s0, s1, s2, s3, s4⟩ := k2 i hi
        obtain ⟨t0, t1, t2, t3, t4⟩ := q3 i (by omega)
        have w5 := (l2 i hi).2.2.2.2
        unfold rc_say
        rw [rs_84 (by omega), rs_84 (by omega), rs_84 (by omega), rs_84 (by omega), rs_84 (by omega)]
        refine ⟨?_, ?_, ?_, ?_, ?_⟩
        · rw [si_x (by decide), si_x (by decide), si_x (by decide), t0]; exact s0
        · rw [si_x (by decide), si_x (by decide), si_x (by decide), t1]; exact s1
        · rw [si_x (by decide), si_x (by decide), si_x (by decide), t2]; exact s2
        · rw [si_x (by decide), si_x (by decide), si_x (by decide), t3]; exact s3
        · rw [si_x (by decide), si_x (by decide), si_x (by decide), t4]
          show vp_nar .boolean (g.1 (41 + 4) i) = _
          rw [s4, vp_b w5]
      · rw [si_x (by decide), si_j (by decide), si_e, p2.1 47 1 rfl, r67]; exact k3
      · rw [si_x (by decide), si_e, si_x (by decide), p2.1 47 2 rfl, r68]; exact k4
    · unfold fn_Mo_restore
      generalize hF : fn_Mo_copies_95_84 = F
      simp only [et_b]
      subst hF
      have M0 := t0_m M 0
      have m70 := M0.1 61 70 rfl
      have m71 := M0.1 61 71 rfl
      have m72 := M0.1 61 72 rfl
      have m69 : ¬ (et_si g1 61 0 0).1 61 69 = 0 := by rw [M0.1 61 69 rfl, h1']; decide
      have b0 : (et_si g1 61 0 0).1 61 0 = 0 := si_e
      rw [if_neg m69]
      refine ev_d mcp_2 (fun _ g2 ⟨q1, q2⟩ => ?_)
      generalize hb : et_si g1 61 0 0 = b at M0 m70 m71 m72 b0 q1 q2
      have hbM : fq w_M g1 b := by rw [← hb]; exact t0_M _
      have p : fq v_rs b (et_si (et_si (et_si b 61 50 (b.1 61 70)) 61 67 ((et_si b 61 50 (b.1 61 70)).1 61 71)) 61 68 ((et_si (et_si b 61 50 (b.1 61 70)) 61 67 ((et_si b 61 50 (b.1 61 70)).1 61 71)).1 61 72)) := fq_s (fq_s (fq_s (fq_r _ _) rfl) rfl) rfl
      have f : fq v_rs b g2 := fq_t p (fq_w q1 (fun k j e => by
        cases q : (k == 84 && Nat.ble (j + 1) 100) with
        | false => rfl
        | true => unfold v_rs at e; rw [q] at e; cases e))
      refine ev_r ⟨rfl, by rw [f.1 61 0 rfl]; exact b0, rc_M_n f a (fun k j _ e => e) M0 (fun k j _ e => ?_) (fun z => by cases z) (fun z => by cases z), fq_t hbM (w_M_of f (fun k j e => ?_))⟩
      · simp only [v_rs, Bool.or_eq_true, Bool.and_eq_true, beq_iff_eq, Nat.ble_eq] at e
        rcases e with e | e
        · rw [e.1, q2 j (by omega), rs_84 (by omega), si_x (by decide), si_x (by decide), si_x (by decide)]; exact M0.1 95 j rfl
        · rw [e.1]
          rcases e.2 with (rfl | rfl) | rfl
          · rw [q1.1 61 50 rfl, si_j (by decide), si_j (by decide), si_e, r50]; exact m70
          · rw [q1.1 61 67 rfl, si_j (by decide), si_e, si_j (by decide), r67]; exact m71
          · rw [q1.1 61 68 rfl, si_e, si_j (by decide), si_j (by decide), r68]; exact m72
      · simp only [v_rs, Bool.or_eq_true, Bool.and_eq_true, beq_iff_eq, Nat.ble_eq] at e
        omega
    · rw [a 61 69 rfl, a 61 71 rfl, a 61 72 rfl, a 61 5 rfl]
      exact I.2.2.2.2.2
end IM
