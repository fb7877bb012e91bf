/-! village: reading begun on both sides; a fault found -/
def vlE (S : et_T) (n : Nat) (g h : et_G) : Prop := ∃ (x : Int32) (g' h' : et_G), fn_Et_village (nI n) g = some (.inr x, g') ∧ fn_Mo_village (nI n) h = some (x, h') ∧ h'.1 61 0 = 0 ∧ fq w_V g g' ∧ Jb g' ∧ fq w_M h h' ∧ ∃ S', rc_C S' g' ∧ rc_G S' g' ∧ rc_M S' h' ∧ wf_S S' ∧ wf_4 S'
def w_f (k j : Nat) : Bool := (k == 0 && (j == 1 || j == 14 || j == 15)) || (Nat.ble 15 k && Nat.ble k 28)
def v_f (k j : Nat) : Bool := (k == 61 && (j == 17 || j == 19)) || (k == 72 && j == 0)
def w_h (k j : Nat) : Bool := (k == 61 && (j == 0 || (Nat.ble 17 j && Nat.ble j 36))) || (Nat.ble 73 k && Nat.ble k 81) || (k == 72 && j == 0)
section FL
variable {S : et_T} {n : Nat} {g h : et_G}
theorem mr_h {g g' : et_G} (f : fq w_mr g g') : fq w_h g g' := fq_w f (fun k j e => by
  unfold w_h at e
  unfold w_mr
  have e := Bool.or_eq_false_iff.mp e
  have e1 := Bool.or_eq_false_iff.mp e.1
  rw [e1.2, Bool.or_false]
  cases z : (k == 61) with
  | false => rfl
  | true =>
    have e2 := e1.1
    rw [z, Bool.true_and] at e2
    have e2 := (Bool.or_eq_false_iff.mp e2).2
    rw [Bool.true_and]
    cases y : Nat.ble j 36 with
    | false => rw [Bool.and_false]
    | true =>
      rw [y, Bool.and_true] at e2
      rw [Bool.and_true]
      cases x : Nat.ble 18 j with
      | false => rfl
      | true =>
        have := Nat.ble_eq.mp x
        rw [Nat.ble_eq.mpr (show 17 ≤ j by omega)] at e2
        cases e2)
theorem vl_b (I : Ij S g) (M : rc_M S h) (hle : n ≤ S 61 17) : ∃ g' h', fn_Re_read_15 (nI n) (et_si g 0 1 0) = fn_Re_read_15_91 g' ∧ fn_Mo_village (nI n) h = fn_Mo_village_86 h' ∧ rdE S n (et_si g 0 1 0) (et_si (et_si h 61 0 0) 61 17 0) g' h' := by
  have T := I.1.1.1
  have wT := I.1.2.2.2.1.1
  have w800 : S 61 17 ≤ 800 := wT.1
  have hn : n ≤ 800 := by omega
  have hb8 : ∀ i, i < 800 → S 71 i < 256 := wT.2
  obtain ⟨ga, E1, kc, dc⟩ := rd_b (S := S) (n := n) (g := et_si g 0 1 0) hn (fun j hj => by rw [si_x (by decide)]; exact T.2 j hj) (fun j hj => by rw [si_x (by decide)]; exact I.2 j hj)
  have M0 := t0_m M 0
  obtain ⟨hb, eb⟩ : ∃ hb, hb = et_si (et_si (et_si (et_si (et_si (et_si h 61 0 0) 61 17 0) 61 19 (-1)) 61 18 0) 61 21 (nI n)) 61 22 0 := ⟨_, rfl⟩
  have q1 : hb.1 61 21 = nI n := by rw [eb, si_j (by decide), si_e]
  have q2 : hb.1 61 22 = nI 0 := by rw [eb, si_e]; rfl
  have q3 : hb.1 61 18 = nI 0 := by rw [eb, si_j (by decide), si_j (by decide), si_e]; rfl
  have q4 : hb.1 61 19 = -1 := by rw [eb, si_j (by decide), si_j (by decide), si_j (by decide), si_e]
  have q5 : ∀ j, hb.1 71 j = h.1 71 j := fun j => by rw [eb, si_x (by decide), si_x (by decide), si_x (by decide), si_x (by decide), si_x (by decide), si_x (by decide)]
  have q6 : fq w_mr (et_si (et_si h 61 0 0) 61 17 0) hb := by rw [eb]; exact fq_s (fq_s (fq_s (fq_s (fq_r _ _) rfl) rfl) rfl) rfl
  obtain ⟨x1, hc, E2, w, dm⟩ := em_c hb
  obtain ⟨x2, hd, E3, tk, w2⟩ := sm_c (S := S) (n := n) (i := 0) (g := hc) hn hb8 (Nat.zero_le _) (fun j hj => by rw [w.1 71 j rfl, q5]; exact M.1 71 j rfl) (by rw [w.1 61 21 rfl]; exact q1) (by rw [w.1 61 22 rfl]; exact q2)
  have EM : fn_Mo_village (nI n) h = fn_Mo_village_65 1000000 hd := by
    unfold fn_Mo_village
    rw [eb_eq, if_neg (nI_pos (by omega)), M0.1 61 17 rfl, if_neg (nI_nlt (by omega) (by omega))]
    unfold fn_Mo_village_23
    rw [ri_y si_e 1 1 (by decide), bd_s, if_neg (by decide), eb_eq, eb_eq, eb_eq, eb_eq, eb_eq, ← eb, E2, bd_s, E3, bd_s]
  have em : fq w_mr hb hc := fq_w w (fun k j e => by
    unfold w_mr at e
    unfold w_em
    have e := Bool.or_eq_false_iff.mp e
    cases z : (k == 61) with
    | false =>
      rw [Bool.false_and, Bool.false_or]
      cases y : Nat.ble k 81 with
      | false => rw [Bool.and_false]
      | true =>
        have e2 := e.2
        rw [y, Bool.and_true] at e2
        rw [Bool.and_true]
        cases x : Nat.ble 74 k with
        | false => rfl
        | true => have := Nat.ble_eq.mp x; rw [Nat.ble_eq.mpr (show 73 ≤ k by omega)] at e2; cases e2
    | true =>
      have z := beq_iff_eq.mp z
      subst z
      have e1 := e.1
      rw [show ((61 : Nat) == 61) = true from rfl, Bool.true_and] at e1
      rw [Bool.true_and, show (Nat.ble 74 61 && Nat.ble 61 81) = false from rfl, Bool.or_false]
      cases y : Nat.ble j 36 with
      | false => rw [Bool.and_false]
      | true =>
        rw [y, Bool.and_true] at e1
        rw [Bool.and_true]
        cases x : Nat.ble 28 j with
        | false => rfl
        | true => have := Nat.ble_eq.mp x; rw [Nat.ble_eq.mpr (show 18 ≤ j by omega)] at e1; cases e1)
  have t : uM S n (bk S n 0) (et_si (et_si h 61 0 0) 61 17 0) hd := ⟨fq_t q6 (fq_t em (ms_mr w2)), fun j hj => by rw [w2.1 71 j rfl, w.1 71 j rfl, q5]; exact M.1 71 j rfl, by rw [w2.1 61 21 rfl, w.1 61 21 rfl]; exact q1, tk, (bk_b S (Nat.zero_le n)).2, by rw [w2.1 61 18 rfl, w.1 61 18 rfl]; exact q3, by rw [w2.1 61 19 rfl, w.1 61 19 rfl]; exact q4⟩
  obtain ⟨g', h', A1, A2, R⟩ := rd_lp hn hb8 n 1000000 1000000 0 0 D_0 ga hd (by omega) (by omega) (by omega) (Nat.le_refl _) kc t (vV_s (fq_r _ _) w2 (vV_0 dc dm))
  exact ⟨g', h', E1.trans A1, EM.trans A2, R⟩
theorem vl_f (I : Ij S g) (M : rc_M S h) (hle : n ≤ S 61 17) {g' h' : et_G} {f a : Nat} (E1 : fn_Re_read_15 (nI n) (et_si g 0 1 0) = fn_Re_read_15_91 g') (E2 : fn_Mo_village (nI n) h = fn_Mo_village_86 h') (c : fC n f a (et_si g 0 1 0) g') (d : fM n f a (et_si (et_si h 61 0 0) 61 17 0) h') : vlE S n g h := by
  have T := I.1.1.1
  have wT := I.1.2.2.2.1.1
  have w800 : S 61 17 ≤ 800 := wT.1
  obtain ⟨c0, c1, c2, ⟨⟨q, q6, q3⟩, J⟩, l1, l5, la⟩ := c
  obtain ⟨x1, ge, E3, w, -⟩ := fh_c q6 q3
  have D := d
  obtain ⟨d0, d1, d2, -, -, -⟩ := d
  have F0 : fq w_f g ge := fq_t (fq_t (fq_s (fq_r _ _) rfl) (fq_w c0 (fun k j e => (Bool.or_eq_false_iff.mp e).2))) (fq_w w (fun k j e => by
    cases z : (k == 21) with
    | false => rfl
    | true => rw [beq_iff_eq.mp z] at e; cases e))
  have e15 : ge.1 0 15 = nI (S 72 0) := by rw [w.1 0 15 rfl, c0.1 0 15 rfl, si_j (by decide)]; exact I.1.1.2.2.2.2.2.2.2.2.2.1
  have G : fn_Et_village (nI n) g = some (.inr (nI f), et_si (et_si ge 0 14 (nI a)) 0 15 (nI (S 72 0 + 1))) := by
    unfold fn_Et_village fn_Et_takeTape
    rw [if_neg (nI_pos (by omega)), T.1, if_pos (nI_le hle (by omega)), eb_eq, bt_r, E1]
    unfold fn_Re_read_15_91
    rw [E3, bd_s, bd_s, eb_eq, w.1 28 9 rfl, w.1 28 10 rfl, c1, c2, if_neg (nq0 (by omega) (by omega)), eb_eq, si_j (by decide), e15, show nI (S 72 0) + (1 : Int32) = nI (S 72 0 + 1) from nI_add _ 1]
  have e72 : h'.1 72 0 = nI (S 72 0) := by rw [d0.1 72 0 rfl, si_x (by decide), si_x (by decide)]; exact M.1 72 0 rfl
  have H : fn_Mo_village (nI n) h = some (nI f, et_si h' 72 0 (nI (S 72 0 + 1))) := by
    rw [E2]
    unfold fn_Mo_village_86
    rw [gd_0 D, bd_s, if_pos rfl, show et_ib (0 : Int32) 3 = true from rfl, ck_t, ck_t, show (0 : Int32).toNatClampNeg = 0 from rfl, eb_eq, e72, show nI (S 72 0) + (1 : Int32) = nI (S 72 0 + 1) from nI_add _ 1, si_x (by decide), d1]
  have F : fq w_f g (et_si (et_si ge 0 14 (nI a)) 0 15 (nI (S 72 0 + 1))) := fq_s (fq_s F0 rfl) rfl
  have F' : fq w_h h (et_si h' 72 0 (nI (S 72 0 + 1))) := fq_s (fq_t (fq_s (fq_s (fq_r _ _) rfl) rfl) (mr_h d0)) rfl
  have A : ag v_f S (su (su (su S 61 17 0) 61 19 (a + 1)) 72 0 (S 72 0 + 1)) := su_ag (su_ag (su_ag (ag_0 _ _) rfl) rfl) rfl
  have s17 : su (su (su S 61 17 0) 61 19 (a + 1)) 72 0 (S 72 0 + 1) 61 17 = 0 := by rw [su_x (by decide), su_j (by decide), su_e]
  have s19 : su (su (su S 61 17 0) 61 19 (a + 1)) 72 0 (S 72 0 + 1) 61 19 = a + 1 := by rw [su_x (by decide), su_e]
  have s72 : su (su (su S 61 17 0) 61 19 (a + 1)) 72 0 (S 72 0 + 1) 72 0 = S 72 0 + 1 := su_e
  have s72' : ∀ j, j ≠ 0 → su (su (su S 61 17 0) 61 19 (a + 1)) 72 0 (S 72 0 + 1) 72 j = S 72 j := fun j hj => by rw [su_j hj, su_x (by decide), su_x (by decide)]
  generalize su (su (su S 61 17 0) 61 19 (a + 1)) 72 0 (S 72 0 + 1) = S' at A s17 s19 s72 s72'
  refine ⟨nI f, _, _, G, H, ?_, fq_w F (fun k j e => ?_), fun j hj => ?_, w_M_of F' (fun k j e => ?_), S', ?_, ?_, ?_, ?_, ?_⟩
  · rw [si_x (by decide), d0.1 61 0 rfl, si_j (by decide), si_e]
  · cases z : w_f k j with
    | false => rfl
    | true =>
      unfold w_f at z
      simp only [Bool.or_eq_true, Bool.and_eq_true, beq_iff_eq, Nat.ble_eq] at z
      unfold w_V at e
      rw [Nat.ble_eq.mpr (show k ≤ 60 by omega)] at e
      cases e
  · rw [si_x (by decide), si_x (by decide), w.1 17 j rfl]; exact J j hj
  · unfold w_h at e
    simp only [Bool.or_eq_true, Bool.and_eq_true, beq_iff_eq, Nat.ble_eq] at e
    omega
  · obtain ⟨h0, h1, h2, h3, h4, h5, h6, h7, h8⟩ := I.1.1
    refine ⟨⟨?_, fun i hi => ?_⟩, (rc_tong_q F A ⟨rfl, rfl, fun _ => rfl, fun _ => rfl⟩ ⟨rfl, rfl, fun _ => rfl, fun _ => rfl, fun _ => rfl, fun _ => rfl⟩ h1), (rc_town_q F A ⟨rfl, rfl, rfl, rfl, rfl, rfl, fun _ => rfl, fun _ => rfl, fun _ => rfl, fun _ => rfl, fun _ => rfl, fun _ => rfl, fun _ => rfl, fun _ => rfl⟩ ⟨rfl, rfl, rfl, rfl, fun _ => rfl, fun _ => rfl, fun _ => rfl, fun _ => rfl, fun _ => rfl⟩ h2), (rc_led_q F A ⟨rfl, fun _ => rfl, fun _ => rfl, fun _ => rfl, fun _ => rfl, fun _ => rfl⟩ ⟨rfl, fun _ => rfl⟩ h3), (rc_kept_q F A ⟨rfl, rfl, fun _ => rfl, fun _ => rfl, fun _ => rfl, fun _ => rfl, fun _ => rfl, rfl, rfl⟩ ⟨rfl, rfl, rfl, rfl, fun _ => rfl⟩ h4), (rc_mind_q F A ⟨rfl, rfl⟩ ⟨rfl, rfl⟩ h5), (rc_ways_q F A ⟨rfl, fun _ => rfl⟩ ⟨rfl, fun _ => rfl⟩ h6), (rc_mend_q F A ⟨rfl, fun _ => rfl⟩ ⟨rfl, fun _ => rfl⟩ h7), ?_, ?_, ?_, ?_⟩
    · rw [s17, si_j (by decide), si_j (by decide), w.1 0 1 rfl, c0.1 0 1 rfl, si_e]; rfl
    · rw [F.1 1 i rfl, A 71 i rfl]; exact h0.2 i hi
    · rw [s19, si_j (by decide), si_e]; exact (nI_pred _).symm
    · rw [s72, si_e]
    · rw [s72' 1 (by decide), F.1 0 16 rfl]; exact h8.2.2.1
    · rw [s72' 2 (by decide), F.1 0 17 rfl]; exact h8.2.2.2
  · refine rc_G_e (sE_of A rfl rfl rfl rfl rfl (fun _ => rfl) (fun _ => rfl) (fun _ => rfl) (fun _ => rfl) (fun _ => rfl)) (rc_G_q F (fun k j e => ?_) I.1.2.1)
    unfold w_gr at e
    simp only [Bool.or_eq_true, Bool.and_eq_true, beq_iff_eq, Nat.ble_eq] at e
    cases z : w_f k j with
    | false => rfl
    | true =>
      unfold w_f at z
      simp only [Bool.or_eq_true, Bool.and_eq_true, beq_iff_eq, Nat.ble_eq] at z
      omega
  · refine rc_M_n F' A (fun k j m z => ?_) M (fun k j m z => ?_) (fun _ => ?_) (fun z => by cases z)
    · cases y : v_f k j with
      | false => rfl
      | true =>
        unfold v_f at y
        simp only [Bool.or_eq_true, Bool.and_eq_true, beq_iff_eq] at y
        rcases y with ⟨y1, y2 | y2⟩ | ⟨y1, y2⟩ <;> rw [y1, y2] at z <;> cases z
    · have mm := m
      have m := mq_c (show mq k j = true by unfold mq; rw [m]; rfl)
      unfold w_h at z
      simp only [Bool.or_eq_true, Bool.and_eq_true, beq_iff_eq, Nat.ble_eq] at z
      by_cases e1 : k = 72
      · have e2 : j = 0 := by omega
        rw [e1, e2, si_e, s72]
      · by_cases e3 : j = 17
        · have e4 : k = 61 := by omega
          rw [e4, e3, si_x (by decide), s17, d0.1 61 17 rfl, si_e]; rfl
        · have e4 : k = 61 ∧ j = 19 := by omega
          rw [e4.1, e4.2] at mm; cases mm
    · rw [s19, si_x (by decide), d2]; exact (nI_pred _).symm
  · obtain ⟨f0, f1, f2, f3, f4, f5, f6⟩ := I.1.2.2.2.1
    exact ⟨⟨by rw [s17]; exact Nat.zero_le _, fun i hi => by rw [A 71 i rfl]; exact f0.2 i hi⟩, (wf_town_q A ⟨rfl, rfl, rfl, rfl, rfl, rfl, fun _ => rfl, fun _ => rfl, fun _ => rfl, fun _ => rfl, fun _ => rfl⟩ f1), (wf_led_q A ⟨rfl, rfl, rfl, fun _ => rfl⟩ f2), (wf_mind_q A ⟨rfl, rfl, rfl⟩ f3), (wf_kept_q A ⟨rfl, rfl, rfl, rfl, rfl, rfl, fun _ => rfl⟩ f4), (wf_ways_q A ⟨rfl, fun _ => rfl⟩ f5), (wf_mend_q A rfl f6)⟩
  · exact wf4_q A rfl rfl rfl rfl rfl rfl I.1.2.2.2.2
end FL
