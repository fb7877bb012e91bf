/-! utter -/
section UO
variable {S : et_T} {g : et_G}
theorem ut_C (C : rc_C S g) (G : rc_G S g) (W : wf_S S) {p h n : Nat} (hn : n ≤ 800) : ev_Q (et_bd (fn_Ut_isClear (nI n) g) (fun v7 g8 => if v7 = 0 then fn_Et_utter_63 g8 else et_bd (fn_Le_add (nI p) (nI h) (g8.1 31 5) (g8.1 31 6) (g8.1 31 4) g8) (fun v10 g11 => if v10 = 0 then fn_Et_utter_63 g11 else et_bd (fn_Gr_forget g11) (fun _ g13 => some (.inr (g13.1 34 0), g13))))) (fun (a : et_oc) g' => a = .inr (u_v S n) ∧ rc_C (u_S S p h n) g' ∧ rc_G (u_S S p h n) g' ∧ fq w_C g g') := by
  refine ev_d (clr_c C.2.1 C.2.2.1 W.2.1 C.1.2 W.1.2 hn) (fun v g8 k => ?_)
  obtain ⟨f, k⟩ := k
  obtain ⟨h0, h1, h2, h3, h4, h5, h6, h7, h8⟩ := C
  have hs := ag_r S
  have C8 : rc_C S g8 := ⟨(rc_tape_q f hs ⟨rfl, fun _ => rfl⟩ ⟨rfl, fun _ => rfl⟩ h0), (rc_tong_q f hs ⟨rfl, rfl, fun _ => rfl, fun _ => rfl⟩ ⟨rfl, rfl, fun _ => rfl, fun _ => rfl, fun _ => rfl, fun _ => rfl⟩ h1), (rc_town_q f hs ⟨rfl, rfl, rfl, rfl, rfl, rfl, fun _ => rfl, fun _ => rfl, fun _ => rfl, fun _ => rfl, fun _ => rfl, fun _ => rfl, fun _ => rfl, fun _ => rfl⟩ ⟨rfl, rfl, rfl, rfl, fun _ => rfl, fun _ => rfl, fun _ => rfl, fun _ => rfl, fun _ => rfl⟩ h2), (rc_led_q f hs ⟨rfl, fun _ => rfl, fun _ => rfl, fun _ => rfl, fun _ => rfl, fun _ => rfl⟩ ⟨rfl, fun _ => rfl⟩ h3), (rc_kept_q f hs ⟨rfl, rfl, fun _ => rfl, fun _ => rfl, fun _ => rfl, fun _ => rfl, fun _ => rfl, rfl, rfl⟩ ⟨rfl, rfl, rfl, rfl, fun _ => rfl⟩ h4), (rc_mind_q f hs ⟨rfl, rfl⟩ ⟨rfl, rfl⟩ h5), (rc_ways_q f hs ⟨rfl, fun _ => rfl⟩ ⟨rfl, fun _ => rfl⟩ h6), (rc_mend_q f hs ⟨rfl, fun _ => rfl⟩ ⟨rfl, fun _ => rfl⟩ h7), (rc_misc_q f hs ⟨rfl, rfl, rfl, rfl⟩ ⟨rfl, fun _ => rfl⟩ h8)⟩
  have G8 : rc_G S g8 := rc_G_q f (fun k j e => by
    unfold w_gr at e
    simp only [Bool.or_eq_true, Bool.and_eq_true, beq_iff_eq, Nat.ble_eq] at e
    simp [w_u, ww_32, wb_c]; omega) G
  have f8 : fq w_C g g8 := w_C_of f (fun k j e => by simp [w_u, ww_32, wb_c] at e; omega)
  have R : ¬ (UC S n ∧ S 61 50 < 20) → ev_Q (fn_Et_utter_63 g8) (fun (a : et_oc) g' => a = .inr (u_v S n) ∧ rc_C (u_S S p h n) g' ∧ rc_G (u_S S p h n) g' ∧ fq w_C g g') := fun z => by
    unfold fn_Et_utter_63 u_v u_S
    rw [io_f z, io_f z]
    obtain ⟨r1, r2, r3⟩ := rf_d C8 G8 (q := 1) (Or.inl rfl)
    exact eb_q (ev_r ⟨rfl, r1, r2, fq_t f8 r3⟩)
  rcases k with ⟨rfl, b⟩ | ⟨rfl, b, c5, c6, c4⟩
  · rw [if_pos rfl]
    exact R (fun z => b z.1)
  · rw [if_neg (by decide), c5, c6, c4]
    by_cases q : S 61 50 < 20
    · obtain ⟨g', e1, e2, e3, e4⟩ := sy_c C8 W (p := p) (h := h) (t := tst S ((u_l S n).getD 0 0 / 15)) (w := (u_l S n).getD 0 0 % 5) (nt := u_t S n) q (by
        unfold u_t
        by_cases z : n ≤ u_b S n
        · rw [io_t z]; decide
        · rw [io_f z]; decide)
      rw [e1, bd_s, if_neg (by decide)]
      unfold fn_Gr_forget u_v u_S
      rw [io_t ⟨b, q⟩, io_t ⟨b, q⟩]
      refine ev_r ⟨?_, e2, fg_G, fq_t f8 (w_C_of e4 (fun k j e => by have := w_sy_c e; omega))⟩
      exact congrArg Sum.inr e3
    · have e34 : g8.1 34 0 = nI (S 61 50) := C8.2.2.2.1.1
      have h20 : S 61 50 ≤ 20 := W.2.2.1.1
      unfold fn_Le_add
      rw [e34, if_neg (show ¬ nI (S 61 50) < (20 : Int32) from nI_nlt (b := 20) (by omega) (by omega)), bd_s, if_pos rfl]
      exact R (fun z => q z.2)
theorem ut_M {S0 : et_T} (M0 : rc_M S0 g) (z0 : g.1 61 0 = 0) (eS : S = su S0 61 17 0) (hw : wt_S S) (W : wf_S S) (h65 : S 65 0 ≤ 8) (h26 : ∀ i, i < S 65 0 → S 65 (1 + i) < 256) {p h n : Nat} (hn : n ≤ 800) : ev_Q (fn_Mo_utter_32 (nI p) (nI h) (nI n) 1 g) (fun a g' => a = u_v S n ∧ g'.1 61 0 = 0 ∧ rc_M (u_S S p h n) g' ∧ fq w_M g g') := by
  have hb8 := W.1.2
  have htw := W.2.1
  have h20 : S 61 50 ≤ 20 := W.2.2.1.1
  obtain ⟨o1, o2, o3, o4⟩ := u_le S n
  unfold fn_Mo_utter_32
  rw [ri_y z0 1 2 (by decide), bd_s, if_neg (by decide)]
  refine eb_q ?_
  have M1 : rc_M S (et_si g 61 17 0) := by rw [eS]; exact ap_M (l := []) M0
  have z1 : (et_si g 61 17 0).1 61 0 = 0 := by rw [si_j (by decide)]; exact z0
  have f1 : fq w_M g (et_si g 61 17 0) := fq_s (fq_r _ _) rfl
  generalize et_si g 61 17 0 = g1 at M1 z1 f1
  have R : ∀ g2, rc_M S g2 → g2.1 61 0 = 0 → fq w_M g g2 → ¬ (UC S n ∧ S 61 50 < 20) → ev_Q (et_bd (fn_Mo_refuses (1 : Int32) g2) (fun v g => some (v, g))) (fun a g' => a = u_v S n ∧ g'.1 61 0 = 0 ∧ rc_M (u_S S p h n) g' ∧ fq w_M g g') := fun g2 M2 z2 f2 z => by
    obtain ⟨g', e1, e2, e3⟩ := rf_m M2 (q := 1) (by decide)
    unfold u_v u_S
    rw [io_f z, io_f z, show (1 : Int32) = nI 1 from rfl, e1, bd_s]
    exact ev_r ⟨rfl, by rw [e3.1 61 0 rfl]; exact z2, e2, fq_t f2 (w_M_of e3 (fun k j e => by simp [v_rf] at e; omega))⟩
  rw [M1.1 61 50 rfl]
  by_cases q20 : S 61 50 = 20
  · rw [if_pos (show nI (S 61 50) = (20 : Int32) from by rw [q20]; rfl)]
    exact R g1 M1 z1 f1 (fun z => by have := z.2; omega)
  · rw [if_neg (show ¬ nI (S 61 50) = (20 : Int32) from fun z => q20 ((nI_eq (b := 20) (by omega) (by decide)).mp z))]
    have r71 : ∀ j, g1.1 71 j = nI (S 71 j) := fun j => M1.1 71 j rfl
    have B : ∀ i, i ≤ n → fn_Mo_blanks (nI i) (nI n) g1 = some (nI (bk S n i), g1) := fun i hi => by
      unfold fn_Mo_blanks
      exact mbl hn r71 hb8 (n - i) 1000000 i (by omega) (by omega)
    have L : ∀ i, i ≤ n → fn_Mo_lettersTo (nI i) (nI n) g1 = some (nI (lte S n i), g1) := fun i hi => by
      unfold fn_Mo_lettersTo
      exact mle hn r71 hb8 (n - i) 1000000 i (by omega) (by omega)
    have B0 : fn_Mo_blanks 0 (nI n) g1 = some (nI (u_a S n), g1) := B 0 (Nat.zero_le _)
    have L0 : fn_Mo_lettersTo (nI (u_a S n)) (nI n) g1 = some (nI (u_w S n), g1) := L _ (by omega)
    have B1 : fn_Mo_blanks (nI (u_w S n)) (nI n) g1 = some (nI (u_b S n), g1) := B _ (by omega)
    have L1 : fn_Mo_lettersTo (nI (u_b S n)) (nI n) g1 = some (nI (u_c S n), g1) := L _ (by omega)
    have B2 := B (u_c S n) o4
    have bb := bk_b S o4
    rw [B0, bd_s, L0, bd_s, B1, bd_s, L1, bd_s]
    have F : ∀ nt, nt ≤ 1 → (nt = 0 → u_lo S n = u_a S n ∧ u_lo S n + u_m S n = u_w S n) → (nt = 1 → u_lo S n = u_b S n ∧ u_lo S n + u_m S n = u_c S n) → u_t S n = nt → u_V S n → ev_Q (fn_Mo_utter_150 (nI p) (nI h) (nI (u_a S n)) (nI (u_w S n)) (nI (u_b S n)) (nI (u_c S n)) (nI nt) g1) (fun a g' => a = u_v S n ∧ g'.1 61 0 = 0 ∧ rc_M (u_S S p h n) g' ∧ fq w_M g g') := fun nt n1 k0 k1 et ev => by
      obtain ⟨g', M', f', e⟩ := m150 M1 hw htw hb8 n1 k0 k1 (by rcases (show nt = 0 ∨ nt = 1 by omega) with z | z; { have := (k0 z).2; omega }; { have := (k1 z).2; omega }) (nI p) (nI h)
      have z' : g'.1 61 0 = 0 := by rw [f'.1 61 0 rfl]; exact z1
      have fM : fq w_M g g' := fq_t f1 (w_M_of f' (fun k j e => by simp [wm_u, wm_f, wb_m, v_fz] at e; omega))
      rw [e]
      by_cases ow : owP S (wl S (u_lo S n) (u_m S n) (15 * S 61 1))
      · rw [io_t ow]
        have uc : UC S n ∧ S 61 50 < 20 := ⟨⟨ev, ow⟩, by omega⟩
        unfold fn_Mo_utter_298 u_v u_S
        rw [io_t uc, io_t uc, et]
        obtain ⟨g3, e1, e2, e3⟩ := sy_m M' (p := p) (h := h) (t := tst S ((u_l S n).getD 0 0 / 15)) (w := (u_l S n).getD 0 0 % 5) (nt := nt) uc.2
        refine ev_d (show ev_Q (fn_Mo_adds5 _ _ _ _ _ g') (fun a g' => a = nI (S 61 50 + 1) ∧ g' = g3) from ⟨_, _, e1, rfl, rfl⟩) (fun a g4 k4 => ?_)
        rw [k4.2]
        exact ev_r ⟨k4.1, by rw [e3.1 61 0 rfl]; exact z', e2, fq_t fM (w_M_of e3 sy_w)⟩
      · rw [io_f ow]
        unfold fn_Mo_utter_308
        exact R g' M' z' fM (fun z => ow z.1.2)
    by_cases qc : u_c S n ≤ u_b S n
    · rw [if_pos (nI_le qc (by omega))]
      unfold fn_Mo_utter_108 fn_Mo_utter_144
      by_cases q : n ≤ u_b S n
      · have lo : u_lo S n = u_a S n := io_t q
        have mm : u_m S n = u_w S n - u_a S n := io_t q
        by_cases qa : u_w S n = u_a S n
        · rw [if_pos (by rw [qa])]
          exact R g1 M1 z1 f1 (fun z => z.1.1.1 (by omega))
        · rw [if_neg (by rw [ni_eq (by omega) (by omega)]; exact qa), B2, bd_s, if_neg (nI_nlt (by omega) (by omega)), if_pos rfl]
          exact F 0 (by decide) (fun _ => ⟨lo, by omega⟩) (fun z => by cases z) (io_t q) ⟨by omega, fun z => absurd q z⟩
      · have mm : u_m S n = u_c S n - u_b S n := io_f q
        have nu : ¬ (UC S n ∧ S 61 50 < 20) := fun z => z.1.1.1 (by omega)
        have ebk : bk S n (u_c S n) = u_b S n := by
          rw [show u_c S n = u_b S n by omega]
          exact bk_f S (show u_w S n ≤ n by omega)
        by_cases qa : u_w S n = u_a S n
        · rw [if_pos (by rw [qa])]
          exact R g1 M1 z1 f1 nu
        · rw [if_neg (by rw [ni_eq (by omega) (by omega)]; exact qa), B2, bd_s, if_pos (nI_lt (by omega) (by omega))]
          exact R g1 M1 z1 f1 nu
    · rw [if_neg (nI_ge (by omega) (by omega))]
      unfold fn_Mo_utter_108 fn_Mo_utter_144
      have q : ¬ n ≤ u_b S n := by omega
      have lo : u_lo S n = u_b S n := io_f q
      have mm : u_m S n = u_c S n - u_b S n := io_f q
      by_cases qa : u_w S n = u_a S n
      · rw [if_pos (by rw [qa])]
        refine R g1 M1 z1 f1 (fun z => ?_)
        have := (z.1.1.2 q).1
        have := this.1
        have := (z.1.1.2 q).1.2.1
        omega
      · rw [if_neg (by rw [ni_eq (by omega) (by omega)]; exact qa), B2, bd_s]
        by_cases qb : bk S n (u_c S n) < n
        · rw [if_pos (nI_lt qb (by omega))]
          refine R g1 M1 z1 f1 (fun z => ?_)
          have := (z.1.1.2 q).2
          omega
        · rw [if_neg (nI_nlt (by omega) (by omega)), if_neg (by decide), mno M1 h65 h26 hb8 o1 (by omega), bd_s]
          by_cases qn : ntP S (u_a S n) (u_w S n - u_a S n)
          · rw [io_t qn, if_neg (by decide)]
            exact F 1 (by decide) (fun z => by cases z) (fun _ => ⟨lo, by omega⟩) (io_f q) ⟨by omega, fun _ => ⟨qn, by omega⟩⟩
          · rw [io_f qn, if_pos rfl]
            exact R g1 M1 z1 f1 (fun z => qn (z.1.1.2 q).1)
theorem ok_utter (I : Iv S g) (p h n : Int32) : okB2 S g (fn_Et_utter p h n g) (fn_Mo_utter p h n) := by
  have A := Iv_gA I
  have c := gA_c A
  have T := I.1.1
  have wT := I.2.2.2.1.1
  have w800 : S 61 17 ≤ 800 := wT.1
  by_cases hv : iN p (S 61 4) ∧ iN h 24
  · obtain ⟨h1, h2⟩ := hv
    obtain ⟨p, hp, rfl⟩ := iN_e h1 (by omega)
    obtain ⟨h, hh, rfl⟩ := iN_e h2 (by omega)
    by_cases hv : iN n (S 61 17 + 1)
    · obtain ⟨n, hn, rfl⟩ := iN_e hv (by omega)
      have hle : n ≤ S 61 17 := by omega
      have a1 : ag v_tp S (su S 61 17 0) := su_ag (ag_0 _ _) rfl
      have f0 : fq wt_c g (et_si g 0 1 0) := fq_s (fq_r _ _) rfl
      have wt1 : wf_tape (su S 61 17 0) := ⟨by rw [su_e]; exact Nat.zero_le _, fun i hi => by rw [su_x (by decide)]; exact wT.2 i hi⟩
      obtain ⟨w1, w2⟩ := tp_W I a1 wt1
      obtain ⟨c1, c2, c3⟩ := tp_C I f0 a1 ⟨by rw [si_e, su_e]; rfl, fun i hi => by rw [si_x (by decide), su_x (by decide)]; exact T.2 i hi⟩
      have hwt := wt_of c1.2.1 w1.2.1
      have s65 := c1.2.1.2.2.2.2.2
      have n4 : su S 61 17 0 61 4 = S 61 4 := su_j (by decide)
      refine ⟨u_S (su S 61 17 0) p h n, .inr (u_v (su S 61 17 0) n), ?_, fun g1 M => ?_, ?_, ?_, fun k e => by cases e⟩
      · unfold okC fn_Et_utter fn_Et_takeTape
        rw [np_c c.2.1, io_t h1, bt_r, nh_c, io_t h2, bt_r, if_neg (nI_pos (by omega)), T.1, if_pos (nI_le hle (by omega))]
        exact ev_w (ut_C c1 c2 w1 (p := p) (h := h) (n := n) (by omega)) (fun a g' k => ⟨k.1, k.2.1, k.2.2.1, fq_t c3 k.2.2.2⟩)
      · unfold fn_Mo_utter
        refine eb_q ?_
        have M0 := t0_m M 0
        have B := mB_c (Iv_mB I M0)
        rw [iw_y si_e B.2.2.2.2.2.2.1 (by omega) hp hh, bd_s, if_neg (by decide), if_neg (nI_pos (by omega)), M0.1 61 17 rfl, if_neg (nI_nlt (by omega) (by omega))]
        refine ev_w (ut_M (S := su S 61 17 0) M0 si_e rfl hwt w1 s65.2.1 (fun i hi => ?_) (p := p) (h := h) (n := n) (by omega)) (fun a g' k => ⟨k.1, k.2.1, k.2.2.1, fq_t (fq_s (fq_r _ _) rfl) k.2.2.2⟩)
        have := (s65.2.2 i hi).2.2
        rw [show 0 + 1 + i = 1 + i by omega] at this
        omega
      · unfold u_S
        by_cases z : UC (su S 61 17 0) n ∧ su S 61 17 0 61 50 < 20
        · rw [io_t z]
          exact wf_sy1 w1 z.2 (by omega) hh z.1.2.2.2 (by omega) (by
            unfold u_t
            by_cases y : n ≤ u_b (su S 61 17 0) n
            · rw [io_t y]; decide
            · rw [io_f y]; decide)
        · rw [io_f z]; exact wf_rf 1 w1 _
      · unfold u_S
        by_cases z : UC (su S 61 17 0) n ∧ su S 61 17 0 61 50 < 20
        · rw [io_t z]; exact wf4_q (sy_ag _ _ _ _ _) rfl rfl rfl rfl rfl rfl w2
        · rw [io_f z]; exact wf4_rf 1 w2 _
    · have hlt : ¬ n < 0 → nI (S 61 17) < n := fun h1 => Int32.lt_of_lt_of_le (nI_lt (Nat.lt_succ_self _) (by omega)) (Classical.byContradiction fun h => hv ⟨h1, h⟩)
      refine ⟨S, .inl 1, okC_q I ?_, fun g1 M => ?_, I.2.2.2.1, I.2.2.2.2, fun k e => by cases e; exact Or.inr rfl⟩
      · unfold fn_Et_utter fn_Et_takeTape
        rw [np_c c.2.1, io_t h1, bt_r, nh_c, io_t h2, bt_r]
        by_cases h1 : n < 0
        · rw [if_pos h1, bt_l]
        · rw [if_neg h1, T.1, if_neg (fun z => Int32.lt_irrefl (Int32.lt_of_lt_of_le (hlt h1) z)), bt_l]
      · unfold fn_Mo_utter
        refine eb_q ?_
        have M0 := t0_m M 0
        have B := mB_c (Iv_mB I M0)
        rw [iw_y si_e B.2.2.2.2.2.2.1 (by omega) hp hh, bd_s, if_neg (by decide)]
        have e : fn_Mo_utter_31 (nI p) (nI h) n (et_si g1 61 0 0) = some (0, et_si (et_si g1 61 0 0) 61 0 2) := by
          unfold fn_Mo_utter_31 fn_Mo_utter_32
          rw [ri_n si_e 2 (by decide), bd_s, if_pos rfl]
        by_cases h1 : n < 0
        · rw [if_pos h1, e]; exact okM_t (g' := g) M
        · rw [if_neg h1, M0.1 61 17 rfl, if_pos (hlt h1), e]; exact okM_t (g' := g) M
  · refine ⟨S, .inl 0, okC_q I ?_, fun g1 M => ?_, I.2.2.2.1, I.2.2.2.2, fun k e => by cases e; exact Or.inl rfl⟩
    · unfold fn_Et_utter
      rw [np_c c.2.1]
      by_cases h1 : iN p (S 61 4)
      · rw [io_t h1, bt_r, nh_c, io_f (fun z => hv ⟨h1, z⟩), bt_l]
      · rw [io_f h1, bt_l]
    · unfold fn_Mo_utter
      refine eb_q ?_
      have B := mB_c (Iv_mB I (t0_m M 0))
      rw [iw_n si_e B.2.2.2.2.2.2.1 hv, bd_s, if_pos rfl]
      exact okM_t (g' := g) M
end UO
