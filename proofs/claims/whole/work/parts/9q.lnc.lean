/-! village: places, near, person, at, weigh -/
section LC
variable {S : et_T} {n : Nat} {g0 h0 : et_G} {D : Nat → Nat}
theorem kC_p {i q : Nat} {g : et_G} (c : kC S n i g0 g) (hq : q ≤ 6) : kC S n i g0 (et_si g 15 3 (nI q)) := by
  obtain ⟨f, ht, h1, h2, hi, h9, h10, p, J⟩ := c
  exact ⟨fq_s f rfl, fun j hj => by rw [si_x (by decide)]; exact ht j hj, by rw [si_x (by decide)]; exact h1, by rw [si_x (by decide)]; exact h2, hi, by rw [si_x (by decide)]; exact h9, by rw [si_x (by decide)]; exact h10, ⟨q, hq, si_e⟩, fun j hj => by rw [si_x (by decide)]; exact J j hj⟩
theorem ln_6 {a : Nat} {g h : et_G} (hn : n ≤ 800) (hb8 : ∀ i, i < 800 → S 71 i < 256) (t : tC S n a g0 g) (t' : uM S n a h0 h) (V : vV D g h) (k1 : tkK S n a = 1) : e2 (fn_Re_personLine_15 g) (if (h.1 61 31) = (6 : Int32) then et_bd (fn_Mo_faults (2 : Int32) h) (fun _ g51 => fn_Mo_line_324 g51) else fn_Mo_line_324 h) (lQ S n a g0 h0) := by
  obtain ⟨c28, c29, c30, c31, c32, c33, c35, c36⟩ := vA_c V.1
  obtain ⟨m28, m29, m30, m31, m32, m33, m34, m35, m36⟩ := vA_m V.1
  have B := V.2.1
  obtain ⟨b28, b29, b30, b31, b32, b33, b34, b35, b36⟩ := V.2.1
  unfold fn_Re_personLine_15
  rw [c31, m31]
  by_cases q : D 31 = 6
  · rw [if_neg (show ¬ nI (D 31) < (6 : Int32) from nI_nlt (b := 6) (by omega) (by omega)), if_pos (show nI (D 31) = (6 : Int32) from by rw [q]; rfl)]
    refine e2_l (ref_c t (f := 2) (by decide)) (fun v g' ⟨e, c⟩ => ?_)
    refine e2_r (fau_m t' (f := 2) (by decide)) (fun _ h' ⟨c', w⟩ => ?_)
    unfold fn_Mo_line_324
    rw [gd_0 c', bd_s, if_pos rfl, e]
    exact e2_q (lq_f c c')
  · rw [if_pos (show nI (D 31) < (6 : Int32) from nI_lt (b := 6) (by omega) (by decide)), if_neg (show ¬ nI (D 31) = (6 : Int32) from fun w => q ((nI_eq (b := 6) (by omega) (by decide)).mp w))]
    unfold fn_Mo_line_324
    rw [gd_1 t', bd_s, if_neg (by decide), show nI (D 31) + (1 : Int32) = nI (D 31 + 1) from nI_add _ 1]
    refine e2_r (stp_m hn hb8 t' (by omega) (by omega)) (fun _ h1 ⟨t1, w1⟩ => ?_)
    rw [show h1.1 61 31 = nI (D 31) from (w1.1 61 31 rfl).trans m31, show nI (D 31) + (1 : Int32) = nI (D 31 + 1) from nI_add _ 1]
    have ea := (tkE_b (S := S) t.2.2).1
    have eb := bk_b S t.1.2.2.2.2.1
    have F : fq (wS (fun k j => k == 15 && j == 3)) g (et_si g 15 3 (nI (D 31 + 1))) := fq_s (fq_r _ _) rfl
    have F' : fq (mS (fun k j => k == 61 && j == 31)) h (et_si h1 61 31 (nI (D 31 + 1))) := fq_s (mS_l w1) rfl
    obtain ⟨A, -, L, N, H, W, T, R⟩ := V
    exact e2_b (e2_d (lq_a (semi0 (D := dU D 31 (D 31 + 1)) hn hb8 (by omega) (kC_p t.1 (by omega)) (uM_s t1 rfl) ⟨vA_g A F F' (fun j hj => match j, hj with | 0, _ => Or.inl ⟨rfl, rfl, rfl⟩ | 1, _ => Or.inl ⟨rfl, rfl, rfl⟩ | 2, _ => Or.inl ⟨rfl, rfl, rfl⟩ | 3, _ => Or.inr ⟨si_e, fun z => si_e⟩ | 4, _ => Or.inl ⟨rfl, rfl, rfl⟩ | 5, _ => Or.inl ⟨rfl, rfl, rfl⟩ | 6, _ => Or.inl ⟨rfl, rfl, rfl⟩ | 7, _ => Or.inl ⟨rfl, rfl, rfl⟩ | 8, _ => Or.inl ⟨rfl, rfl, rfl⟩ | j + 9, hj => absurd hj (by omega)), ⟨B.1, B.2.1, B.2.2.1, show D 31 + 1 ≤ 6 by omega, B.2.2.2.2⟩, vL_q F F' (fun _ => rfl) (fun _ => rfl) (fun _ => rfl) (fun _ => rfl) (fun _ => rfl) (fun _ => rfl) rfl rfl rfl L, vN_q F F' (fun _ => rfl) (fun _ => rfl) N, vH_q F F' (fun _ => rfl) (fun _ => rfl) (fun z => ⟨z, rfl⟩) H, vW_q F F' (fun _ => rfl) (fun _ => rfl) W, vT_q F F' (fun _ => rfl) (fun _ => rfl) (fun _ => rfl) rfl rfl (fun _ => rfl) (Nat.le_refl (D 28)) (fun z => ⟨rfl, z⟩) rfl b36 T, vR_q F F' (fun _ => rfl) (fun _ => rfl) (fun _ => rfl) rfl (Nat.le_refl (D 32)) R⟩)))
theorem ln_4 {a : Nat} {g h : et_G} (hn : n ≤ 800) (hb8 : ∀ i, i < 800 → S 71 i < 256) (t : tC S n a g0 g) (t' : uM S n a h0 h) (V : vV D g h) (k1 : tkK S n a = 1) : e2 (fn_Re_placesLine_15 g) (if (h.1 61 35) = 0 then if (h.1 61 36) = 0 then fn_Mo_line_255 h else et_bd (fn_Mo_faults (5 : Int32) h) (fun _ g63 => fn_Mo_line_255 g63) else et_bd (fn_Mo_faults (4 : Int32) h) (fun _ g65 => fn_Mo_line_255 g65)) (lQ S n a g0 h0) := by
  obtain ⟨c28, c29, c30, c31, c32, c33, c35, c36⟩ := vA_c V.1
  obtain ⟨m28, m29, m30, m31, m32, m33, m34, m35, m36⟩ := vA_m V.1
  have B := V.2.1
  obtain ⟨b28, b29, b30, b31, b32, b33, b34, b35, b36⟩ := V.2.1
  have Z : ∀ f, 1 ≤ f ∧ f ≤ 5 → e2 (et_bd (fn_Re_refuse (nI f) g) (fun v11 g12 => some (v11 &&& 1, g12))) (et_bd (fn_Mo_faults (nI f) h) (fun _ g65 => fn_Mo_line_255 g65)) (lQ S n a g0 h0) := fun f hf => by
    refine e2_l (ref_c t hf) (fun v g' ⟨e, c⟩ => ?_)
    refine e2_r (fau_m t' hf) (fun _ h' ⟨c', w⟩ => ?_)
    unfold fn_Mo_line_255
    rw [gd_0 c', bd_s, if_pos rfl, e]
    exact e2_q (lq_f c c')
  unfold fn_Re_placesLine_15
  rw [c35, m35, c36, m36]
  by_cases q : D 35 = 0
  · rw [q, if_pos nI_0, if_pos nI_0]
    by_cases q6 : D 36 = 0
    · rw [q6, if_pos nI_0, if_pos nI_0]
      unfold fn_Mo_line_255
      rw [gd_1 t', bd_s, if_neg (by decide)]
      refine e2_b (e2_d ?_)
      obtain ⟨x0, h1, E0, t1, w1⟩ := stp_m hn hb8 (uM_s (k := 61) (j := 35) (x := 1) t' rfl) (by omega) (by omega)
      rw [E0, bd_s]
      have ea := (tkE_b (S := S) t.2.2).1
      have eb := bk_b S t.1.2.2.2.2.1
      have cc : kC S n (tkE S n a) g0 (et_si g 28 7 1) := kC_s t.1 rfl
      have F1 : fq (mS (fun k j => k == 61 && (j == 35 || j == 30))) h h1 := fq_t (fq_s (fq_r _ _) rfl) (mS_l w1)
      by_cases f : nuF S n (bk S n (tkE S n a)) 0 6 = 0
      · obtain ⟨n1, n2, n3, n4⟩ := nuF_0 f
        obtain ⟨x1, g1, E1, rfl, u1, y1⟩ := num_c1 (m := 6) hn hb8 cc (by decide) f
        rw [show fn_Re_number (6 : Int32) (et_si g 28 7 1) = _ from E1, bd_s, if_neg (by decide), u1.2.1.2.2.2.2]
        by_cases z : 1 ≤ tkV S n (bk S n (tkE S n a))
        · obtain ⟨x2, h2, E2, rfl, t2, w2⟩ := num_m1 (lo := 1) (m := 6) hn hb8 t1 (by decide) (by unfold nuF; rw [io_t n1, io_t ⟨n2, z, n4⟩])
          rw [show fn_Mo_number (1 : Int32) (6 : Int32) h1 = _ from E2, bd_s, if_pos (show (1 : Int32) ≤ nI (tkV S n (bk S n (tkE S n a))) from nI_le (a := 1) z (by omega))]
          generalize hv : tkV S n (bk S n (tkE S n a)) = v at z n4
          have hb5 := bk_b S u1.1.2.2.2.2.1
          have ea5 := (tkE_b (S := S) u1.2.2).1
          have F : fq (wS (fun k j => (k == 28 && j == 7) || (k == 15 && j == 1))) g (et_si g1 15 1 (nI v)) := fq_s (fq_t (fq_s (fq_r _ _) rfl) (wS_l y1)) rfl
          have F' : fq (mS (fun k j => k == 61 && (j == 35 || j == 30))) h (et_si h2 61 30 (nI v)) := fq_s (fq_t F1 (mS_l w2)) rfl
          obtain ⟨A, -, L, N, H, W, T, R⟩ := V
          refine e2_b (e2_d (lq_a (semi0 (D := dU (dU D 35 1) 30 v) hn hb8 (by omega) (kC_s u1.1 rfl) (uM_s t2 rfl) ⟨vA_g A F F' (fun j hj => match j, hj with | 0, _ => Or.inl ⟨rfl, rfl, rfl⟩ | 1, _ => Or.inl ⟨rfl, rfl, rfl⟩ | 2, _ => Or.inr ⟨si_e, fun z => si_e⟩ | 3, _ => Or.inl ⟨rfl, rfl, rfl⟩ | 4, _ => Or.inl ⟨rfl, rfl, rfl⟩ | 5, _ => Or.inl ⟨rfl, rfl, rfl⟩ | 6, _ => Or.inl ⟨rfl, rfl, rfl⟩ | 7, _ => Or.inr ⟨?_, fun z => ?_⟩ | 8, _ => Or.inl ⟨rfl, rfl, rfl⟩ | j + 9, hj => absurd hj (by omega)), ⟨B.1, B.2.1, ⟨z, n4⟩, B.2.2.2.1, B.2.2.2.2.1, B.2.2.2.2.2.1, B.2.2.2.2.2.2.1, Nat.le_refl 1, B.2.2.2.2.2.2.2.2⟩, vL_q F F' (fun _ => rfl) (fun _ => rfl) (fun _ => rfl) (fun _ => rfl) (fun _ => rfl) (fun _ => rfl) rfl rfl rfl L, vN_q F F' (fun _ => rfl) (fun _ => rfl) N, vH_q F F' (fun _ => rfl) (fun _ => rfl) (fun z => by omega) H, vW_q F F' (fun _ => rfl) (fun _ => rfl) W, vT_q F F' (fun _ => rfl) (fun _ => rfl) (fun _ => rfl) rfl rfl (fun _ => rfl) (Nat.le_refl (D 28)) (fun z => by omega) rfl b36 T, vR_q F F' (fun _ => rfl) (fun _ => rfl) (fun _ => rfl) rfl (Nat.le_refl (D 32)) R⟩)))
          · show (et_si h2 61 30 (nI v)).1 61 35 = nI 1
            rw [si_j (by decide), w2.1 61 35 rfl, w1.1 61 35 rfl, si_e]; rfl
          · show (et_si g1 15 1 (nI v)).1 28 7 = nI 1
            rw [si_x (by decide), y1.1 28 7 rfl, si_e]; rfl
        · have e0 : nuF S n (bk S n (tkE S n a)) 1 6 = 2 := by unfold nuF; rw [io_t n1, io_f (fun w => z w.2.1)]
          obtain ⟨x2, h2, E2, c', -⟩ := num_m0 (lo := 1) (m := 6) hn t1 (by decide) (by decide) (by rw [e0]; decide)
          rw [e0] at c'
          rw [show fn_Mo_number (1 : Int32) (6 : Int32) h1 = _ from E2, bd_s, if_neg (show ¬ (1 : Int32) ≤ nI (tkV S n (bk S n (tkE S n a))) from nI_ge (b := 1) (by omega) (by decide))]
          refine e2_d ?_
          refine e2_l (ref_c u1 (f := 2) (by decide)) (fun v g' ⟨e, c⟩ => ?_)
          have c2 := fM_s (k := 61) (j := 30) (x := x2) c' rfl
          rw [e, l47_0 c2]
          exact e2_q (lq_f c c2)
      · have e0 : nuF S n (bk S n (tkE S n a)) 1 6 = nuF S n (bk S n (tkE S n a)) 0 6 := by
          unfold nuF at f ⊢
          by_cases z : tkK S n (bk S n (tkE S n a)) = 2
          · rw [io_t z] at f
            rw [io_t z, io_t z]
            by_cases y : tkE S n (bk S n (tkE S n a)) - bk S n (tkE S n a) ≤ 3 ∧ 0 ≤ tkV S n (bk S n (tkE S n a)) ∧ tkV S n (bk S n (tkE S n a)) ≤ 6
            · rw [io_t y] at f; exact absurd rfl f
            · rw [io_f y, io_f (fun w => y ⟨w.1, Nat.zero_le _, w.2.2⟩)]
          · rw [io_f z, io_f z]
        obtain ⟨x1, g1, E1, rfl, c⟩ := num_c0 (m := 6) hn hb8 cc (by decide) f
        obtain ⟨x2, h2, E2, c', -⟩ := num_m0 (lo := 1) (m := 6) hn t1 (by decide) (by decide) (by rw [e0]; exact f)
        rw [e0] at c'
        rw [show fn_Re_number (6 : Int32) (et_si g 28 7 1) = _ from E1, bd_s, if_pos rfl, show fn_Mo_number (1 : Int32) (6 : Int32) h1 = _ from E2, bd_s]
        refine e2_d ?_
        have c2 := fM_s (k := 61) (j := 30) (x := x2) c' rfl
        rw [l47_0 c2]
        exact e2_q (lq_f c c2)
    · have n6 : ¬ nI (D 36) = 0 := fun w => q6 ((nI_eq (b := 0) (by omega) (by decide)).mp w)
      rw [if_neg n6, if_neg n6]
      exact Z 5 (by decide)
  · have n5 : ¬ nI (D 35) = 0 := fun w => q ((nI_eq (b := 0) (by omega) (by decide)).mp w)
    rw [if_neg n5, if_neg n5]
    exact Z 4 (by decide)
theorem ln_9 {a : Nat} {g h : et_G} (hn : n ≤ 800) (hb8 : ∀ i, i < 800 → S 71 i < 256) (t : tC S n a g0 g) (t' : uM S n a h0 h) (V : vV D g h) (k1 : tkK S n a = 1) : e2 (fn_Re_atLine_15 g) (et_bd (fn_Mo_readsAt h) (fun _ g40 => fn_Mo_line_470 g40)) (lQ S n a g0 h0) := by
  obtain ⟨c28, c29, c30, c31, c32, c33, c35, c36⟩ := vA_c V.1
  obtain ⟨m28, m29, m30, m31, m32, m33, m34, m35, m36⟩ := vA_m V.1
  have B := V.2.1
  obtain ⟨b28, b29, b30, b31, b32, b33, b34, b35, b36⟩ := V.2.1
  unfold fn_Re_atLine_15 fn_Mo_readsAt
  refine e2_b ?_
  show e2 _ (et_bd (et_bd (fn_Mo_steps (et_si h 61 36 1)) _) _) _
  obtain ⟨x0, h1, E0, t1, w1⟩ := stp_m hn hb8 (uM_s (k := 61) (j := 36) (x := 1) t' rfl) (by omega) (by omega)
  have cc : kC S n (tkE S n a) g0 (et_si g 28 8 1) := kC_s t.1 rfl
  rw [E0, bd_s, show (et_si g 28 8 1).1 15 3 = nI (D 31) from by rw [si_x (by decide)]; exact c31, show h1.1 61 31 = nI (D 31) from by rw [w1.1 61 31 rfl, si_j (by decide)]; exact m31]
  have ea := (tkE_b (S := S) t.2.2).1
  have eb := bk_b S t.1.2.2.2.2.1
  generalize hb1 : bk S n (tkE S n a) = b1 at t1 eb
  by_cases f1 : onF S n b1 (D 31) = 0
  · obtain ⟨n1, n2, n3⟩ := onF_0 f1
    obtain ⟨x1, g1, E1, rfl, u1, y1⟩ := on_c1 (m := D 31) hn hb8 cc (by omega) (by rw [hb1]; exact f1)
    obtain ⟨x2, h2, E2, rfl, t2, w2⟩ := am_m1 (m := D 31) hn hb8 t1 (by omega) f1
    rw [hb1] at u1
    rw [E1, bd_s, if_neg (by decide), u1.2.1.2.2.2.2, E2, bd_s]
    refine e2_b ?_
    have ea1 := (tkE_b (S := S) u1.2.2).1
    have eb1 := bk_b S u1.1.2.2.2.2.1
    generalize hb2 : bk S n (tkE S n b1) = b2 at t2 eb1
    by_cases f2 : nuF S n b2 0 23 = 0
    · obtain ⟨p1, p2, p3, p4⟩ := nuF_0 f2
      obtain ⟨x3, g2, E3, rfl, u2, y2⟩ := num_c1 (m := 23) hn hb8 u1.1 (by decide) (by rw [hb2]; exact f2)
      obtain ⟨x4, h3, E4, rfl, t3, w3⟩ := num_m1 (lo := 0) (m := 23) hn hb8 t2 (by decide) f2
      rw [hb2] at u2
      rw [show fn_Re_number (23 : Int32) g1 = _ from E3, bd_s, if_neg (by decide), u2.2.1.2.2.2.2, show fn_Mo_number (0 : Int32) (23 : Int32) h2 = _ from E4, bd_s]
      refine e2_b ?_
      rw [show g2.1 15 1 = nI (D 30) from by rw [y2.1 15 1 rfl, y1.1 15 1 rfl, si_x (by decide)]; exact c30, show h3.1 61 30 = nI (D 30) from by rw [w3.1 61 30 rfl, w2.1 61 30 rfl, w1.1 61 30 rfl, si_j (by decide)]; exact m30]
      have ea2 := (tkE_b (S := S) u2.2.2).1
      have eb2 := bk_b S u2.1.2.2.2.2.1
      generalize hb3 : bk S n (tkE S n b2) = b3 at t3 eb2
      by_cases f3 : onF S n b3 (D 30) = 0
      · obtain ⟨r1, r2, r3⟩ := onF_0 f3
        obtain ⟨x5, g3, E5, rfl, u3, y3⟩ := on_c1 (m := D 30) hn hb8 u2.1 (by omega) (by rw [hb3]; exact f3)
        obtain ⟨x6, h4, E6, rfl, t4, w4⟩ := am_m1 (m := D 30) hn hb8 t3 (by omega) f3
        rw [hb3] at u3
        rw [E5, bd_s, if_neg (by decide), u3.2.1.2.2.2.2, E6, bd_s, gd_1 t4, bd_s, if_neg (by decide)]
        generalize tkV S n b1 = p at n3
        generalize tkV S n b2 = o at p4
        generalize tkV S n b3 = v at r3
        rw [show nI p * (24 : Int32) + nI o = nI (24 * p + o) from by rw [show (24 : Int32) = nI 24 from rfl, pk_mul, nI_add, Nat.mul_comm], show (24 : Int32) * nI p + nI o = nI (24 * p + o) from by rw [show (24 : Int32) = nI 24 from rfl, pk_mul, nI_add], ib_e (24 * p + o) 144 (by omega) (by decide), ck_t, ck_t, nI_clamp (by omega)]
        show e2 (et_bd (fn_Re_semicolon (et_si g3 21 (24 * p + o) (nI v))) _) (fn_Mo_line_470 (et_si h4 80 (24 * p + o) (nI v))) _
        have ea3 := (tkE_b (S := S) u3.2.2).1
        have eb3 := bk_b S u3.1.2.2.2.2.1
        have F : fq (wS (fun k j => (k == 28 && j == 8) || k == 21)) g (et_si g3 21 (24 * p + o) (nI v)) := fq_s (fq_t (fq_s (fq_r _ _) rfl) (wS_l (fq_t y1 (fq_t y2 y3)))) rfl
        have F' : fq (mS (fun k j => (k == 61 && j == 36) || k == 80)) h (et_si h4 80 (24 * p + o) (nI v)) := fq_s (fq_t (fq_s (fq_r _ _) rfl) (mS_l (fq_t w1 (fq_t w2 (fq_t w3 w4))))) rfl
        obtain ⟨A, -, L, N, H, W, T, R⟩ := V
        refine lq_a (semi0 (D := dU D 36 1) hn hb8 (by omega) (kC_s u3.1 rfl) (uM_s t4 rfl) ⟨vA_g A F F' (fun j hj => match j, hj with | 0, _ => Or.inl ⟨rfl, rfl, rfl⟩ | 1, _ => Or.inl ⟨rfl, rfl, rfl⟩ | 2, _ => Or.inl ⟨rfl, rfl, rfl⟩ | 3, _ => Or.inl ⟨rfl, rfl, rfl⟩ | 4, _ => Or.inl ⟨rfl, rfl, rfl⟩ | 5, _ => Or.inl ⟨rfl, rfl, rfl⟩ | 6, _ => Or.inl ⟨rfl, rfl, rfl⟩ | 7, _ => Or.inl ⟨rfl, rfl, rfl⟩ | 8, _ => Or.inr ⟨?_, fun z => ?_⟩ | j + 9, hj => absurd hj (by omega)), ⟨B.1, B.2.1, B.2.2.1, B.2.2.2.1, B.2.2.2.2.1, B.2.2.2.2.2.1, B.2.2.2.2.2.2.1, B.2.2.2.2.2.2.2.1, Nat.le_refl 1⟩, vL_q F F' (fun _ => rfl) (fun _ => rfl) (fun _ => rfl) (fun _ => rfl) (fun _ => rfl) (fun _ => rfl) rfl rfl rfl L, vN_q F F' (fun _ => rfl) (fun _ => rfl) N, fun i hi => ?_, vW_q F F' (fun _ => rfl) (fun _ => rfl) W, vT_q F F' (fun _ => rfl) (fun _ => rfl) (fun _ => rfl) rfl rfl (fun _ => rfl) (Nat.le_refl (D 28)) (fun z => ⟨rfl, rfl⟩) rfl b36 T, vR_q F F' (fun _ => rfl) (fun _ => rfl) (fun _ => rfl) rfl (Nat.le_refl (D 32)) R⟩)
        · show (et_si h4 80 (24 * p + o) (nI v)).1 61 36 = nI 1
          rw [si_x (by decide), w4.1 61 36 rfl, w3.1 61 36 rfl, w2.1 61 36 rfl, w1.1 61 36 rfl, si_e]; rfl
        · show (et_si g3 21 (24 * p + o) (nI v)).1 28 8 = nI 1
          rw [si_x (by decide), y3.1 28 8 rfl, y2.1 28 8 rfl, y1.1 28 8 rfl, si_e]; rfl
        · show _ ∨ ((1 : Nat) = 1 ∧ ∃ m, m < D 30 ∧ _)
          by_cases e : i = 24 * p + o
          · rw [e]; exact Or.inr ⟨rfl, v, r3, si_e, si_e⟩
          · rw [si_j e, si_j e, y3.1 21 i rfl, y2.1 21 i rfl, y1.1 21 i rfl, si_x (by decide), w4.1 80 i rfl, w3.1 80 i rfl, w2.1 80 i rfl, w1.1 80 i rfl, si_x (by decide)]
            rcases H i hi with z | ⟨z1, z2⟩
            · exact Or.inl z
            · exact Or.inr ⟨rfl, z2⟩
      · obtain ⟨x5, g3, E5, rfl, c⟩ := on_c0 (m := D 30) hn hb8 u2.1 (by omega) (by rw [hb3]; exact f3)
        obtain ⟨x6, h4, E6, c', -⟩ := am_m0 (m := D 30) hn t3 f3
        rw [hb3] at c
        rw [E5, bd_s, if_pos rfl, E6, bd_s, gd_0 c', bd_s, if_pos rfl, bd_s, l47_0 c']
        exact e2_q (lq_f c c')
    · obtain ⟨x3, g2, E3, rfl, c⟩ := num_c0 (m := 23) hn hb8 u1.1 (by decide) (by rw [hb2]; exact f2)
      obtain ⟨x4, h3, E4, c', -⟩ := num_m0 (lo := 0) (m := 23) hn t2 (by decide) (by decide) f2
      rw [hb2] at c
      rw [show fn_Re_number (23 : Int32) g1 = _ from E3, bd_s, if_pos rfl, show fn_Mo_number (0 : Int32) (23 : Int32) h2 = _ from E4, bd_s, am_0 c', bd_s, gd_0 c', bd_s, if_pos rfl, bd_s, l47_0 c']
      exact e2_q (lq_f c c')
  · obtain ⟨x1, g1, E1, rfl, c⟩ := on_c0 (m := D 31) hn hb8 cc (by omega) (by rw [hb1]; exact f1)
    obtain ⟨x2, h2, E2, c', -⟩ := am_m0 (m := D 31) hn t1 f1
    rw [hb1] at c
    rw [E1, bd_s, if_pos rfl, E2, bd_s, num_0 c', bd_s, am_0 c', bd_s, gd_0 c', bd_s, if_pos rfl, bd_s, l47_0 c']
    exact e2_q (lq_f c c')
theorem ln_10 {a : Nat} {g h : et_G} (hn : n ≤ 800) (hb8 : ∀ i, i < 800 → S 71 i < 256) (t : tC S n a g0 g) (t' : uM S n a h0 h) (V : vV D g h) (k1 : tkK S n a = 1) : e2 (fn_Re_weighLine_15 g) (et_bd (fn_Mo_steps h) (fun _ g28 => et_bd (fn_Mo_number (0 : Int32) (4 : Int32) g28) (fun v29 g30 => et_bd (fn_Mo_number (0 : Int32) (1000 : Int32) g30) (fun v31 g32 => et_bd (fn_Mo_number (0 : Int32) (1000 : Int32) g32) (fun v33 g34 => et_bd (fn_Mo_isGood g34) (fun v35 g36 => if v35 = 0 then fn_Mo_line_462 g36 else et_ck (et_ib ((2 : Int32) * v29) 10) (et_b (et_si g36 81 ((2 : Int32) * v29).toNatClampNeg v31) (fun g37 => et_ck (et_ib (((2 : Int32) * v29) + (1 : Int32)) 10) (et_b (et_si g37 81 (((2 : Int32) * v29) + (1 : Int32)).toNatClampNeg v33) (fun g38 => fn_Mo_line_462 g38)))))))))) (lQ S n a g0 h0) := by
  have B := V.2.1
  obtain ⟨b28, b29, b30, b31, b32, b33, b34, b35, b36⟩ := V.2.1
  unfold fn_Re_weighLine_15
  obtain ⟨x0, h1, E0, t1, w1⟩ := stp_m hn hb8 t' (by omega) (by omega)
  rw [E0, bd_s]
  have ea := (tkE_b (S := S) t.2.2).1
  have eb := bk_b S t.1.2.2.2.2.1
  generalize hb1 : bk S n (tkE S n a) = b1 at t1 eb
  by_cases f1 : nuF S n b1 0 4 = 0
  · obtain ⟨n1, n2, n3, n4⟩ := nuF_0 f1
    obtain ⟨x1, g1, E1, rfl, u1, y1⟩ := num_c1 (m := 4) hn hb8 t.1 (by decide) (by rw [hb1]; exact f1)
    obtain ⟨x2, h2, E2, rfl, t2, w2⟩ := num_m1 (lo := 0) (m := 4) hn hb8 t1 (by decide) f1
    rw [hb1] at u1
    rw [show fn_Re_number (4 : Int32) g = _ from E1, bd_s, if_neg (by decide), u1.2.1.2.2.2.2, show fn_Mo_number (0 : Int32) (4 : Int32) h1 = _ from E2, bd_s]
    refine e2_b ?_
    have ea1 := (tkE_b (S := S) u1.2.2).1
    have eb1 := bk_b S u1.1.2.2.2.2.1
    generalize hb2 : bk S n (tkE S n b1) = b2 at t2 eb1
    generalize tkV S n b1 = w0 at n4
    by_cases f2 : nuF S n b2 0 1000 = 0
    · obtain ⟨p1, p2, p3, p4⟩ := nuF_0 f2
      obtain ⟨x3, g2, E3, rfl, u2, y2⟩ := num_c1 (m := 1000) hn hb8 u1.1 (by decide) (by rw [hb2]; exact f2)
      obtain ⟨x4, h3, E4, rfl, t3, w3⟩ := num_m1 (lo := 0) (m := 1000) hn hb8 t2 (by decide) f2
      rw [hb2] at u2
      rw [show fn_Re_number (1000 : Int32) g1 = _ from E3, bd_s, if_neg (by decide), u2.2.1.2.2.2.2, show fn_Mo_number (0 : Int32) (1000 : Int32) h2 = _ from E4, bd_s, show (2 : Int32) * nI w0 = nI (2 * w0) from pk_mul 2 _, show nI (2 * w0) + (1 : Int32) = nI (2 * w0 + 1) from nI_add _ 1, ib_e (2 * w0) 10 (by omega) (by decide), ib_e (2 * w0 + 1) 10 (by omega) (by decide), ck_t, nI_clamp (by omega), nI_clamp (by omega)]
      refine e2_b ?_
      have ea2 := (tkE_b (S := S) u2.2.2).1
      have eb2 := bk_b S u2.1.2.2.2.2.1
      have cc : kC S n (tkE S n b2) g0 (et_si g2 27 (2 * w0) (nI (tkV S n b2))) := kC_s u2.1 rfl
      generalize hb3 : bk S n (tkE S n b2) = b3 at t3 eb2
      generalize hv : tkV S n b2 = v at p4 cc
      by_cases f3 : nuF S n b3 0 1000 = 0
      · obtain ⟨r1, r2, r3, r4⟩ := nuF_0 f3
        obtain ⟨x5, g3, E5, rfl, u3, y3⟩ := num_c1 (m := 1000) hn hb8 cc (by decide) (by rw [hb3]; exact f3)
        obtain ⟨x6, h4, E6, rfl, t4, w4⟩ := num_m1 (lo := 0) (m := 1000) hn hb8 t3 (by decide) f3
        rw [hb3] at u3
        rw [show fn_Re_number (1000 : Int32) (et_si g2 27 (2 * w0) (nI v)) = _ from E5, bd_s, if_neg (by decide), u3.2.1.2.2.2.2, show fn_Mo_number (0 : Int32) (1000 : Int32) h3 = _ from E6, bd_s, gd_1 t4, bd_s, if_neg (by decide), ck_t]
        generalize tkV S n b3 = x at r4
        show e2 (et_bd (fn_Re_semicolon (et_si g3 27 (2 * w0 + 1) (nI x))) _) (fn_Mo_line_470 (et_si (et_si h4 81 (2 * w0) (nI v)) 81 (2 * w0 + 1) (nI x))) _
        have ea3 := (tkE_b (S := S) u3.2.2).1
        have eb3 := bk_b S u3.1.2.2.2.2.1
        have F : fq (wS (fun k _ => k == 27)) g (et_si g3 27 (2 * w0 + 1) (nI x)) := fq_s (fq_t (fq_s (wS_l (fq_t y1 y2)) rfl) (wS_l y3)) rfl
        have F' : fq (mS (fun k _ => k == 81)) h (et_si (et_si h4 81 (2 * w0) (nI v)) 81 (2 * w0 + 1) (nI x)) := fq_s (fq_s (mS_l (fq_t w1 (fq_t w2 (fq_t w3 w4)))) rfl) rfl
        obtain ⟨A, -, L, N, H, W, T, R⟩ := V
        refine lq_a (semi0 (D := D) hn hb8 (by omega) (kC_s u3.1 rfl) (uM_s (uM_s t4 rfl) rfl) ⟨vA_g A F F' (fun j hj => match j, hj with | 0, _ => Or.inl ⟨rfl, rfl, rfl⟩ | 1, _ => Or.inl ⟨rfl, rfl, rfl⟩ | 2, _ => Or.inl ⟨rfl, rfl, rfl⟩ | 3, _ => Or.inl ⟨rfl, rfl, rfl⟩ | 4, _ => Or.inl ⟨rfl, rfl, rfl⟩ | 5, _ => Or.inl ⟨rfl, rfl, rfl⟩ | 6, _ => Or.inl ⟨rfl, rfl, rfl⟩ | 7, _ => Or.inl ⟨rfl, rfl, rfl⟩ | 8, _ => Or.inl ⟨rfl, rfl, rfl⟩ | j + 9, hj => absurd hj (by omega)), B, vL_q F F' (fun _ => rfl) (fun _ => rfl) (fun _ => rfl) (fun _ => rfl) (fun _ => rfl) (fun _ => rfl) rfl rfl rfl L, vN_q F F' (fun _ => rfl) (fun _ => rfl) N, vH_q F F' (fun _ => rfl) (fun _ => rfl) (fun z => ⟨z, rfl⟩) H, fun i hi => ?_, vT_q F F' (fun _ => rfl) (fun _ => rfl) (fun _ => rfl) rfl rfl (fun _ => rfl) (Nat.le_refl (D 28)) (fun z => ⟨rfl, z⟩) rfl b36 T, vR_q F F' (fun _ => rfl) (fun _ => rfl) (fun _ => rfl) rfl (Nat.le_refl (D 32)) R⟩)
        by_cases e : i = 2 * w0 + 1
        · rw [e]; exact ⟨x, r4, si_e, si_e⟩
        · rw [si_j e, si_j e, y3.1 27 i rfl]
          by_cases e' : i = 2 * w0
          · rw [e']; exact ⟨v, p4, si_e, si_e⟩
          · rw [si_j e', si_j e', y2.1 27 i rfl, y1.1 27 i rfl, w4.1 81 i rfl, w3.1 81 i rfl, w2.1 81 i rfl, w1.1 81 i rfl]
            exact W i hi
      · obtain ⟨x5, g3, E5, rfl, c⟩ := num_c0 (m := 1000) hn hb8 cc (by decide) (by rw [hb3]; exact f3)
        obtain ⟨x6, h4, E6, c', -⟩ := num_m0 (lo := 0) (m := 1000) hn t3 (by decide) (by decide) f3
        rw [hb3] at c
        rw [show fn_Re_number (1000 : Int32) (et_si g2 27 (2 * w0) (nI v)) = _ from E5, bd_s, if_pos rfl, show fn_Mo_number (0 : Int32) (1000 : Int32) h3 = _ from E6, bd_s, gd_0 c', bd_s, if_pos rfl]
        unfold fn_Mo_line_462
        rw [l47_0 c']
        exact e2_q (lq_f c c')
    · obtain ⟨x3, g2, E3, rfl, c⟩ := num_c0 (m := 1000) hn hb8 u1.1 (by decide) (by rw [hb2]; exact f2)
      obtain ⟨x4, h3, E4, c', -⟩ := num_m0 (lo := 0) (m := 1000) hn t2 (by decide) (by decide) f2
      rw [hb2] at c
      rw [show fn_Re_number (1000 : Int32) g1 = _ from E3, bd_s, if_pos rfl, show fn_Mo_number (0 : Int32) (1000 : Int32) h2 = _ from E4, bd_s, num_0 c', bd_s, gd_0 c', bd_s, if_pos rfl]
      unfold fn_Mo_line_462
      rw [l47_0 c']
      exact e2_q (lq_f c c')
  · obtain ⟨x1, g1, E1, rfl, c⟩ := num_c0 (m := 4) hn hb8 t.1 (by decide) (by rw [hb1]; exact f1)
    obtain ⟨x2, h2, E2, c', -⟩ := num_m0 (lo := 0) (m := 4) hn t1 (by decide) (by decide) f1
    rw [hb1] at c
    rw [show fn_Re_number (4 : Int32) g = _ from E1, bd_s, if_pos rfl, show fn_Mo_number (0 : Int32) (4 : Int32) h1 = _ from E2, bd_s, num_0 c', bd_s, num_0 c', bd_s, gd_0 c', bd_s, if_pos rfl]
    unfold fn_Mo_line_462
    rw [l47_0 c']
    exact e2_q (lq_f c c')
end LC
