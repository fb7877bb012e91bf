/-! village: endings, changes, the not -/
section LB
variable {S : et_T} {n : Nat} {g0 h0 : et_G} {D : Nat → Nat}
theorem fM_s {f a k j : Nat} {h : et_G} {x : Int32} (t : fM n f a h0 h) (hk : ((Nat.ble 73 k && Nat.ble k 81) || (k == 61 && Nat.ble 28 j && Nat.ble j 36)) = true) : fM n f a h0 (et_si h k j x) := by
  obtain ⟨f0, h18, h19, r⟩ := t
  have hk' : (73 ≤ k ∧ k ≤ 81) ∨ (k = 61 ∧ 28 ≤ j ∧ j ≤ 36) := by
    simp only [Bool.or_eq_true, Bool.and_eq_true, beq_iff_eq, Nat.ble_eq] at hk
    omega
  refine ⟨fq_s f0 ?_, ?_, ?_, r⟩
  · unfold w_mr
    rcases hk' with w | w
    · rw [Nat.ble_eq.mpr w.1, Nat.ble_eq.mpr w.2]; simp
    · rw [w.1, Nat.ble_eq.mpr (show 18 ≤ j by omega), Nat.ble_eq.mpr w.2.2]; rfl
  · rw [si_g, if_neg (by omega)]; exact h18
  · rw [si_g, if_neg (by omega)]; exact h19
theorem r66_0 {f a : Nat} {h : et_G} {x : Int32} (t : fM n f a h0 h) : fn_Mo_readsEnding_66 x h = some ((), h) := by
  unfold fn_Mo_readsEnding_66
  rw [num_0 t, bd_s, w0z_74 t, bd_s]
theorem ln_1 {a : Nat} {g h : et_G} (hn : n ≤ 800) (hb8 : ∀ i, i < 800 → S 71 i < 256) (t : tC S n a g0 g) (t' : uM S n a h0 h) (V : vV D g h) (k1 : tkK S n a = 1) : e2 (fn_Re_endingLine_16 g) (et_bd (fn_Mo_readsEnding h) (fun _ g88 => fn_Mo_line_470 g88)) (lQ S n a g0 h0) := by
  have B := V.2.1
  unfold fn_Re_endingLine_16 fn_Mo_readsEnding
  obtain ⟨x0, h1, E0, t1, w1⟩ := stp_m hn hb8 t' (by omega) (by omega)
  rw [E0, bd_s]
  have ea := (tkE_b (S := S) t.2.2).1
  have eb := bk_b S t.1.2.2.2.2.1
  generalize hb1 : bk S n (tkE S n a) = b1 at t1 eb
  by_cases f1 : nuF S n b1 0 2 = 0
  · obtain ⟨n1, n2, n3, n4⟩ := nuF_0 f1
    obtain ⟨x1, g1, E1, rfl, u1, y1⟩ := num_c1 (m := 2) hn hb8 t.1 (by decide) (by rw [hb1]; exact f1)
    obtain ⟨x2, h2, E2, rfl, t2, w2⟩ := num_m1 (lo := 0) (m := 2) hn hb8 t1 (by decide) f1
    rw [hb1] at u1
    rw [show fn_Re_number (2 : Int32) g = _ from E1, bd_s, if_neg (by decide), u1.2.1.2.2.2.2, show fn_Mo_number (0 : Int32) (2 : Int32) h1 = _ from E2, bd_s, gd_1 t2, bd_s, if_neg (by decide), t2.2.2.2.1.2.1, t2.2.2.2.1.2.2.2.1, t2.2.2.2.1.2.2.2.2.1]
    refine e2_b ?_
    have ea1 := (tkE_b (S := S) u1.2.2).1
    have eb1 := bk_b S u1.1.2.2.2.2.1
    generalize hb2 : bk S n (tkE S n b1) = b2 at t2 eb1
    have k4 := tkK_4 (S := S) n b2
    have eb2' := tkE_b (S := S) (n := n) (a := b2) (by omega)
    by_cases f2 : nuF S n b2 0 4 = 0
    · obtain ⟨p1, p2, p3, p4⟩ := nuF_0 f2
      obtain ⟨x3, g2, E3, rfl, u2, y2⟩ := num_c1 (m := 4) hn hb8 u1.1 (by decide) (by rw [hb2]; exact f2)
      rw [hb2] at u2
      have ea2 := (tkE_b (S := S) u2.2.2).1
      have eb2 := bk_b S u2.1.2.2.2.2.1
      have V2 := vV_s (fq_t y1 y2) (fq_t w1 w2) V
      generalize hb3 : tkV S n b1 = by0 at n4
      generalize hb4 : tkV S n b2 = ho at p4
      have hs : 12 + 5 * by0 + ho < 46 := by omega
      have so : sO (12 + 5 * by0 + ho) = 9 * (5 * by0 + ho) := by unfold sO; rw [if_neg (by omega), if_pos (by omega)]; omega
      have sk : sK (12 + 5 * by0 + ho) = 74 := by unfold sK; rw [if_neg (by omega), if_pos (by omega)]
      obtain ⟨m, j1, j2, j3, j4⟩ := V2.2.2.1.1 (12 + 5 * by0 + ho) hs (Or.inr (Or.inl ⟨by omega, by omega⟩))
      rw [sk, so] at j2
      rw [show fn_Re_number (4 : Int32) g1 = _ from E3, bd_s, if_neg (by decide), u2.2.1.2.2.2.2, hb4]
      refine e2_b ?_
      unfold fn_To_hasEnding_16 fn_To_endingSlot
      rw [bd_s, show (12 : Int32) + (5 : Int32) * nI by0 + nI ho = nI (12 + 5 * by0 + ho) from by rw [show (5 : Int32) = nI 5 from rfl, pk_mul, show (12 : Int32) = nI 12 from rfl, nI_add, nI_add], ib_e _ 46 hs (by decide), ck_t, nI_clamp (by omega), j1]
      have e1 : tkF S n b2 = tkE S n b2 := (tkFE (by omega) (by omega)).1
      rw [p1, e1, if_pos (show nI 2 = (2 : Int32) from rfl), if_neg (show ¬ (3 : Int32) < nI (tkE S n b2 - b2) from nI_nlt (a := 3) p2 (by decide)), if_neg (show ¬ (5 : Int32) ≤ nI ho from nI_ge (b := 5) (by omega) (by decide)), show (9 : Int32) * ((5 : Int32) * nI by0 + nI ho) = nI (9 * (5 * by0 + ho)) from by rw [show (5 : Int32) = nI 5 from rfl, pk_mul, nI_add, show (9 : Int32) = nI 9 from rfl, pk_mul], ib_e _ 135 (by omega) (by decide), ck_t, nI_clamp (by omega), j2]
      by_cases z : m = 0
      · subst z
        rw [if_pos (show nI 0 ≤ (0 : Int32) by decide), if_pos (show nI 0 ≤ (0 : Int32) by decide), bd_s, if_pos rfl, bd_s]
        unfold fn_Mo_readsEnding_66
        obtain ⟨x5, h3, E5, rfl, t3, w3⟩ := num_m1 (lo := 0) (m := 4) hn hb8 t2 (by decide) f2
        rw [show fn_Mo_number (0 : Int32) (4 : Int32) h2 = _ from E5, bd_s, show (9 : Int32) * ((5 : Int32) * nI by0 + nI (tkV S n b2)) = nI (9 * (5 * by0 + ho)) from by rw [hb4, show (5 : Int32) = nI 5 from rfl, pk_mul, nI_add, show (9 : Int32) = nI 9 from rfl, pk_mul]]
        have V3 := vV_s (fq_r w_st g2) w3 V2
        by_cases f3 : leF S n (bk S n (tkE S n b2)) = 0
        · obtain ⟨g3, h4, m', E6, E7, u3, t4, x3, x4, ls, l1, l8, l18, lo, -, -⟩ := le2_74 hn hb8 u2.1 t3 V3.2.2.1.1 (s := 12 + 5 * by0 + ho) hs sk f3
          rw [so] at E7
          have hb5 := bk_b S u3.1.2.2.2.2.1
          have ea5 := (tkE_b (S := S) u3.2.2).1
          rw [E6, E7, bd_s, bd_s, if_neg (by decide)]
          show e2 _ (fn_Mo_line_470 h4) _
          obtain ⟨A, -, L, N, H, W, T, R⟩ := V3
          refine lq_i (semi0 (D := D) hn hb8 (by omega) u3.1 t4 ⟨vA_g A x3 x4 (fun j hj => match j, hj with | 0, _ => Or.inl ⟨rfl, rfl, rfl⟩ | 1, _ => Or.inl ⟨rfl, rfl, rfl⟩ | 2, _ => Or.inl ⟨rfl, rfl, rfl⟩ | 3, _ => Or.inl ⟨rfl, rfl, rfl⟩ | 4, _ => Or.inl ⟨rfl, rfl, rfl⟩ | 5, _ => Or.inl ⟨rfl, rfl, rfl⟩ | 6, _ => Or.inl ⟨rfl, rfl, rfl⟩ | 7, _ => Or.inl ⟨rfl, rfl, rfl⟩ | 8, _ => Or.inl ⟨rfl, rfl, rfl⟩ | j + 9, hj => absurd hj (by omega)), B, ⟨fun s hs p => ls s hs (Or.inl p), ?_⟩, vN_q x3 x4 (fun _ => rfl) (fun _ => rfl) N, vH_q x3 x4 (fun _ => rfl) (fun _ => rfl) (fun z => ⟨z, rfl⟩) H, vW_q x3 x4 (fun _ => rfl) (fun _ => rfl) W, vT_q x3 x4 (fun _ => rfl) (fun _ => rfl) (fun _ => rfl) rfl rfl (fun _ => rfl) (Nat.le_refl _) (fun z => ⟨rfl, z⟩) rfl B.2.2.2.2.2.2.2.2 T, vR_q x3 x4 (fun _ => rfl) (fun _ => rfl) (fun _ => rfl) rfl (Nat.le_refl _) R⟩)
          obtain ⟨m5, y1, y2, y3⟩ := L.2
          exact ⟨m5, y1, by rw [lo 45 (by omega)]; exact y2, y3⟩
        · refine e2_l (le_c0 hn hb8 u2.1 f3) (fun v g' ⟨e, c⟩ => ?_)
          obtain ⟨x6, h', E8, c'⟩ := w00_74 (o := nI (9 * (5 * by0 + ho))) hn f3 t3
          rw [e, if_pos rfl, E8, bd_s, bd_s, l47_0 c']
          exact e2_q (lq_f c c')
      · have nz : ¬ nI m ≤ (0 : Int32) := nI_ge (a := 0) (by omega) (by omega)
        rw [if_neg nz, if_neg nz, bd_s, if_neg (by decide)]
        refine e2_l (ref_c u2 (f := 4) (by decide)) (fun v g' ⟨e, c⟩ => ?_)
        obtain ⟨x6, h', E8, c', -⟩ := fau_m t2 (f := 4) (by decide)
        rw [e, show fn_Mo_faults (4 : Int32) h2 = _ from E8, bd_s, r66_0 c', bd_s, l47_0 c']
        exact e2_q (lq_f c c')
    · obtain ⟨x3, g2, E3, rfl, c⟩ := num_c0 (m := 4) hn hb8 u1.1 (by decide) (by rw [hb2]; exact f2)
      rw [hb2] at c
      rw [show fn_Re_number (4 : Int32) g1 = _ from E3, bd_s, if_pos rfl]
      obtain ⟨x5, h3, E5, c', -⟩ := num_m0 (lo := 0) (m := 4) hn t2 (by decide) (by decide) f2
      have R : e2 (some ((0 : Int32), g2)) (et_bd (fn_Mo_readsEnding_66 (nI (tkV S n b1)) h2) (fun _ g88 => fn_Mo_line_470 g88)) (lQ S n a g0 h0) := by
        unfold fn_Mo_readsEnding_66
        rw [show fn_Mo_number (0 : Int32) (4 : Int32) h2 = _ from E5, bd_s, w0z_74 c', bd_s, bd_s, l47_0 c']
        exact e2_q (lq_f c c')
      by_cases q : tkK S n b2 = 2
      · rw [q, if_pos (show nI 2 = (2 : Int32) from rfl), (tkFE (S := S) (n := n) (a := b2) (by omega) (by omega)).1]
        have v9 := (tx_2 q).2.2.2.2.2
        by_cases z : tkE S n b2 - b2 ≤ 3
        · rw [if_neg (show ¬ (3 : Int32) < nI (tkE S n b2 - b2) from nI_nlt (a := 3) z (by decide))]
          have : 5 ≤ tkV S n b2 := by
            by_cases y : tkV S n b2 ≤ 4
            · exact absurd (by unfold nuF; rw [io_t q, io_t ⟨z, Nat.zero_le _, y⟩]) f2
            · omega
          rw [if_pos (show (5 : Int32) ≤ nI (tkV S n b2) from nI_le (a := 5) this (by omega))]
          exact R
        · rw [if_pos (show (3 : Int32) < nI (tkE S n b2 - b2) from nI_lt (a := 3) (by omega) (by omega))]
          exact R
      · rw [if_neg (nq2 q (by omega))]
        exact R
  · obtain ⟨x1, g1, E1, rfl, c⟩ := num_c0 (m := 2) hn hb8 t.1 (by decide) (by rw [hb1]; exact f1)
    obtain ⟨x2, h2, E2, c', -⟩ := num_m0 (lo := 0) (m := 2) hn t1 (by decide) (by decide) f1
    rw [hb1] at c
    rw [show fn_Re_number (2 : Int32) g = _ from E1, bd_s, if_pos rfl, show fn_Mo_number (0 : Int32) (2 : Int32) h1 = _ from E2, bd_s, gd_0 c', bd_s, if_pos rfl, r66_0 c', bd_s, l47_0 c']
    exact e2_q (lq_f c c')
theorem l120_0 {f a : Nat} {h : et_G} (t : fM n f a h0 h) : ∀ d m q, q + d = 3 → d < m → fn_Mo_line_120 m (nI q) h = some ((), h) := by
  intro d
  induction d with
  | zero =>
    intro m q hq hm
    obtain ⟨m, rfl⟩ : ∃ q, m = q + 1 := ⟨m - 1, by omega⟩
    rw [fn_Mo_line_120, if_pos (show (3 : Int32) ≤ nI q from nI_le (a := 3) (by omega) (by omega))]
    unfold fn_Mo_line_151
    rw [gd_0 t, bd_s, if_pos rfl, l47_0 t]
  | succ d ih =>
    intro m q hq hm
    obtain ⟨m, rfl⟩ : ∃ q, m = q + 1 := ⟨m - 1, by omega⟩
    rw [fn_Mo_line_120, if_neg (show ¬ (3 : Int32) ≤ nI q from nI_ge (b := 3) (by omega) (by decide)), w0z_75 t, bd_s]
    show fn_Mo_line_120 m (nI q + nI 1) h = _
    rw [nI_add]
    exact ih m (q + 1) (by omega) (by omega)
theorem chg {a : Nat} {g h : et_G} (hn : n ≤ 800) (hb8 : ∀ i, i < 800 → S 71 i < 256) (V : vV D g h) (h29 : D 29 < 6) : ∀ d m m' q b (g1 h1 : et_G), q + d = 3 → d < m → d < m' → a ≤ bk S n b → kC S n b g0 g1 → uM S n (bk S n b) h0 h1 → vS (fun x => act D x ∨ (27 + 3 * D 29 ≤ x ∧ x < 27 + 3 * D 29 + q)) g1 h1 → fq (wS (fun k _ => k == 17 || k == 18)) g g1 → fq (mS (fun k _ => k == 75)) h h1 → g1.1 18 45 = g.1 18 45 → e2 (fn_Re_changeLine_16_19 (nI (D 29)) m (nI q) g1) (fn_Mo_line_120 m' (nI q) h1) (lQ S n a g0 h0) := by
  obtain ⟨c28, c29, c30, c31, c32, c33, c35, c36⟩ := vA_c V.1
  obtain ⟨m28, m29, m30, m31, m32, m33, m34, m35, m36⟩ := vA_m V.1
  obtain ⟨A, B, L, N, H, W, T, R⟩ := V
  intro d
  induction d with
  | zero =>
    intro m m' q b g1 h1 hq hm hm' hab c t vs x1 x2 e45
    obtain ⟨m, rfl⟩ : ∃ q, m = q + 1 := ⟨m - 1, by omega⟩
    obtain ⟨m', rfl⟩ : ∃ q, m' = q + 1 := ⟨m' - 1, by omega⟩
    have hq : q = 3 := by omega
    subst hq
    rw [fn_Re_changeLine_16_19, fn_Mo_line_120, if_pos (show (3 : Int32) ≤ nI 3 by decide), if_pos (show (3 : Int32) ≤ nI 3 by decide)]
    unfold fn_Re_changeLine_16_45 fn_Mo_line_151
    rw [gd_1 t, bd_s, if_neg (by decide), show g1.1 16 3 = nI (D 29) from (x1.1 16 3 rfl).trans c29, show h1.1 61 29 = nI (D 29) from (x2.1 61 29 rfl).trans m29, show nI (D 29) + (1 : Int32) = nI (D 29 + 1) from nI_add _ 1]
    have F : fq (wS (fun k j => k == 17 || k == 18 || (k == 16 && j == 3))) g (et_si g1 16 3 (nI (D 29 + 1))) := fq_s (wS_m x1 (fun k j e => (Bool.or_eq_false_iff.mp e).1)) rfl
    have F' : fq (mS (fun k j => k == 75 || (k == 61 && j == 29))) h (et_si h1 61 29 (nI (D 29 + 1))) := fq_s (mS_m x2 (fun k j e => (Bool.or_eq_false_iff.mp e).1)) rfl
    refine e2_b (e2_d (lq_a (semi0 (D := dU D 29 (D 29 + 1)) hn hb8 hab (kC_s c rfl) (uM_s t rfl) ⟨vA_g A F F' (fun j hj => match j, hj with | 0, _ => Or.inl ⟨rfl, rfl, rfl⟩ | 1, _ => Or.inr ⟨si_e, fun z => si_e⟩ | 2, _ => Or.inl ⟨rfl, rfl, rfl⟩ | 3, _ => Or.inl ⟨rfl, rfl, rfl⟩ | 4, _ => Or.inl ⟨rfl, rfl, rfl⟩ | 5, _ => Or.inl ⟨rfl, rfl, rfl⟩ | 6, _ => Or.inl ⟨rfl, rfl, rfl⟩ | 7, _ => Or.inl ⟨rfl, rfl, rfl⟩ | 8, _ => Or.inl ⟨rfl, rfl, rfl⟩ | j + 9, hj => absurd hj (by omega)), ⟨B.1, show D 29 + 1 ≤ 6 by omega, B.2.2⟩, ⟨?_, ?_⟩, vN_q F F' (fun _ => rfl) (fun _ => rfl) N, vH_q F F' (fun _ => rfl) (fun _ => rfl) (fun z => ⟨z, rfl⟩) H, vW_q F F' (fun _ => rfl) (fun _ => rfl) W, vT_q F F' (fun _ => rfl) (fun _ => rfl) (fun _ => rfl) rfl rfl (fun _ => rfl) (Nat.le_refl (D 28)) (fun z => ⟨rfl, z⟩) rfl B.2.2.2.2.2.2.2.2 T, vR_q F F' (fun _ => rfl) (fun _ => rfl) (fun _ => rfl) rfl (Nat.le_refl (D 32)) R⟩)))
    · have ls2 := vS_q (g' := et_si g1 16 3 (nI (D 29 + 1))) (h' := et_si h1 61 29 (nI (D 29 + 1))) (W := fun k j => k == 16 && j == 3) (W' := fun k j => k == 61 && j == 29) (fq_s (fq_r _ _) rfl) (fq_s (fq_r _ _) rfl) (fun _ => rfl) (fun _ => rfl) (fun _ => rfl) (fun _ => rfl) (fun _ => rfl) (fun _ => rfl) vs
      refine fun s hs p => ls2 s hs ?_
      have p : s < D 28 ∨ (12 ≤ s ∧ s < 27) ∨ (27 ≤ s ∧ s < 27 + 3 * (D 29 + 1)) ∨ s = 45 := p
      show (s < D 28 ∨ (12 ≤ s ∧ s < 27) ∨ (27 ≤ s ∧ s < 27 + 3 * D 29) ∨ s = 45) ∨ (27 + 3 * D 29 ≤ s ∧ s < 27 + 3 * D 29 + 3)
      omega
    · obtain ⟨m5, y1, y2, y3⟩ := L.2
      refine ⟨m5, y1, ?_, y3⟩
      rw [si_x (by decide), e45]; exact y2
  | succ d ih =>
    intro m m' q b g1 h1 hq hm hm' hab c t vs x1 x2 e45
    obtain ⟨m, rfl⟩ : ∃ q, m = q + 1 := ⟨m - 1, by omega⟩
    obtain ⟨m', rfl⟩ : ∃ q, m' = q + 1 := ⟨m' - 1, by omega⟩
    rw [fn_Re_changeLine_16_19, fn_Mo_line_120, if_neg (show ¬ (3 : Int32) ≤ nI q from nI_ge (b := 3) (by omega) (by decide)), if_neg (show ¬ (3 : Int32) ≤ nI q from nI_ge (b := 3) (by omega) (by decide))]
    unfold fn_To_changeSlot
    rw [bd_s, show (27 : Int32) + (3 : Int32) * nI (D 29) + nI q = nI (27 + 3 * D 29 + q) from by rw [show (3 : Int32) = nI 3 from rfl, pk_mul, show (27 : Int32) = nI 27 from rfl, nI_add, nI_add], show h1.1 61 29 = nI (D 29) from (x2.1 61 29 rfl).trans m29, show (27 : Int32) * nI (D 29) + (9 : Int32) * nI q = nI (27 * D 29 + 9 * q) from by rw [show (27 : Int32) = nI 27 from rfl, pk_mul, show (9 : Int32) = nI 9 from rfl, pk_mul, nI_add]]
    have hs : 27 + 3 * D 29 + q < 46 := by omega
    have so : sO (27 + 3 * D 29 + q) = 27 * D 29 + 9 * q := by unfold sO; rw [if_neg (by omega), if_neg (by omega), if_pos (by omega)]; omega
    have sk : sK (27 + 3 * D 29 + q) = 75 := by unfold sK; rw [if_neg (by omega), if_neg (by omega), if_pos (by omega)]
    by_cases f : leF S n (bk S n b) = 0
    · obtain ⟨g3, h4, m5, E6, E7, u3, t4, x3, x4, ls, l1, l8, l18, lo, -, -⟩ := le2_75 hn hb8 c t vs (s := 27 + 3 * D 29 + q) hs sk f
      rw [so] at E7
      have hb5 := bk_b S u3.1.2.2.2.2.1
      have ea5 := (tkE_b (S := S) u3.2.2).1
      rw [E6, E7, bd_s, bd_s, if_neg (by decide), show nI q + (1 : Int32) = nI (q + 1) from nI_add _ 1]
      refine e2_b (e2_d (ih m m' (q + 1) _ g3 h4 (by omega) (by omega) (by omega) (by omega) u3.1 t4 (fun s hs p => ls s hs ?_) (fq_t x1 x3) (fq_t x2 x4) (by rw [lo 45 (by omega)]; exact e45)))
      rcases p with p | p
      · exact Or.inl (Or.inl p)
      · by_cases e : s = 27 + 3 * D 29 + q
        · exact Or.inr e
        · exact Or.inl (Or.inr ⟨p.1, by omega⟩)
    · obtain ⟨v, g', E6, rfl, c5⟩ := le_c0 (s := nI (27 + 3 * D 29 + q)) hn hb8 c f
      obtain ⟨x6, h', E8, c'⟩ := w00_75 (o := nI (27 * D 29 + 9 * q)) hn f t
      rw [E6, E8, bd_s, bd_s, if_pos rfl, show nI q + (1 : Int32) = nI (q + 1) from nI_add _ 1]
      refine e2_d ?_
      rw [l120_0 c' d m' (q + 1) (by omega) (by omega)]
      exact e2_q (lq_f c5 c')
theorem ln_2 {a : Nat} {g h : et_G} (hn : n ≤ 800) (hb8 : ∀ i, i < 800 → S 71 i < 256) (t : tC S n a g0 g) (t' : uM S n a h0 h) (V : vV D g h) (k1 : tkK S n a = 1) : e2 (fn_Re_changeLine_16 g) (if (h.1 61 29) = (6 : Int32) then et_bd (fn_Mo_faults (2 : Int32) h) (fun _ g86 => fn_Mo_line_106 g86) else fn_Mo_line_106 h) (lQ S n a g0 h0) := by
  obtain ⟨c28, c29, c30, c31, c32, c33, c35, c36⟩ := vA_c V.1
  obtain ⟨m28, m29, m30, m31, m32, m33, m34, m35, m36⟩ := vA_m V.1
  obtain ⟨b28, b29, b30, b31, b32, b33, b34, b35, b36⟩ := V.2.1
  unfold fn_Re_changeLine_16
  rw [c29, m29]
  refine e2_b ?_
  by_cases q : D 29 = 6
  · rw [if_neg (show ¬ nI (D 29) < (6 : Int32) from nI_nlt (b := 6) (by omega) (by omega)), if_pos (show nI (D 29) = (6 : Int32) from by rw [q]; rfl)]
    refine e2_l (ref_c t (f := 2) (by decide)) (fun v g' ⟨e, c⟩ => ?_)
    refine e2_r (fau_m t' (f := 2) (by decide)) (fun _ h' ⟨c', w⟩ => ?_)
    unfold fn_Mo_line_106
    rw [gd_0 c', bd_s, if_pos rfl, e]
    exact e2_q (lq_f c c')
  · rw [if_pos (show nI (D 29) < (6 : Int32) from nI_lt (b := 6) (by omega) (by decide)), if_neg (show ¬ nI (D 29) = (6 : Int32) from fun w => q ((nI_eq (b := 6) (by omega) (by decide)).mp w))]
    unfold fn_Mo_line_106
    rw [gd_1 t', bd_s, if_neg (by decide)]
    refine e2_r (stp_m hn hb8 t' (by omega) (by omega)) (fun _ h1 ⟨t1, w1⟩ => ?_)
    have V1 := vV_s (fq_r w_st g) w1 V
    have ea := (tkE_b (S := S) t.2.2).1
    have eb := bk_b S t.1.2.2.2.2.1
    exact chg hn hb8 V1 (by omega) 3 1000000 1000000 0 (tkE S n a) g h1 rfl (by omega) (by omega) (by omega) t.1 t1 (fun s hs p => V1.2.2.1.1 s hs (p.elim id (fun z => by omega))) (fq_r _ _) (fq_r _ _) rfl
theorem ln_3 {a : Nat} {g h : et_G} (hn : n ≤ 800) (hb8 : ∀ i, i < 800 → S 71 i < 256) (t : tC S n a g0 g) (t' : uM S n a h0 h) (V : vV D g h) (k1 : tkK S n a = 1) : e2 (fn_Re_notLine_16 g) (if (h.1 61 34) = 0 then fn_Mo_line_191 h else et_bd (fn_Mo_faults (4 : Int32) h) (fun _ g74 => fn_Mo_line_191 g74)) (lQ S n a g0 h0) := by
  obtain ⟨m28, m29, m30, m31, m32, m33, m34, m35, m36⟩ := vA_m V.1
  have B := V.2.1
  obtain ⟨b28, b29, b30, b31, b32, b33, b34, b35, b36⟩ := V.2.1
  obtain ⟨m, v1, v2, v3⟩ := V.2.2.1.2
  unfold fn_Re_notLine_16 fn_To_hasNot_16
  rw [show et_ib (45 : Int32) 46 = true from rfl, ck_t, show (45 : Int32).toNatClampNeg = 45 from rfl, v2, m34]
  by_cases q : D 34 = 0
  · rw [q, if_pos nI_0, v3.mpr q, if_pos (show nI 0 ≤ (0 : Int32) by decide), bd_s, if_pos rfl]
    unfold fn_Mo_line_191
    rw [gd_1 t', bd_s, if_neg (by decide)]
    refine e2_d ?_
    obtain ⟨x0, h1, E0, t1, w1⟩ := stp_m hn hb8 (uM_s (k := 61) (j := 34) (x := 1) t' rfl) (by omega) (by omega)
    rw [E0, bd_s]
    have ea := (tkE_b (S := S) t.2.2).1
    have eb := bk_b S t.1.2.2.2.2.1
    have F1 : fq (mS (fun k j => k == 61 && j == 34)) h h1 := fq_t (fq_s (fq_r _ _) rfl) (mS_l w1)
    have VS : vS (act D) g h1 := vS_q (fq_r w_st g) F1 (fun _ => rfl) (fun _ => rfl) (fun _ => rfl) (fun _ => rfl) (fun _ => rfl) (fun _ => rfl) V.2.2.1.1
    by_cases f : leF S n (bk S n (tkE S n a)) = 0
    · obtain ⟨g3, h4, m5, E6, E7, u3, t4, x3, x4, ls, l1, l8, l18, lo, -, -⟩ := le2_76 hn hb8 t.1 t1 VS (s := 45) (by decide) rfl f
      have hb5 := bk_b S u3.1.2.2.2.2.1
      have ea5 := (tkE_b (S := S) u3.2.2).1
      rw [show fn_Re_letters_16 (45 : Int32) g = _ from E6, show fn_Mo_word0_76 (0 : Int32) h1 = _ from E7, bd_s, bd_s, if_neg (by decide)]
      have F' : fq (mS (fun k j => k == 76 || (k == 61 && j == 34))) h h4 := fq_t (mS_m F1 (fun k j e => (Bool.or_eq_false_iff.mp e).2)) (mS_m x4 (fun k j e => (Bool.or_eq_false_iff.mp e).1))
      obtain ⟨A, -, L, N, H, W, T, R⟩ := V
      refine lq_i (semi0 (D := dU D 34 1) hn hb8 (by omega) u3.1 t4 ⟨vA_g A x3 F' (fun j hj => match j, hj with | 0, _ => Or.inl ⟨rfl, rfl, rfl⟩ | 1, _ => Or.inl ⟨rfl, rfl, rfl⟩ | 2, _ => Or.inl ⟨rfl, rfl, rfl⟩ | 3, _ => Or.inl ⟨rfl, rfl, rfl⟩ | 4, _ => Or.inl ⟨rfl, rfl, rfl⟩ | 5, _ => Or.inl ⟨rfl, rfl, rfl⟩ | 6, _ => Or.inr ⟨?_, fun z => absurd rfl z⟩ | 7, _ => Or.inl ⟨rfl, rfl, rfl⟩ | 8, _ => Or.inl ⟨rfl, rfl, rfl⟩ | j + 9, hj => absurd hj (by omega)), ⟨B.1, B.2.1, B.2.2.1, B.2.2.2.1, B.2.2.2.2.1, B.2.2.2.2.2.1, Nat.le_refl 1, B.2.2.2.2.2.2.2⟩, ⟨fun s hs p => ls s hs (Or.inl p), m5, l8, l18, ?_⟩, vN_q x3 F' (fun _ => rfl) (fun _ => rfl) N, vH_q x3 F' (fun _ => rfl) (fun _ => rfl) (fun z => ⟨z, rfl⟩) H, vW_q x3 F' (fun _ => rfl) (fun _ => rfl) W, vT_q x3 F' (fun _ => rfl) (fun _ => rfl) (fun _ => rfl) rfl rfl (fun _ => rfl) (Nat.le_refl (D 28)) (fun z => ⟨rfl, z⟩) rfl B.2.2.2.2.2.2.2.2 T, vR_q x3 F' (fun _ => rfl) (fun _ => rfl) (fun _ => rfl) rfl (Nat.le_refl (D 32)) R⟩)
      · show h4.1 61 34 = nI 1
        rw [x4.1 61 34 rfl, w1.1 61 34 rfl, si_e]; rfl
      · show m5 = 0 ↔ 1 = 0
        omega
    · obtain ⟨v, g', E6, rfl, c5⟩ := le_c0 (s := 45) hn hb8 t.1 f
      obtain ⟨x6, h', E8, c'⟩ := w00_76 (o := 0) hn f t1
      rw [E6, E8, bd_s, bd_s, if_pos rfl, l47_0 c']
      exact e2_q (lq_f c5 c')
  · rw [if_neg (show ¬ nI (D 34) = 0 from fun w => q ((nI_eq (b := 0) (by omega) (by decide)).mp w)), if_neg (show ¬ nI m ≤ (0 : Int32) from nI_ge (a := 0) (by have := mt v3.mp q; omega) (by omega)), bd_s, if_neg (by decide)]
    refine e2_l (ref_c t (f := 4) (by decide)) (fun v g' ⟨e, c⟩ => ?_)
    refine e2_r (fau_m t' (f := 4) (by decide)) (fun _ h' ⟨c', w⟩ => ?_)
    unfold fn_Mo_line_191
    rw [gd_0 c', bd_s, if_pos rfl, e]
    exact e2_q (lq_f c c')
end LB
