/-! village: whole -/
section VI
variable {S : et_T} {n : Nat} {g h : et_G} {D : Nat → Nat}
theorem vl_g (I : Ij S g) (M : rc_M S h) (hle : n ≤ S 61 17) {g' h' : et_G} {a : Nat} (E1 : fn_Re_read_15 (nI n) (et_si g 0 1 0) = fn_Re_read_15_91 g') (E2 : fn_Mo_village (nI n) h = fn_Mo_village_86 h') (t : tC S n a (et_si g 0 1 0) g') (u : uM S n a (et_si (et_si h 61 0 0) 61 17 0) h') (V : vV D g' h') : vlE S n g h := by
  have T := I.1.1.1
  have wT := I.1.2.2.2.1.1
  have w800 : S 61 17 ≤ 800 := wT.1
  obtain ⟨VA, B, L, N, H, W, TT, R⟩ := V
  obtain ⟨b28, b29, b30, b31, b32, b33, b34, b35, b36⟩ := B
  obtain ⟨c28, c29, c30, c31, c32, c33, c35, c36⟩ := vA_c VA
  obtain ⟨⟨c0, ct, c1, c2, ci, c9, c10, cq, J⟩, -, -⟩ := t
  obtain ⟨x1, ge, E3, w, vp⟩ := fh_c b31 c31
  obtain ⟨h2, E4, fl, ml⟩ := ml_e u VA
  have J2 : Jb (et_si ge 0 14 (-1)) := fun j hj => by rw [si_x (by decide), w.1 17 j rfl]; exact J j hj
  obtain ⟨x2, gf, E5, wf, cf⟩ := cpf J2
  have G : fn_Et_village (nI n) g = some (.inr 0, et_si (et_si (et_si (et_si (et_si (et_si gf 34 0 0) 46 1 0) 46 2 0) 59 3 (-1)) 0 11 0) 48 15 0) := by
    unfold fn_Et_village fn_Et_takeTape
    rw [if_neg (nI_pos (by omega)), T.1, if_pos (nI_le hle (by omega)), eb_eq, bt_r, E1]
    unfold fn_Re_read_15_91
    rw [E3, bd_s, bd_s, eb_eq, w.1 28 9 rfl, w.1 28 10 rfl, c9, c10, if_pos nI_0, E5, bd_s, eb_eq]
    unfold fn_Mi_clear fn_Me_clear fn_Gr_forget
    rw [eb_eq, eb_eq, bd_s, eb_eq, bd_s, eb_eq, eb_eq, bd_s]
  have F0 : fq w_v g ge := fq_t (fq_t (fq_s (fq_r _ _) rfl) (fq_w c0 (fun k j e => by
    cases z : w_rd k j with
    | false => rfl
    | true =>
      unfold w_rd at z
      simp only [Bool.and_eq_true, Nat.ble_eq] at z
      unfold w_v at e
      simp only [Bool.or_eq_false_iff] at e
      have e := e.1.1.1.1.2
      rw [Nat.ble_eq.mpr (show 2 ≤ k by omega), Nat.ble_eq.mpr z.2] at e
      cases e))) (fq_w w (fun k j e => by
    cases z : (k == 21) with
    | false => rfl
    | true => rw [beq_iff_eq.mp z] at e; cases e))
  have F1 : fq w_v g gf := fq_t (fq_s F0 rfl) (fq_w wf (fun k j e => by
    cases z : w_cp k j with
    | false => rfl
    | true =>
      unfold w_cp at z
      simp only [Bool.and_eq_true, Nat.ble_eq] at z
      unfold w_v at e
      simp only [Bool.or_eq_false_iff] at e
      have e := e.1.1.1.1.2
      rw [Nat.ble_eq.mpr z.1, Nat.ble_eq.mpr (show k ≤ 28 by omega)] at e
      cases e))
  obtain ⟨gz, ez⟩ : ∃ gz, gz = et_si (et_si (et_si (et_si (et_si (et_si gf 34 0 0) 46 1 0) 46 2 0) 59 3 (-1)) 0 11 0) 48 15 0 := ⟨_, rfl⟩
  rw [← ez] at G
  have F : fq w_v g gz := by rw [ez]; exact fq_s (fq_s (fq_s (fq_s (fq_s (fq_s F1 rfl) rfl) rfl) rfl) rfl) rfl
  have zq : ∀ k j, k ≠ 0 → k < 34 → gz.1 k j = gf.1 k j := fun k j k0 k1 => by
    rw [ez, si_x (by omega), si_x k0, si_x (by omega), si_x (by omega), si_x (by omega), si_x (by omega)]
  have z0 : ∀ j, j ≠ 11 → gz.1 0 j = gf.1 0 j := fun j hj => by
    rw [ez, si_x (by decide), si_j hj, si_x (by decide), si_x (by decide), si_x (by decide), si_x (by decide)]
  have z11 : gz.1 0 11 = nI 0 := by rw [ez, si_x (by decide), si_e]; rfl
  have z34 : gz.1 34 0 = nI 0 := by rw [ez, si_x (by decide), si_x (by decide), si_x (by decide), si_x (by decide), si_x (by decide), si_e]; rfl
  have z46 : gz.1 46 1 = nI 0 := by rw [ez, si_x (by decide), si_x (by decide), si_x (by decide), si_j (by decide), si_e]; rfl
  have z462 : gz.1 46 2 = nI 0 := by rw [ez, si_x (by decide), si_x (by decide), si_x (by decide), si_e]; rfl
  have z59 : gz.1 59 3 = -1 := by rw [ez, si_x (by decide), si_x (by decide), si_e]
  have z48 : rc_G (sG S D h2) gz := by rw [ez]; exact fg_G
  clear ez
  obtain ⟨⟨d1, d2, d3, d4, d5, d6, d7, d8⟩, k4, k5, k7, k8, k9, k12, k14⟩ := cf
  have ey : ∀ k j, 15 ≤ k → k ≠ 21 → (et_si ge 0 14 (-1)).1 k j = g'.1 k j := fun k j hk h21 => by
    rw [si_x (by omega)]
    exact w.1 k j (beq_eq_false_iff_ne.mpr h21)
  have ey21 : ∀ j, (et_si ge 0 14 (-1)).1 21 j = ge.1 21 j := fun j => si_x (by decide)
  obtain ⟨l1, l62, l63, l64, l65, l66, l67, l68, l70, l69, l50, l67', l68', l65', l69'⟩ := ml
  have F' : fq w_w h h2 := fq_t (fq_t (fq_s (fq_s (fq_r _ _) rfl) rfl) (fq_w u.1 (fun k j e => by
    cases z : w_mr k j with
    | false => rfl
    | true =>
      unfold w_mr at z
      simp only [Bool.or_eq_true, Bool.and_eq_true, beq_iff_eq, Nat.ble_eq] at z
      unfold w_w at e
      simp only [Bool.or_eq_false_iff] at e
      rcases z with z | z
      · have e := e.1.1
        rw [z.1, show ((61 : Nat) == 61) = true from rfl, Nat.ble_eq.mpr (show 17 ≤ j by omega), Nat.ble_eq.mpr z.2.2] at e
        simp at e
      · have e := e.2
        rw [Nat.ble_eq.mpr z.1, Nat.ble_eq.mpr z.2] at e
        cases e))) (fq_w fl (fun k j e => by
    cases z : w_lr k j with
    | false => rfl
    | true =>
      unfold w_lr at z
      unfold w_w at e
      simp only [Bool.or_eq_true, Bool.and_eq_true, beq_iff_eq, Nat.ble_eq] at z
      simp only [Bool.or_eq_false_iff] at e
      rcases z with z | z
      · have e := e.1.1
        rw [z.1, show ((61 : Nat) == 61) = true from rfl, Bool.true_and] at e
        simp only [Bool.or_eq_false_iff, beq_eq_false_iff_ne] at e
        rcases z.2 with ((((y | y) | y) | y) | y) | y
        · have e := e.1.1.1.1.1.1
          rw [Nat.ble_eq.mpr y.2] at e; cases e
        · omega
        · omega
        · omega
        · omega
        · omega
      · have e := e.1.2
        rw [Nat.ble_eq.mpr z.1, Nat.ble_eq.mpr z.2] at e
        cases e))
  have A := sG_ag (S := S) (D := D) (h := h2)
  have s1 : sG S D h2 61 1 = D 28 := sG_c (by decide) (by decide)
  have s2 : sG S D h2 61 2 = D 29 := sG_c (by decide) (by decide)
  have s3 : sG S D h2 61 3 = D 30 := sG_c (by decide) (by decide)
  have s4 : sG S D h2 61 4 = D 31 := sG_c (by decide) (by decide)
  have s5 : sG S D h2 61 5 = D 32 := sG_c (by decide) (by decide)
  have s6 : sG S D h2 61 6 = D 33 := sG_c (by decide) (by decide)
  have s17 : sG S D h2 61 17 = 0 := sG_z (by decide)
  have s19 : sG S D h2 61 19 = 0 := sG_z (by decide)
  have s50 : sG S D h2 61 50 = 0 := sG_z (by decide)
  have s65 : sG S D h2 61 65 = 0 := sG_z (by decide)
  have s67 : sG S D h2 61 67 = 0 := sG_z (by decide)
  have s68 : sG S D h2 61 68 = 0 := sG_z (by decide)
  have s69 : sG S D h2 61 69 = 0 := sG_z (by decide)
  have rr : ∀ k, 62 ≤ k → k ≤ 70 → sG S D h2 k = fun j => (h2.1 k j).toBitVec.toNat := fun k r1 r2 => funext fun j => sG_r r1 r2
  have rn : ∀ k j, 62 ≤ k → k ≤ 70 → h2.1 k j = nI (sG S D h2 k j) := fun k j r1 r2 => by rw [sG_r r1 r2]; exact nI_x _
  have rv : ∀ k j m, 62 ≤ k → k ≤ 70 → m < 2 ^ 32 → h2.1 k j = nI m → sG S D h2 k j = m := fun k j m r1 r2 hm e => by rw [sG_r r1 r2]; exact tn_e e hm
  have hL : ∀ i, i < 368 → gz.1 4 i = g'.1 17 i := fun i hi => by rw [zq 4 i (by decide) (by decide), k4 i hi, ey 17 i (by decide) (by decide)]
  have hl : ∀ i, i < 46 → gz.1 5 i = g'.1 18 i := fun i hi => by rw [zq 5 i (by decide) (by decide), k5 i hi, ey 18 i (by decide) (by decide)]
  have hh : ∀ i, i < 144 → g'.1 21 i = h'.1 80 i := fun i hi => by
    rcases H i hi with z | ⟨-, m, -, z1, z2⟩
    · rw [z.1, z.2]
    · rw [z1, z2]
  have h80 : ∀ i, i < 144 → h'.1 80 i = -1 ∨ ∃ x, x < D 30 ∧ h'.1 80 i = nI x := fun i hi => by
    rcases H i hi with z | ⟨-, m, z0, z1, z2⟩
    · exact Or.inl z.2
    · exact Or.inr ⟨m, z0, z2⟩
  have slt : ∀ s, s < 46 → act D s → ∃ m, slJ (g'.1 17) (g'.1 18) (h'.1 (sK s)) s (sO s) m := L.1
  have th : ∀ i, i < D 32 → thJ D g' h' i := TT.2.1
  refine ⟨0, gz, h2, G, E2.trans E4, ?_, fq_w F (fun k j e => ?_), fun j hj => ?_, w_M_of F' (fun k j e => ?_), sG S D h2, ⟨⟨?_, fun i hi => ?_⟩, ⟨?_, ?_, fun s hs => ?_, fun e he => ?_, fun c hc q hq => ?_, ?_⟩, ⟨?_, ?_, ?_, ?_, fun i hi => ?_, fun i hi => ?_, fun i hi => ⟨?_, ?_, ?_, ?_, ?_⟩, fun r hr => ⟨?_, fun x => ?_⟩, fun _ i hi => ?_⟩, ⟨?_, fun i hi => ?_⟩, ⟨?_, fun z => ?_⟩, ⟨?_, ?_⟩, ?_, ⟨?_, fun i hi => ?_⟩, ?_, ?_, ?_, ?_⟩, z48, ?_, ⟨⟨?_, fun i hi => ?_⟩, ⟨?_, ?_, ?_, ?_, ?_, ?_, ?_, fun i hi => ⟨?_, ?_, ?_, ?_, ?_⟩, fun r hr => ⟨?_, ?_, fun k hk => ?_⟩, fun i hi => ?_, fun i hi => ?_, fun i hi => ?_⟩, ⟨?_, fun i hi => ?_⟩, ⟨?_, ?_, ?_⟩, ⟨?_, fun z => ?_⟩, ?_, ?_⟩, ⟨⟨?_, ?_, ?_, ?_⟩, fun z => ?_⟩⟩
  · rw [fl.1 61 0 rfl, u.1.1 61 0 rfl, si_j (by decide), si_e]
  · cases z : w_v k j with
    | false => rfl
    | true =>
      unfold w_v at z
      simp only [Bool.or_eq_true, Bool.and_eq_true, beq_iff_eq, Nat.ble_eq] at z
      unfold w_V at e
      rw [Nat.ble_eq.mpr (show k ≤ 60 by omega)] at e
      cases e
  · rw [zq 17 j (by decide) (by decide), wf.1 17 j rfl]; exact J2 j hj
  · unfold w_w at e
    simp only [Bool.or_eq_true, Bool.and_eq_true, beq_iff_eq, Nat.ble_eq] at e
    omega
  · rw [s17, z0 1 (by decide), wf.1 0 1 rfl, si_j (by decide), w.1 0 1 rfl, c0.1 0 1 rfl, si_e]; rfl
  · rw [F.1 1 i rfl, A 71 i rfl]; exact T.2 i hi
  · rw [s1, zq 3 2 (by decide) (by decide), d1, ey 16 2 (by decide) (by decide)]; exact c28
  · rw [s2, zq 3 3 (by decide) (by decide), d2, ey 16 3 (by decide) (by decide)]; exact c29
  · rw [s1] at hs
    obtain ⟨m, j⟩ := slt s (by omega) (Or.inl hs)
    have sk := sKO s (by omega)
    rw [show sK s = 73 by omega, show sO s = 9 * s by omega] at j
    rw [rr 62 (by decide) (by decide)]
    exact slR_of j hL hl l62 (by omega) (by omega)
  · obtain ⟨m, j⟩ := slt (12 + e) (by omega) (Or.inr (Or.inl ⟨by omega, by omega⟩))
    have sk := sKO (12 + e) (by omega)
    rw [show sK (12 + e) = 74 by omega, show sO (12 + e) = 9 * e by omega] at j
    rw [rr 63 (by decide) (by decide)]
    exact slR_of j hL hl l63 (by omega) (by omega)
  · rw [s2] at hc
    obtain ⟨m, j⟩ := slt (27 + 3 * c + q) (by omega) (Or.inr (Or.inr (Or.inl ⟨by omega, by omega⟩)))
    have sk := sKO (27 + 3 * c + q) (by omega)
    rw [show sK (27 + 3 * c + q) = 75 by omega, show sO (27 + 3 * c + q) = 27 * c + 9 * q by omega] at j
    rw [rr 64 (by decide) (by decide)]
    exact slR_of j hL hl l64 (by omega) (by omega)
  · obtain ⟨m, j⟩ := slt 45 (by decide) (Or.inr (Or.inr (Or.inr rfl)))
    rw [rr 65 (by decide) (by decide)]
    exact slR_of j hL hl l65 (by decide) (by decide)
  · rw [s3, zq 2 1 (by decide) (by decide), d3, ey 15 1 (by decide) (by decide)]; exact c30
  · rw [s4, zq 2 3 (by decide) (by decide), d4, ey 15 3 (by decide) (by decide)]; exact c31
  · rw [s5, zq 2 5 (by decide) (by decide), d5, ey 15 5 (by decide) (by decide)]; exact c32
  · rw [s6, zq 2 11 (by decide) (by decide), d6, ey 15 11 (by decide) (by decide)]; exact c33
  · obtain ⟨m, m1, m2, m3⟩ := N i hi
    rw [zq 7 i (by decide) (by decide), k7 i hi, ey 20 i (by decide) (by decide), m2, ← rn 68 i (by decide) (by decide), l68 i hi, m3]
  · rw [s4] at hi
    have hp : i / 24 < D 31 := by omega
    have hi2 : i = 24 * (i / 24) + i % 24 := by omega
    rw [zq 8 i (by decide) (by decide), k8 i (by omega), ey21, ← rn 69 i (by decide) (by decide), hi2, vp _ hp _ (by omega), l69 _ (by omega) _ (by omega)]
    exact pl_c (by omega) hh _ (by omega)
  · rw [s5] at hi
    obtain ⟨s, p, q, l, v, e1, e2, e3, e4, e5, e6, e7, e8, e9⟩ := th i hi
    rw [zq 9 i (by decide) (by decide), (k9 i (by omega)).1, ey 22 i (by decide) (by decide), e6.1, ← rn 66 _ (by decide) (by decide), l66 _ (by omega), e7.1]
  · rw [s5] at hi
    obtain ⟨s, p, q, l, v, e1, e2, e3, e4, e5, e6, e7, e8, e9⟩ := th i hi
    rw [zq 10 i (by decide) (by decide), (k9 i (by omega)).2.1, ey 23 i (by decide) (by decide), e6.2.1, ← rn 66 _ (by decide) (by decide), l66 _ (by omega), e7.2.1]
  · rw [s5] at hi
    obtain ⟨s, p, q, l, v, e1, e2, e3, e4, e5, e6, e7, e8, e9⟩ := th i hi
    rw [zq 11 i (by decide) (by decide), (k9 i (by omega)).2.2, ey 24 i (by decide) (by decide), e6.2.2, ← rn 66 _ (by decide) (by decide), l66 _ (by omega), e7.2.2.1]
  · rw [s5] at hi
    obtain ⟨s, p, q, l, v, e1, e2, e3, e4, e5, e6, e7, e8, e9⟩ := th i hi
    rw [zq 2 9 (by decide) (by decide), d7, ey 15 9 (by decide) (by decide), e8, rv 66 _ l (by decide) (by decide) (by omega) ((l66 _ (by omega)).trans e7.2.2.2.1)]
  · rw [s5] at hi
    obtain ⟨s, p, q, l, v, e1, e2, e3, e4, e5, e6, e7, e8, e9⟩ := th i hi
    rw [zq 2 10 (by decide) (by decide), d8, ey 15 10 (by decide) (by decide), e9, rv 66 _ v (by decide) (by decide) (by omega) ((l66 _ (by omega)).trans e7.2.2.2.2)]
  · rw [s6] at hr
    obtain ⟨m, v, e1, e2, e3, e4, e5, e6, e7⟩ := R r hr
    rw [zq 12 r (by decide) (by decide), (k12 r (by omega)).1, ey 25 r (by decide) (by decide), e6, ← rn 67 _ (by decide) (by decide), l67 _ (by omega)]
    exact (e5 0 (by omega)).symm
  · rw [s6] at hr
    obtain ⟨m, v, e1, e2, e3, e4, e5, e6, e7⟩ := R r hr
    rw [zq 13 r (by decide) (by decide), (k12 r (by omega)).2, ey 26 r (by decide) (by decide), e7 x, rv 67 (5 * r) m (by decide) (by decide) (by omega) ((l67 _ (by omega)).trans e4)]
    have vv : ∀ k, k < m → sG S D h2 67 (5 * r + 1 + k) = v k := fun k hk => rv 67 _ (v k) (by decide) (by decide) (by have := e3 k hk; omega) ((l67 _ (by omega)).trans (e5 k hk))
    exact ⟨fun ⟨k, y1, y2, y3⟩ => ⟨k, y1, y2, by rw [vv k y2]; exact y3⟩, fun ⟨k, y1, y2, y3⟩ => ⟨k, y1, y2, by rw [vv k y2] at y3; exact y3⟩⟩
  · obtain ⟨m, m1, m2, m3⟩ := W i hi
    rw [zq 14 i (by decide) (by decide), k14 i hi, ey 27 i (by decide) (by decide), m2, ← rn 70 i (by decide) (by decide), l70 i hi, m3]
  · rw [s50]; exact z34
  · rw [s50] at hi; exact absurd hi (Nat.not_lt_zero _)
  · rw [s69]; exact z11
  · rw [s69] at z; cases z
  · rw [s67]; exact z46
  · rw [s68]; exact z462
  · have h6 := I.1.1.2.2.2.2.2.2.1
    exact (rc_ways_q F A ⟨rfl, fun _ => rfl⟩ ⟨rfl, fun _ => rfl⟩ h6)
  · rw [s65, z59]; rfl
  · rw [s65] at hi; exact absurd hi (Nat.not_lt_zero _)
  · rw [s19, z0 14 (by decide), wf.1 0 14 rfl, si_e]; rfl
  · rw [F.1 0 15 rfl, A 72 0 rfl]; exact I.1.1.2.2.2.2.2.2.2.2.2.1
  · rw [F.1 0 16 rfl, A 72 1 rfl]; exact I.1.1.2.2.2.2.2.2.2.2.2.2.1
  · rw [F.1 0 17 rfl, A 72 2 rfl]; exact I.1.1.2.2.2.2.2.2.2.2.2.2.2
  · refine rc_M_n F' A (fun k j m z => ?_) M (fun k j m z => ?_) (fun _ => ?_) (fun _ => ?_)
    · cases y : v_v k j with
      | false => rfl
      | true =>
        unfold v_v at y
        simp only [Bool.or_eq_true, Bool.and_eq_true, beq_iff_eq, Nat.ble_eq] at y
        unfold w_w at z
        simp only [Bool.or_eq_false_iff] at z
        rcases y with y | y
        · have z := z.1.1
          rw [y.1, show ((61 : Nat) == 61) = true from rfl, Bool.true_and] at z
          simp only [Bool.or_eq_false_iff, beq_eq_false_iff_ne] at z
          rcases y.2 with ((((((y | y) | y) | y) | y) | y) | y) | y
          · have z := z.1.1.1.1.1.1
            rw [Nat.ble_eq.mpr y.2] at z; cases z
          · have z := z.1.1.1.1.1.2
            rw [y] at z; cases z
          · have z := z.1.1.1.1.1.2
            rw [y] at z; cases z
          · omega
          · omega
          · omega
          · omega
          · omega
        · have z := z.1.2
          rw [Nat.ble_eq.mpr y.1, Nat.ble_eq.mpr y.2] at z; cases z
    · have mm := m
      have m := mq_c (show mq k j = true by unfold mq; rw [m]; rfl)
      unfold w_w at z
      simp only [Bool.or_eq_true, Bool.and_eq_true, beq_iff_eq, Nat.ble_eq] at z
      by_cases e1 : 62 ≤ k
      · exact rn k j e1 (by omega)
      · have e2 : k = 61 := by omega
        subst e2
        by_cases e3 : 1 ≤ j ∧ j ≤ 6
        · rw [sG_c e3.1 e3.2]; exact l1 j e3.1 e3.2
        · have e4 : (j = 17 ∨ j = 50 ∨ j = 67 ∨ j = 68 ∨ j = 69) ∨ (j = 19 ∨ j = 65) := by omega
          rcases e4 with (e | e | e | e | e) | (e | e) <;> subst e
          · rw [s17, fl.1 61 17 rfl, u.1.1 61 17 rfl, si_e]; rfl
          · rw [s50]; exact l50
          · rw [s67]; exact l67'
          · rw [s68]; exact l68'
          · rw [s69]; exact l69'
          · cases mm
          · cases mm
    · rw [s19, fl.1 61 19 rfl, u.2.2.2.2.2.2]; rfl
    · rw [s65, l65']; rfl
  · rw [s17]; exact Nat.zero_le _
  · rw [A 71 i rfl]; exact wT.2 i hi
  · rw [s1]; exact b28
  · rw [s2]; exact b29
  · rw [s3]; exact b30.1
  · rw [s3]; exact b30.2
  · rw [s4]; exact b31
  · rw [s5]; exact b32
  · rw [s6]; exact b33
  · rw [s5] at hi
    obtain ⟨s, p, q, l, v, e1, e2, e3, e4, e5, e6, e7, e8, e9⟩ := th i hi
    rw [rv 66 _ s (by decide) (by decide) (by omega) ((l66 _ (by omega)).trans e7.1), s1]; exact e1
  · rw [s5] at hi
    obtain ⟨s, p, q, l, v, e1, e2, e3, e4, e5, e6, e7, e8, e9⟩ := th i hi
    rw [rv 66 _ p (by decide) (by decide) (by omega) ((l66 _ (by omega)).trans e7.2.1), s3]; exact e2
  · rw [s5] at hi
    obtain ⟨s, p, q, l, v, e1, e2, e3, e4, e5, e6, e7, e8, e9⟩ := th i hi
    rw [rv 66 _ q (by decide) (by decide) (by omega) ((l66 _ (by omega)).trans e7.2.2.1)]; exact e3
  · rw [s5] at hi
    obtain ⟨s, p, q, l, v, e1, e2, e3, e4, e5, e6, e7, e8, e9⟩ := th i hi
    rw [rv 66 _ l (by decide) (by decide) (by omega) ((l66 _ (by omega)).trans e7.2.2.2.1)]; exact e4
  · rw [s5] at hi
    obtain ⟨s, p, q, l, v, e1, e2, e3, e4, e5, e6, e7, e8, e9⟩ := th i hi
    rw [rv 66 _ v (by decide) (by decide) (by omega) ((l66 _ (by omega)).trans e7.2.2.2.2)]; exact e5
  · rw [s6] at hr
    obtain ⟨m, v, e1, e2, e3, e4, e5, e6, e7⟩ := R r hr
    rw [rv 67 (5 * r) m (by decide) (by decide) (by omega) ((l67 _ (by omega)).trans e4)]; exact e1
  · rw [s6] at hr
    obtain ⟨m, v, e1, e2, e3, e4, e5, e6, e7⟩ := R r hr
    rw [rv 67 (5 * r) m (by decide) (by decide) (by omega) ((l67 _ (by omega)).trans e4)]; exact e2
  · rw [s6] at hr
    obtain ⟨m, v, e1, e2, e3, e4, e5, e6, e7⟩ := R r hr
    rw [rv 67 (5 * r) m (by decide) (by decide) (by omega) ((l67 _ (by omega)).trans e4)] at hk
    have := e3 k hk
    rw [rv 67 _ (v k) (by decide) (by decide) (by omega) ((l67 _ (by omega)).trans (e5 k hk)), s5]; exact this
  · have hi2 : i = 24 * (i / 24) + i % 24 := by omega
    obtain ⟨x, y1, y2⟩ := pl_b (p := i / 24) (by omega) b30.1 h80 (i % 24 + 1) (by omega)
    have y3 := l69 (i / 24) (by omega) (i % 24) (by omega)
    rw [← hi2, y2] at y3
    rw [rv 69 i x (by decide) (by decide) (by omega) y3, s3]; exact y1
  · obtain ⟨m, m1, m2, m3⟩ := N i hi
    rw [rv 68 i m (by decide) (by decide) (by omega) ((l68 i hi).trans m3)]; exact m1
  · obtain ⟨m, m1, m2, m3⟩ := W i hi
    rw [rv 70 i m (by decide) (by decide) (by omega) ((l70 i hi).trans m3)]; exact m1
  · rw [s50]; exact Nat.zero_le _
  · rw [s50] at hi; exact absurd hi (Nat.not_lt_zero _)
  · rw [s67]; exact Nat.two_pow_pos _
  · rw [s68]; decide
  · rw [s67, s68]
  · rw [s69]; exact Nat.zero_le _
  · rw [s69] at z; cases z
  · have f5 := I.1.2.2.2.1.2.2.2.2.2.1
    exact (wf_ways_q A ⟨rfl, fun _ => rfl⟩ f5)
  · show sG S D h2 61 65 ≤ 13
    rw [s65]; exact Nat.zero_le _
  · rw [s67]; exact Nat.two_pow_pos _
  · rw [s68]; decide
  · rw [s67]; decide
  · rw [s67, s68]
  · rw [s69] at z; cases z
theorem vl_e (I : Ij S g) (M : rc_M S h) (hle : n ≤ S 61 17) : vlE S n g h := by
  obtain ⟨g', h', E1, E2, R⟩ := vl_b I M hle
  rcases R with ⟨D, a, t, u, V⟩ | ⟨f, a, c, d⟩
  · exact vl_g I M hle E1 E2 t u V
  · exact vl_f I M hle E1 E2 c d
theorem ok_village (S : et_T) (g : et_G) (I : Ij S g) (p : Int32) : okW 1 S g (fn_Et_village p g) (fn_Mo_village p) := by
  have T := I.1.1.1
  have wT := I.1.2.2.2.1.1
  have w800 : S 61 17 ≤ 800 := wT.1
  by_cases hv : iN p (S 61 17 + 1)
  · obtain ⟨n, hn, rfl⟩ := iN_e hv (by omega)
    obtain ⟨x, g', h', A1, A2, A3, A4, A5, A6, -⟩ := vl_e I I.1.2.2.1 (n := n) (by omega)
    refine ⟨.inr x, fun S' => rc_C S' g' ∧ rc_G S' g' ∧ wf_S S' ∧ wf_4 S', ⟨_, g', A1, rfl, fun S' f => ⟨f.1, f.2.1⟩, A4, A5⟩, fun g1 M => ?_, fun S' f => f.2.2, fun k e => by cases e⟩
    obtain ⟨x', g2, h2, B1, B2, B3, B4, B5, B6, S', C1, C2, C3, C4, C5⟩ := vl_e I M (n := n) (by omega)
    rw [A1] at B1
    have e : (Sum.inr x, g') = ((Sum.inr x' : et_oc), g2) := Option.some.inj B1
    have e1 : (Sum.inr x : et_oc) = Sum.inr x' := congrArg Prod.fst e
    have e2 : g' = g2 := congrArg Prod.snd e
    cases e1
    subst e2
    exact ⟨x, h2, B2, rfl, B3, B6, S', ⟨C1, C2, C4, C5⟩, C3⟩
  · have hlt : ¬ p < 0 → nI (S 61 17) < p := fun h1 => Int32.lt_of_lt_of_le (nI_lt (Nat.lt_succ_self _) (by omega)) (Classical.byContradiction fun h => hv ⟨h1, h⟩)
    refine ⟨.inl 1, fun S' => S' = S, ⟨.inl 1, g, ?_, rfl, fun S' e => by rw [e]; exact ⟨I.1.1, I.1.2.1⟩, fq_r _ _, I.2⟩, fun g1 M => ?_, fun S' e => by rw [e]; exact ⟨I.1.2.2.2.1, I.1.2.2.2.2⟩, fun k e => by cases e; rfl⟩
    · unfold fn_Et_village fn_Et_takeTape
      by_cases h1 : p < 0
      · rw [if_pos h1, bt_l]
      · rw [if_neg h1, T.1, if_neg (fun z => Int32.lt_irrefl (Int32.lt_of_lt_of_le (hlt h1) z)), bt_l]
    · unfold fn_Mo_village
      refine eb_q ?_
      have M0 := t0_m M 0
      have e : fn_Mo_village_22 p (et_si g1 61 0 0) = some (0, et_si (et_si g1 61 0 0) 61 0 1) := by
        unfold fn_Mo_village_22 fn_Mo_village_23
        rw [ri_n si_e 1 (by decide), bd_s, if_pos rfl]
      have K : ev_Q (some ((0 : Int32), et_si (et_si g1 61 0 0) 61 0 1)) (fun a g' => a = va_o (.inl 1) ∧ g'.1 61 0 = th_o (.inl 1) ∧ fq w_M g1 g' ∧ ∃ S', S' = S ∧ rc_M S' g') := ev_w (okM_t (g' := g) M) (fun a g' ⟨k1, k2, k3, k4⟩ => ⟨k1, k2, k4, S, rfl, k3⟩)
      by_cases h1 : p < 0
      · rw [if_pos h1, e]; exact K
      · rw [if_neg h1, M0.1 61 17 rfl, if_pos (hlt h1), e]; exact K
end VI
