/-! village: thing -/
def xc (t k j : Nat) : Bool := (k == 28 && j == 8) || ((k == 22 || k == 23 || k == 24) && j == t) || (k == 15 && (j == 5 || j == 9 || j == 10))
def xm (t k j : Nat) : Bool := (k == 61 && (j == 32 || j == 36)) || (k == 77 && (Nat.ble (5 * t) j && Nat.ble j (5 * t + 4)))
def yT (gs hs : et_G) (t s p q l v : Nat) (g h : et_G) : Prop := fq (wS (xc t)) gs g ∧ fq (mS (xm t)) hs h ∧ (g.1 22 t = nI s ∧ g.1 23 t = nI p ∧ g.1 24 t = nI q) ∧ (h.1 77 (5 * t) = nI s ∧ h.1 77 (5 * t + 1) = nI p ∧ h.1 77 (5 * t + 2) = nI q) ∧ g.1 15 5 = nI (t + 1) ∧ g.1 28 8 = nI 1 ∧ h.1 61 36 = nI 1 ∧ h.1 61 32 = nI t ∧ (∀ u, bt (g.1 15 9) u = true ↔ (bt (gs.1 15 9) u = true ∨ (u = t ∧ l = 1))) ∧ (∀ u, bt (g.1 15 10) u = true ↔ (bt (gs.1 15 10) u = true ∨ (u = t ∧ v = 1)))
section LE
variable {S : et_T} {n : Nat} {g0 h0 : et_G} {D : Nat → Nat} {gs hs : et_G}
theorem yT_s {t s p q l v : Nat} {g g' h h' : et_G} (f : fq w_st g g') (f' : fq w_ms h h') (Y : yT gs hs t s p q l v g h) : yT gs hs t s p q l v g' h' := by
  obtain ⟨a1, a2, ⟨b1, b2, b3⟩, ⟨c1, c2, c3⟩, d1, d2, d3, d4, d5, d6⟩ := Y
  refine ⟨fq_t a1 (wS_l f), fq_t a2 (mS_l f'), ⟨?_, ?_, ?_⟩, ⟨?_, ?_, ?_⟩, ?_, ?_, ?_, ?_, ?_, ?_⟩
  · rw [f.1 22 t rfl]; exact b1
  · rw [f.1 23 t rfl]; exact b2
  · rw [f.1 24 t rfl]; exact b3
  · rw [f'.1 77 _ rfl]; exact c1
  · rw [f'.1 77 _ rfl]; exact c2
  · rw [f'.1 77 _ rfl]; exact c3
  · rw [f.1 15 5 rfl]; exact d1
  · rw [f.1 28 8 rfl]; exact d2
  · rw [f'.1 61 36 rfl]; exact d3
  · rw [f'.1 61 32 rfl]; exact d4
  · rw [f.1 15 9 rfl]; exact d5
  · rw [f.1 15 10 rfl]; exact d6
theorem xm_w {t j : Nat} (h1 : 5 * t ≤ j) (h2 : j ≤ 5 * t + 4) : mS (xm t) 77 j = true := by
  show (w_ms 77 j || (false || (true && (Nat.ble (5 * t) j && Nat.ble j (5 * t + 4))))) = true
  rw [Nat.ble_eq.mpr h1, Nat.ble_eq.mpr h2]
  simp
theorem xc_w {t k : Nat} (hk : k = 22 ∨ k = 23 ∨ k = 24) : wS (xc t) k t = true := by
  unfold wS xc
  rcases hk with rfl | rfl | rfl <;> simp
theorem yT_w {t s p q l v j : Nat} {g h : et_G} {x : Int32} (hj : j = 5 * t + 3 ∨ j = 5 * t + 4) (Y : yT gs hs t s p q l v g h) : yT gs hs t s p q l v g (et_si h 77 j x) := by
  obtain ⟨a1, a2, b, ⟨c1, c2, c3⟩, d1, d2, d3, d4, d5⟩ := Y
  refine ⟨a1, fq_s a2 (xm_w (by omega) (by omega)), b, ⟨?_, ?_, ?_⟩, d1, d2, ?_, ?_, d5⟩
  · rw [si_j (by omega)]; exact c1
  · rw [si_j (by omega)]; exact c2
  · rw [si_j (by omega)]; exact c3
  · rw [si_x (by decide)]; exact d3
  · rw [si_x (by decide)]; exact d4
theorem bt_sl' {t : Nat} (ht : t < 31) (x : Int32) (u : Nat) : bt (x ||| ((1 : Int32) <<< (nI t &&& (31 : Int32)))) u = true ↔ (bt x u = true ∨ u = t) := by
  rw [bt_or, show (1 : Int32) <<< (nI t &&& (31 : Int32)) = nI 1 <<< (nI t &&& nI 31) from rfl, bt_sl ht, Bool.or_eq_true, decide_eq_true_eq]
theorem yT_l {t s p q v : Nat} {g h : et_G} (ht : t < 31) (Y : yT gs hs t s p q 0 v g h) : yT gs hs t s p q 1 v (et_si g 15 9 ((g.1 15 9) ||| ((1 : Int32) <<< (nI t &&& (31 : Int32))))) h := by
  obtain ⟨a1, a2, ⟨b1, b2, b3⟩, c, d1, d2, d3, d4, d5, d6⟩ := Y
  refine ⟨fq_s a1 rfl, a2, ⟨?_, ?_, ?_⟩, c, ?_, ?_, d3, d4, fun u => ?_, ?_⟩
  · rw [si_x (by decide)]; exact b1
  · rw [si_x (by decide)]; exact b2
  · rw [si_x (by decide)]; exact b3
  · rw [si_j (by decide)]; exact d1
  · rw [si_x (by decide)]; exact d2
  · rw [si_e, bt_sl' ht, d5 u]
    constructor
    · intro z
      rcases z with (z | z) | z
      · exact Or.inl z
      · cases z.2
      · exact Or.inr ⟨z, rfl⟩
    · intro z
      rcases z with z | z
      · exact Or.inl (Or.inl z)
      · exact Or.inr z.1
  · intro u; rw [si_j (by decide)]; exact d6 u
theorem yT_n {t s p q l : Nat} {g h : et_G} (ht : t < 31) (Y : yT gs hs t s p q l 0 g h) : yT gs hs t s p q l 1 (et_si g 15 10 ((g.1 15 10) ||| ((1 : Int32) <<< (nI t &&& (31 : Int32))))) h := by
  obtain ⟨a1, a2, ⟨b1, b2, b3⟩, c, d1, d2, d3, d4, d5, d6⟩ := Y
  refine ⟨fq_s a1 rfl, a2, ⟨?_, ?_, ?_⟩, c, ?_, ?_, d3, d4, ?_, fun u => ?_⟩
  · rw [si_x (by decide)]; exact b1
  · rw [si_x (by decide)]; exact b2
  · rw [si_x (by decide)]; exact b3
  · rw [si_j (by decide)]; exact d1
  · rw [si_x (by decide)]; exact d2
  · intro u; rw [si_j (by decide)]; exact d5 u
  · rw [si_e, bt_sl' ht, d6 u]
    constructor
    · intro z
      rcases z with (z | z) | z
      · exact Or.inl z
      · cases z.2
      · exact Or.inr ⟨z, rfl⟩
    · intro z
      rcases z with z | z
      · exact Or.inl (Or.inl z)
      · exact Or.inr z.1
theorem yT_V {t s p q l v : Nat} {g h : et_G} (V : vV D gs hs) (ht : t = D 32) (h8 : t < 8) (b1 : s < D 28) (b2 : p < D 30) (b3 : q < 24) (b4 : l ≤ 1) (b5 : v ≤ 1) (Y : yT gs hs t s p q l v g h) (e3 : h.1 77 (5 * t + 3) = nI l) (e4 : h.1 77 (5 * t + 4) = nI v) : vV (dU (dU D 32 (t + 1)) 36 1) g (et_si h 61 32 (nI (t + 1))) := by
  obtain ⟨A, B, L, N, H, W, T, R⟩ := V
  obtain ⟨F, F1, d1, d2, d3, d4, d5, d6, d7, d8⟩ := Y
  have F' : fq (mS (xm t)) hs (et_si h 61 32 (nI (t + 1))) := fq_s F1 rfl
  refine ⟨vA_g A F F' (fun j hj => match j, hj with | 0, _ => Or.inl ⟨rfl, rfl, rfl⟩ | 1, _ => Or.inl ⟨rfl, rfl, rfl⟩ | 2, _ => Or.inl ⟨rfl, rfl, rfl⟩ | 3, _ => Or.inl ⟨rfl, rfl, rfl⟩ | 4, _ => Or.inr ⟨si_e, fun z => d3⟩ | 5, _ => Or.inl ⟨rfl, rfl, rfl⟩ | 6, _ => Or.inl ⟨rfl, rfl, rfl⟩ | 7, _ => Or.inl ⟨rfl, rfl, rfl⟩ | 8, _ => Or.inr ⟨?_, fun z => d4⟩ | j + 9, hj => absurd hj (by omega)), ⟨B.1, B.2.1, B.2.2.1, B.2.2.2.1, show t + 1 ≤ 8 by omega, B.2.2.2.2.2.1, B.2.2.2.2.2.2.1, B.2.2.2.2.2.2.2.1, Nat.le_refl 1⟩, vL_q F F' (fun _ => rfl) (fun _ => rfl) (fun _ => rfl) (fun _ => rfl) (fun _ => rfl) (fun _ => rfl) rfl rfl rfl L, vN_q F F' (fun _ => rfl) (fun _ => rfl) N, vH_q (D := D) F F' (fun _ => rfl) (fun _ => rfl) (fun z => ⟨rfl, rfl⟩) H, vW_q F F' (fun _ => rfl) (fun _ => rfl) W, ⟨fun z => ?_, fun u hu => ?_, fun u hu => ?_⟩, vR_q (D := D) F F' (fun _ => rfl) (fun _ => rfl) (fun _ => rfl) rfl (show D 32 ≤ t + 1 by omega) R⟩
  · show (et_si h 61 32 (nI (t + 1))).1 61 36 = nI 1
    rw [si_j (by decide)]; exact d5
  · exact absurd (show (1 : Nat) = 0 from z) (by decide)
  · have hu : u < t + 1 := hu
    by_cases e : u = t
    · subst e
      have T3 := T.2.2 u (by omega)
      refine ⟨s, p, q, l, v, b1, b2, b3, b4, b5, d1, ?_, ?_, ?_⟩
      · rw [si_x (by decide), si_x (by decide), si_x (by decide), si_x (by decide), si_x (by decide)]
        exact ⟨d2.1, d2.2.1, d2.2.2, e3, e4⟩
      · rw [d7 u, T3.1]
        exact ⟨fun z => z.elim (fun z => by cases z) (fun z => z.2), fun z => Or.inr ⟨rfl, z⟩⟩
      · rw [d8 u, T3.2]
        exact ⟨fun z => z.elim (fun z => by cases z) (fun z => z.2), fun z => Or.inr ⟨rfl, z⟩⟩
    · obtain ⟨s', p', q', l', v', c1, c2, c3, c4, c5, c6, c7, c8, c9⟩ := T.2.1 u (by omega)
      have hx : ∀ k, (k = 22 ∨ k = 23 ∨ k = 24) → g.1 k u = gs.1 k u := fun k hk => F.1 k u (by
        unfold wS w_st xc
        rw [show (u == t) = false from beq_eq_false_iff_ne.mpr e]
        rcases hk with rfl | rfl | rfl <;> rfl)
      have hy : ∀ i, i < 5 → (et_si h 61 32 (nI (t + 1))).1 77 (5 * u + i) = hs.1 77 (5 * u + i) := fun i hi => F'.1 77 _ (by
        show (w_ms 77 _ || (false || (true && (Nat.ble (5 * t) (5 * u + i) && Nat.ble (5 * u + i) (5 * t + 4))))) = false
        rw [show Nat.ble (5 * t) (5 * u + i) = false from by
          cases z : Nat.ble (5 * t) (5 * u + i) with
          | false => rfl
          | true => have := Nat.ble_eq.mp z; omega]
        rfl)
      refine ⟨s', p', q', l', v', c1, c2, c3, c4, c5, ?_, ?_, ?_, ?_⟩
      · rw [hx 22 (by decide), hx 23 (by decide), hx 24 (by decide)]; exact c6
      · rw [hy 1 (by decide), hy 2 (by decide), hy 3 (by decide), hy 4 (by decide), show (et_si h 61 32 (nI (t + 1))).1 77 (5 * u) = hs.1 77 (5 * u) from hy 0 (by decide)]; exact c7
      · rw [d7 u, ← c8]
        exact ⟨fun z => z.elim id (fun z => absurd z.1 e), Or.inl⟩
      · rw [d8 u, ← c9]
        exact ⟨fun z => z.elim id (fun z => absurd z.1 e), Or.inl⟩
  · have hu : t + 1 ≤ u := hu
    have T3 := T.2.2 u (by omega)
    constructor
    · cases z : bt (g.1 15 9) u with
      | false => rfl
      | true => exact absurd ((d7 u).mp z) (fun y => y.elim (fun y => by rw [T3.1] at y; cases y) (fun y => by omega))
    · cases z : bt (g.1 15 10) u with
      | false => rfl
      | true => exact absurd ((d8 u).mp z) (fun y => y.elim (fun y => by rw [T3.2] at y; cases y) (fun y => by omega))
theorem sg_3 {a c t s p q l v : Nat} {g h : et_G} (hn : n ≤ 800) (hb8 : ∀ i, i < 800 → S 71 i < 256) (V : vV D gs hs) (ht : t = D 32) (h8 : t < 8) (b1 : s < D 28) (b2 : p < D 30) (b3 : q < 24) (b4 : l ≤ 1) (b5 : v ≤ 1) (ac : a ≤ c) (u : tC S n c g0 g) (u' : uM S n c h0 h) (Y : yT gs hs t s p q l v g h) (e3 : h.1 77 (5 * t + 3) = nI l) (e4 : h.1 77 (5 * t + 4) = nI v) : e2 (fn_Re_thingSigns_15_54 g) (et_bd (fn_Mo_readsThing_227 h) (fun _ g44 => fn_Mo_line_470 g44)) (lQ S n a g0 h0) := by
  unfold fn_Re_thingSigns_15_54 fn_Mo_readsThing_227
  rw [gd_1 u', bd_s, if_neg (by decide), Y.2.2.2.2.2.2.2.1, show nI t + (1 : Int32) = nI (t + 1) from nI_add _ 1]
  show e2 _ (fn_Mo_line_470 (et_si h 61 32 (nI (t + 1)))) _
  exact lq_a (semi1 hn hb8 ac u (uM_s u' rfl) (yT_V V ht h8 b1 b2 b3 b4 b5 Y e3 e4))
theorem sg_2 {a c t s p q l : Nat} {g h : et_G} (hn : n ≤ 800) (hb8 : ∀ i, i < 800 → S 71 i < 256) (V : vV D gs hs) (ht : t = D 32) (h8 : t < 8) (b1 : s < D 28) (b2 : p < D 30) (b3 : q < 24) (b4 : l ≤ 1) (ac : a ≤ c) (u : tC S n c g0 g) (u' : uM S n c h0 h) (Y : yT gs hs t s p q l 0 g h) (e3 : h.1 77 (5 * t + 3) = nI l) : e2 (fn_Re_thingSigns_15_29 (nI t) g) (et_bd (fn_Mo_readsThing_182 (nI (5 * t)) h) (fun _ g44 => fn_Mo_line_470 g44)) (lQ S n a g0 h0) := by
  unfold fn_Re_thingSigns_15_29 fn_Mo_readsThing_182 fn_Re_is_never
  rw [is_c (k := 12) (by decide) hn hb8 u.1.2.1 u.2.1, bd_s, gd_1 u', bd_s, if_neg (show ¬ (1 : Int32) = 0 by decide), show fn_Mo_is (12 : Int32) h = _ from is_m (k := 12) (by decide) hn u'.2.2.2.1, bd_s, show nI (5 * t) + (4 : Int32) = nI (5 * t + 4) from nI_add _ 4]
  by_cases w : wdP S n c 12
  · rw [bI_t w, if_neg (show ¬ nI 1 = 0 by decide), if_neg (show ¬ nI 1 = 0 by decide)]
    unfold fn_Mo_readsThing_210
    rw [ib_e (5 * t + 4) 40 (by omega) (by decide), ck_t, nI_clamp (by omega)]
    refine e2_b ?_
    show e2 _ (et_bd (et_ck (et_ib (nI (5 * t) + (4 : Int32)) 40) (if ((et_si h 77 (5 * t + 4) 1).1 77 (nI (5 * t) + (4 : Int32)).toNatClampNeg) = (1 : Int32) then et_bd (fn_Mo_steps (et_si h 77 (5 * t + 4) 1)) (fun _ g28 => fn_Mo_readsThing_227 g28) else fn_Mo_readsThing_227 (et_si h 77 (5 * t + 4) 1))) _) _
    rw [show nI (5 * t) + (4 : Int32) = nI (5 * t + 4) from nI_add _ 4, ib_e (5 * t + 4) 40 (by omega) (by decide), ck_t, nI_clamp (by omega), si_e, if_pos rfl]
    have kk := w.1
    have Y1 := yT_n (by omega) Y
    have Y2 := yT_w (j := 5 * t + 4) (x := 1) (Or.inr rfl) Y1
    obtain ⟨x1, g1, E1, u1, y1⟩ := stp_c (i := tkE S n c) hn hb8 (kC_s (k := 15) (j := 10) (x := (g.1 15 10) ||| ((1 : Int32) <<< (nI t &&& (31 : Int32)))) u.1 rfl)
    obtain ⟨x2, h2, E2, u2, y2⟩ := stp_m hn hb8 (uM_s (k := 77) (j := 5 * t + 4) (x := 1) u' rfl) (by omega) (by omega)
    rw [E1, E2, bd_s, bd_s]
    have ea := (tkE_b (S := S) u.2.2).1
    have eb := bk_b S u.1.2.2.2.2.1
    refine sg_3 (v := 1) hn hb8 V ht h8 b1 b2 b3 b4 (Nat.le_refl 1) (by omega) u1 u2 (yT_s y1 y2 Y2) ?_ ?_
    · rw [y2.1 77 _ rfl, si_j (by omega)]; exact e3
    · rw [y2.1 77 _ rfl, si_e]; rfl
  · rw [bI_f w, if_pos (show nI 0 = 0 from rfl), if_pos (show nI 0 = 0 from rfl)]
    unfold fn_Mo_readsThing_209 fn_Mo_readsThing_210
    rw [ib_e (5 * t + 4) 40 (by omega) (by decide), ck_t, nI_clamp (by omega)]
    show e2 _ (et_bd (et_ck (et_ib (nI (5 * t) + (4 : Int32)) 40) (if ((et_si h 77 (5 * t + 4) 0).1 77 (nI (5 * t) + (4 : Int32)).toNatClampNeg) = (1 : Int32) then et_bd (fn_Mo_steps (et_si h 77 (5 * t + 4) 0)) (fun _ g28 => fn_Mo_readsThing_227 g28) else fn_Mo_readsThing_227 (et_si h 77 (5 * t + 4) 0))) _) _
    rw [show nI (5 * t) + (4 : Int32) = nI (5 * t + 4) from nI_add _ 4, ib_e (5 * t + 4) 40 (by omega) (by decide), ck_t, nI_clamp (by omega), si_e, if_neg (show ¬ (0 : Int32) = 1 by decide)]
    exact sg_3 (v := 0) hn hb8 V ht h8 b1 b2 b3 b4 (by decide) ac u (uM_s u' rfl) (yT_w (Or.inr rfl) Y) (by rw [si_j (by omega)]; exact e3) (by rw [si_e]; rfl)
end LE
