/-! village: near -/
section LD
variable {S : et_T} {n : Nat} {g0 h0 : et_G} {D : Nat → Nat}
theorem or_sl {m v : Nat} (hm : m < 64) (hv : v < 6) : nI m ||| ((1 : Int32) <<< (nI v &&& (31 : Int32))) = nI (m ||| 2 ^ v) := by
  have h2 : 2 ^ v < 2 ^ 6 := Nat.pow_lt_pow_right (by decide) hv
  have h3 : m ||| 2 ^ v < 2 ^ 6 := Nat.or_lt_two_pow (by omega) h2
  show nI m ||| (nI 1 <<< (nI v &&& nI 31)) = _
  refine bt_ext fun i _ => ?_
  rw [bt_or, bt_n (by omega), bt_sl (by omega), bt_n (by omega), Nat.testBit_or, Nat.testBit_two_pow]
  congr 1
  exact decide_eq_decide.mpr ⟨Eq.symm, Eq.symm⟩
theorem rn_0 {f a : Nat} {h : et_G} {x : Int32} (t : fM n f a h0 h) : fn_Mo_readsNear_42 x h = some ((), h) := by
  unfold fn_Mo_readsNear_42
  rw [gd_0 t, bd_s, if_pos rfl]
theorem ln_5 {a : Nat} {g h : et_G} (hn : n ≤ 800) (hb8 : ∀ i, i < 800 → S 71 i < 256) (t : tC S n a g0 g) (t' : uM S n a h0 h) (V : vV D g h) (k1 : tkK S n a = 1) : e2 (fn_Re_nearLine_15 g) (et_bd (fn_Mo_readsNear h) (fun _ g53 => fn_Mo_line_470 g53)) (lQ S n a g0 h0) := by
  obtain ⟨c28, c29, c30, c31, c32, c33, c35, c36⟩ := vA_c V.1
  obtain ⟨m28, m29, m30, m31, m32, m33, m34, m35, m36⟩ := vA_m V.1
  have B := V.2.1
  obtain ⟨b28, b29, b30, b31, b32, b33, b34, b35, b36⟩ := V.2.1
  unfold fn_Re_nearLine_15 fn_Mo_readsNear
  refine e2_b ?_
  show e2 _ (et_bd (et_bd (fn_Mo_steps (et_si h 61 36 1)) _) _) _
  obtain ⟨x0, h1, E0, t1, w1⟩ := stp_m hn hb8 (uM_s (k := 61) (j := 36) (x := 1) t' rfl) (by omega) (by omega)
  have cc : kC S n (tkE S n a) g0 (et_si g 28 8 1) := kC_s t.1 rfl
  rw [E0, bd_s, show (et_si g 28 8 1).1 15 1 = nI (D 30) from by rw [si_x (by decide)]; exact c30, show h1.1 61 30 = nI (D 30) from by rw [w1.1 61 30 rfl, si_j (by decide)]; exact m30]
  have ea := (tkE_b (S := S) t.2.2).1
  have eb := bk_b S t.1.2.2.2.2.1
  generalize hb1 : bk S n (tkE S n a) = b1 at t1 eb
  by_cases f1 : onF S n b1 (D 30) = 0
  · obtain ⟨n1, n2, n3⟩ := onF_0 f1
    obtain ⟨x1, g1, E1, rfl, u1, y1⟩ := on_c1 (m := D 30) hn hb8 cc (by omega) (by rw [hb1]; exact f1)
    obtain ⟨x2, h2, E2, rfl, t2, w2⟩ := am_m1 (m := D 30) hn hb8 t1 (by omega) f1
    rw [hb1] at u1
    rw [E1, bd_s, if_neg (by decide), u1.2.1.2.2.2.2, E2, bd_s]
    refine e2_b ?_
    rw [show g1.1 15 1 = nI (D 30) from by rw [y1.1 15 1 rfl, si_x (by decide)]; exact c30, show h2.1 61 30 = nI (D 30) from by rw [w2.1 61 30 rfl, w1.1 61 30 rfl, si_j (by decide)]; exact m30]
    have ea1 := (tkE_b (S := S) u1.2.2).1
    have eb1 := bk_b S u1.1.2.2.2.2.1
    generalize hb2 : bk S n (tkE S n b1) = b2 at t2 eb1
    generalize tkV S n b1 = p at n3
    by_cases f2 : onF S n b2 (D 30) = 0
    · obtain ⟨p1, p2, p3⟩ := onF_0 f2
      obtain ⟨x3, g2, E3, rfl, u2, y2⟩ := on_c1 (m := D 30) hn hb8 u1.1 (by omega) (by rw [hb2]; exact f2)
      rw [hb2] at u2
      have ea2 := (tkE_b (S := S) u2.2.2).1
      have eb2 := bk_b S u2.1.2.2.2.2.1
      have c6 := u2.2.1.2.2.2.2
      have m6 := t2.2.2.2.1.2.2.2.2.1
      rw [E3, bd_s, if_neg (by decide), c6, amh_m1 t2 (by omega) f2, bd_s, if_neg (show ¬ (1 : Int32) = 0 by decide), m6]
      generalize hq : tkV S n b2 = q at p3 c6 m6
      by_cases z : q = p
      · subst z
        rw [if_pos rfl, if_pos rfl]
        refine e2_l (ref_c u2 (f := 4) (by decide)) (fun v g' ⟨e, c⟩ => ?_)
        obtain ⟨x6, h', E8, c', -⟩ := fau_m t2 (f := 4) (by decide)
        rw [e, show fn_Mo_faults (4 : Int32) h2 = _ from E8, bd_s, rn_0 c', bd_s, l47_0 c']
        exact e2_q (lq_f c c')
      · have nz : ¬ nI q = nI p := fun w => z ((nI_eq (by omega) (by omega)).mp w)
        rw [if_neg nz, if_neg nz, ib_e p 6 (by omega) (by decide), ck_t, ck_t, nI_clamp (by omega)]
        unfold fn_Mo_readsNear_42
        rw [gd_1 t2, bd_s, if_neg (by decide), ib_e p 6 (by omega) (by decide), ck_t, ck_t, nI_clamp (by omega), m6]
        obtain ⟨mp, k1', k2, k3⟩ := V.2.2.2.1 p (by omega)
        obtain ⟨mq, q1, q2, q3⟩ := V.2.2.2.1 q (by omega)
        have G20 : ∀ j, g2.1 20 j = g.1 20 j := fun j => by rw [y2.1 20 j rfl, y1.1 20 j rfl, si_x (by decide)]
        have H79 : ∀ j, h2.1 79 j = h.1 79 j := fun j => by rw [w2.1 79 j rfl, w1.1 79 j rfl, si_x (by decide)]
        rw [G20, H79, k2, k3, or_sl k1' (by omega)]
        have h64 : ∀ m v, m < 64 → v < 6 → m ||| 2 ^ v < 64 := fun m v hm hv => Nat.or_lt_two_pow (n := 6) hm (Nat.pow_lt_pow_right (by decide) hv)
        refine e2_b ?_
        show e2 _ (et_bd (et_ck (et_ib ((et_si h2 79 p (nI (mp ||| 2 ^ q))).1 61 26) 6) (et_ck (et_ib ((et_si h2 79 p (nI (mp ||| 2 ^ q))).1 61 26) 6) (et_bd (fn_Mo_steps (et_si (et_si h2 79 p (nI (mp ||| 2 ^ q))) 79 ((et_si h2 79 p (nI (mp ||| 2 ^ q))).1 61 26).toNatClampNeg (((et_si h2 79 p (nI (mp ||| 2 ^ q))).1 79 ((et_si h2 79 p (nI (mp ||| 2 ^ q))).1 61 26).toNatClampNeg) ||| ((1 : Int32) <<< (nI p &&& 31))))) (fun _ g13 => some ((), g13))))) _) _
        rw [show (et_si h2 79 p (nI (mp ||| 2 ^ q))).1 61 26 = nI q from by rw [si_x (by decide)]; exact m6, show (et_si g2 20 p (nI (mp ||| 2 ^ q))).1 28 6 = nI q from by rw [si_x (by decide)]; exact c6, ib_e q 6 (by omega) (by decide), ck_t, ck_t, ck_t, ck_t, nI_clamp (by omega), si_j z, si_j z, G20, H79, q2, q3, or_sl q1 (by omega)]
        refine e2_b ?_
        obtain ⟨x7, h3, E7, t3, w3⟩ := stp_m hn hb8 (uM_s (k := 79) (j := q) (x := nI (mq ||| 2 ^ p)) (uM_s (k := 79) (j := p) (x := nI (mp ||| 2 ^ q)) t2 rfl) rfl) (by omega) (by omega)
        rw [E7, bd_s, bd_s]
        have F : fq (wS (fun k j => (k == 28 && j == 8) || k == 20)) g (et_si (et_si g2 20 p (nI (mp ||| 2 ^ q))) 20 q (nI (mq ||| 2 ^ p))) := fq_s (fq_s (fq_t (fq_s (fq_r _ _) rfl) (wS_l (fq_t y1 y2))) rfl) rfl
        have F' : fq (mS (fun k j => (k == 61 && j == 36) || k == 79)) h h3 := fq_t (fq_s (fq_s (fq_t (fq_s (fq_r _ _) rfl) (mS_l (fq_t w1 w2))) rfl) rfl) (mS_l w3)
        obtain ⟨A, -, L, N, H, W, T, R⟩ := V
        refine lq_a (semi0 (D := dU D 36 1) hn hb8 (by omega) (kC_s (kC_s u2.1 rfl) rfl) t3 ⟨vA_g A F F' (fun j hj => match j, hj with | 0, _ => Or.inl ⟨rfl, rfl, rfl⟩ | 1, _ => Or.inl ⟨rfl, rfl, rfl⟩ | 2, _ => Or.inl ⟨rfl, rfl, rfl⟩ | 3, _ => Or.inl ⟨rfl, rfl, rfl⟩ | 4, _ => Or.inl ⟨rfl, rfl, rfl⟩ | 5, _ => Or.inl ⟨rfl, rfl, rfl⟩ | 6, _ => Or.inl ⟨rfl, rfl, rfl⟩ | 7, _ => Or.inl ⟨rfl, rfl, rfl⟩ | 8, _ => Or.inr ⟨?_, fun z => ?_⟩ | j + 9, hj => absurd hj (by omega)), ⟨B.1, B.2.1, B.2.2.1, B.2.2.2.1, B.2.2.2.2.1, B.2.2.2.2.2.1, B.2.2.2.2.2.2.1, B.2.2.2.2.2.2.2.1, Nat.le_refl 1⟩, vL_q F F' (fun _ => rfl) (fun _ => rfl) (fun _ => rfl) (fun _ => rfl) (fun _ => rfl) (fun _ => rfl) rfl rfl rfl L, fun i hi => ?_, vH_q (D := D) F F' (fun _ => rfl) (fun _ => rfl) (fun z => ⟨rfl, rfl⟩) H, vW_q F F' (fun _ => rfl) (fun _ => rfl) W, vT_q F F' (fun _ => rfl) (fun _ => rfl) (fun _ => rfl) rfl rfl (fun _ => rfl) (Nat.le_refl (D 28)) (fun z => ⟨rfl, rfl⟩) rfl b36 T, vR_q F F' (fun _ => rfl) (fun _ => rfl) (fun _ => rfl) rfl (Nat.le_refl (D 32)) R⟩)
        · show h3.1 61 36 = nI 1
          rw [w3.1 61 36 rfl, si_x (by decide), si_x (by decide), w2.1 61 36 rfl, w1.1 61 36 rfl, si_e]; rfl
        · show (et_si (et_si g2 20 p (nI (mp ||| 2 ^ q))) 20 q (nI (mq ||| 2 ^ p))).1 28 8 = nI 1
          rw [si_x (by decide), si_x (by decide), y2.1 28 8 rfl, y1.1 28 8 rfl, si_e]; rfl
        · rw [w3.1 79 i rfl]
          by_cases e : i = q
          · rw [e]; exact ⟨mq ||| 2 ^ p, h64 _ _ q1 (by omega), si_e, si_e⟩
          · rw [si_j e, si_j e]
            by_cases e' : i = p
            · rw [e']; exact ⟨mp ||| 2 ^ q, h64 _ _ k1' (by omega), si_e, si_e⟩
            · rw [si_j e', si_j e', G20, H79]; exact N i hi
    · obtain ⟨x3, g2, E3, rfl, c⟩ := on_c0 (m := D 30) hn hb8 u1.1 (by omega) (by rw [hb2]; exact f2)
      obtain ⟨x4, h3, E4, rfl, c', -⟩ := amh_m0 (m := D 30) hn t2 f2
      rw [hb2] at c
      rw [E3, bd_s, if_pos rfl, E4, bd_s, if_pos rfl, rn_0 c', bd_s, l47_0 c']
      exact e2_q (lq_f c c')
  · obtain ⟨x1, g1, E1, rfl, c⟩ := on_c0 (m := D 30) hn hb8 cc (by omega) (by rw [hb1]; exact f1)
    obtain ⟨x2, h2, E2, c', -⟩ := am_m0 (m := D 30) hn t1 f1
    rw [hb1] at c
    rw [E1, bd_s, if_pos rfl, E2, bd_s, amh_0 c', bd_s, if_pos rfl, rn_0 c', bd_s, l47_0 c']
    exact e2_q (lq_f c c')
end LD
