/-! the law's cases: a call of the class, a call of the model, and the two held side by side -/
/-- the draft's letters are bytes -/
def Jb (g : et_G) : Prop := ∀ j, j < 368 → fits .byte (.int (g.1 17 j)) = true
def Ij (S : et_T) (g : et_G) : Prop := Iv S g ∧ Jb g
theorem jb_C {g g' : et_G} (f : fq w_C g g') (J : Jb g) : Jb g' := fun j hj => by rw [f.1 17 j rfl]; exact J j hj
theorem jb_M {g g' : et_G} (f : fq w_M g g') (J : Jb g) : Jb g' := fun j hj => by rw [f.1 17 j rfl]; exact J j hj
section LW
variable {S : et_T} {g : et_G} {K : et_G → Option (Int32 × et_G)} {Q : Int32 → et_G → Prop}
theorem sl_9 (g : et_G) (x : Int64) : (et_sl g 96 0 x).2 96 0 = x := by
  show (if 96 = 96 then vp_updL (g.2 96) 0 x else g.2 96) 0 = x
  rw [if_pos rfl]
  unfold vp_updL
  simp
theorem lw_z {S' : et_T} {g3 g4 : et_G} {v3 : Int32} {x : Int64} (d : fq w_M g3 g4) (b : g4.1 61 0 = 0) (e : g3.2 96 0 = x) (ev : v3.toInt64 = x) (I : Ij S' g4) (kk : ∀ S' g', Ij S' g' → ev_Q (K g') Q) : ev_Q (et_bd (fn_Mo_thrown g4) (fun v5 g6 => if v5 = (0 : Int32) then if (0 : Int32) = 0 then et_ck (et_ib (0 : Int32) 1) (if (lg_cmp (g6.2 96 (0 : Int32).toNatClampNeg) (v3.toInt64)) = 0 then K g6 else some ((0 : Int32), g6)) else K g6 else some ((0 : Int32), g6))) Q := by
  unfold fn_Mo_thrown
  rw [bd_s, b, if_pos rfl, if_pos rfl]
  refine ev_k rfl ?_
  rw [show (0 : Int32).toNatClampNeg = 0 from rfl, d.2, e, ev, if_pos ((lg_cmp_eq _ _).mpr rfl)]
  exact kk S' g4 I
theorem lw_y {S' : et_T} {g4 : et_G} {v3 t : Int32} (b : g4.1 61 0 = t) (ht : ¬ t = 0) (I : Ij S' g4) (kk : ∀ S' g', Ij S' g' → ev_Q (K g') Q) : ev_Q (et_bd (fn_Mo_thrown g4) (fun v5 g6 => if v5 = t then if t = 0 then et_ck (et_ib (0 : Int32) 1) (if (lg_cmp (g6.2 96 (0 : Int32).toNatClampNeg) (v3.toInt64)) = 0 then K g6 else some ((0 : Int32), g6)) else K g6 else some ((0 : Int32), g6))) Q := by
  unfold fn_Mo_thrown
  rw [bd_s, b, if_pos rfl, if_neg ht]
  exact kk S' g4 I
theorem lw_B {e : Nat} {FC : Option (et_oc × et_G)} {FM : et_G → Option (Int32 × et_G)} (I : Ij S g) (ok : okB e S g FC FM) (kk : ∀ S' g', Ij S' g' → ev_Q (K g') Q) : ev_Q (et_bd (et_bc FC (fun x g1 => et_ck (et_ib (0 : Int32) 1) (et_b (et_sl g1 96 (0 : Int32).toNatClampNeg x.toInt64) (fun g2 => some ((0 : Int32), g2)))) (fun k g3 => if k = e then some ((1 : Int32), g3) else none)) (fun v1 g2 => et_bd (FM g2) (fun v3 g4 => et_bd (fn_Mo_thrown g4) (fun v5 g6 => if v5 = v1 then if v1 = 0 then et_ck (et_ib (0 : Int32) 1) (if (lg_cmp (g6.2 96 (0 : Int32).toNatClampNeg) (v3.toInt64)) = 0 then K g6 else some ((0 : Int32), g6)) else K g6 else some ((0 : Int32), g6))))) Q := by
  obtain ⟨S', o, hc, hm, w1, w2, he⟩ := ok
  obtain ⟨o', g2, e1, rfl, c1, c2, c3⟩ := hc
  rw [e1]
  cases o' with
  | inl k =>
    have hk := he k rfl
    subst hk
    show ev_Q (et_bd (if k = k then some ((1 : Int32), g2) else none) _) _
    rw [if_pos rfl, bd_s]
    refine ev_d (hm g2 (rc_M_C c3 I.1.2.2.1)) (fun v3 g4 h => ?_)
    obtain ⟨a, b, c, d⟩ := h
    exact lw_y b (by decide) ⟨⟨rc_C_M d c1, rc_G_M d c2, c, w1, w2⟩, jb_M d (jb_C c3 I.2)⟩ kk
  | inr x =>
    show ev_Q (et_bd (some ((0 : Int32), et_sl g2 96 0 x.toInt64)) _) _
    rw [bd_s]
    refine ev_d (hm (et_sl g2 96 0 x.toInt64) (show rc_M S (et_sl g2 96 0 x.toInt64) from (rc_M_C c3 I.1.2.2.1 : rc_M S g2))) (fun v3 g4 h => ?_)
    obtain ⟨a, b, c, d⟩ := h
    exact lw_z d b (sl_9 g2 _) (by rw [a]; rfl) ⟨⟨rc_C_M d (show rc_C S' (et_sl g2 96 0 x.toInt64) from c1), rc_G_M d (show rc_G S' (et_sl g2 96 0 x.toInt64) from c2), c, w1, w2⟩, jb_M d (show Jb (et_sl g2 96 0 x.toInt64) from (jb_C c3 I.2 : Jb g2))⟩ kk
theorem lw_2 {FC : Option (et_oc × et_G)} {FM : et_G → Option (Int32 × et_G)} (I : Ij S g) (ok : okB2 S g FC FM) (kk : ∀ S' g', Ij S' g' → ev_Q (K g') Q) : ev_Q (et_bd (et_bc FC (fun x g1 => et_ck (et_ib (0 : Int32) 1) (et_b (et_sl g1 96 (0 : Int32).toNatClampNeg x.toInt64) (fun g2 => some ((0 : Int32), g2)))) (fun k g3 => if k = 0 then some ((1 : Int32), g3) else if k = 1 then some ((2 : Int32), g3) else none)) (fun v1 g2 => et_bd (FM g2) (fun v3 g4 => et_bd (fn_Mo_thrown g4) (fun v5 g6 => if v5 = v1 then if v1 = 0 then et_ck (et_ib (0 : Int32) 1) (if (lg_cmp (g6.2 96 (0 : Int32).toNatClampNeg) (v3.toInt64)) = 0 then K g6 else some ((0 : Int32), g6)) else K g6 else some ((0 : Int32), g6))))) Q := by
  obtain ⟨S', o, hc, hm, w1, w2, he⟩ := ok
  obtain ⟨o', g2, e1, rfl, c1, c2, c3⟩ := hc
  rw [e1]
  cases o' with
  | inl k =>
    rcases he k rfl with hk | hk
    · subst hk
      show ev_Q (et_bd (some ((1 : Int32), g2)) _) _
      rw [bd_s]
      refine ev_d (hm g2 (rc_M_C c3 I.1.2.2.1)) (fun v3 g4 h => ?_)
      obtain ⟨a, b, c, d⟩ := h
      exact lw_y b (by decide) ⟨⟨rc_C_M d c1, rc_G_M d c2, c, w1, w2⟩, jb_M d (jb_C c3 I.2)⟩ kk
    · subst hk
      show ev_Q (et_bd (some ((2 : Int32), g2)) _) _
      rw [bd_s]
      refine ev_d (hm g2 (rc_M_C c3 I.1.2.2.1)) (fun v3 g4 h => ?_)
      obtain ⟨a, b, c, d⟩ := h
      exact lw_y b (by decide) ⟨⟨rc_C_M d c1, rc_G_M d c2, c, w1, w2⟩, jb_M d (jb_C c3 I.2)⟩ kk
  | inr x =>
    show ev_Q (et_bd (some ((0 : Int32), et_sl g2 96 0 x.toInt64)) _) _
    rw [bd_s]
    refine ev_d (hm (et_sl g2 96 0 x.toInt64) (show rc_M S (et_sl g2 96 0 x.toInt64) from (rc_M_C c3 I.1.2.2.1 : rc_M S g2))) (fun v3 g4 h => ?_)
    obtain ⟨a, b, c, d⟩ := h
    exact lw_z d b (sl_9 g2 _) (by rw [a]; rfl) ⟨⟨rc_C_M d (show rc_C S' (et_sl g2 96 0 x.toInt64) from c1), rc_G_M d (show rc_G S' (et_sl g2 96 0 x.toInt64) from c2), c, w1, w2⟩, jb_M d (show Jb (et_sl g2 96 0 x.toInt64) from (jb_C c3 I.2 : Jb g2))⟩ kk
theorem lw_U {FC : Option (Int32 × et_G)} {FM : et_G → Option (Int32 × et_G)} (I : Ij S g) (ok : okU S g FC FM) (kk : ∀ S' g', Ij S' g' → ev_Q (K g') Q) : ev_Q (et_bd FC (fun v1 g2 => et_bd (FM g2) (fun v3 g4 => if v1 = v3 then K g4 else some ((0 : Int32), g4)))) Q := by
  obtain ⟨S', v, hc, hm, w1, w2⟩ := ok
  refine ev_d hc (fun v1 g2 h => ?_)
  obtain ⟨rfl, c1, c2, c3⟩ := h
  refine ev_d (hm g2 (rc_M_C c3 I.1.2.2.1)) (fun v3 g4 h => ?_)
  obtain ⟨a, b, c, d⟩ := h
  rw [if_pos a.symm]
  exact kk S' g4 ⟨⟨rc_C_M d c1, rc_G_M d c2, c, w1, w2⟩, jb_M d (jb_C c3 I.2)⟩
theorem lw_V {FC : Option (Int32 × et_G)} {FM : et_G → Option (Int32 × et_G)} (I : Ij S g) (ok : okV S g FC FM) (kk : ∀ S' g', Ij S' g' → ev_Q (K g') Q) : ev_Q (et_bd FC (fun v1 g2 => et_bd (FM g2) (fun v3 g4 => if v1 = v3 then K g4 else some ((0 : Int32), g4)))) Q := by
  obtain ⟨v, Fam, hc, hm, w⟩ := ok
  refine ev_d hc (fun v1 g2 h => ?_)
  obtain ⟨rfl, c1, c3⟩ := h
  refine ev_d (hm g2 (rc_M_C c3 I.1.2.2.1)) (fun v3 g4 h => ?_)
  obtain ⟨a, b, d, S', f, c⟩ := h
  rw [if_pos a.symm]
  exact kk S' g4 ⟨⟨rc_C_M d (c1 S' f).1, rc_G_M d (c1 S' f).2, c, (w S' f).1, (w S' f).2⟩, jb_M d (jb_C c3 I.2)⟩
theorem lw_I {FC : Option (Unit × et_G)} {FM : et_G → Option (Unit × et_G)} (I : Ij S g) (ok : okI S g FC FM) (kk : ∀ S' g', Ij S' g' → ev_Q (K g') Q) : ev_Q (et_bd FC (fun _ g2 => et_bd (FM g2) (fun _ g4 => K g4))) Q := by
  obtain ⟨S', hc, hm, w1, w2⟩ := ok
  refine ev_d hc (fun v1 g2 h => ?_)
  obtain ⟨a, c1, c2, c3⟩ := h
  refine ev_d (hm g2 (rc_M_C c3 I.1.2.2.1)) (fun v3 g4 h => ?_)
  obtain ⟨c, d⟩ := h
  exact kk S' g4 ⟨⟨rc_C_M d c1, rc_G_M d c2, c, w1, w2⟩, jb_M d (jb_C c3 I.2)⟩
end LW
