/-! the law's cases: known, village -/
def okW (e : Nat) (S : et_T) (g : et_G) (FC : Option (et_oc × et_G)) (FM : et_G → Option (Int32 × et_G)) : Prop := ∃ (o : et_oc) (Fam : et_T → Prop), ev_Q FC (fun a g' => a = o ∧ (∀ S', Fam S' → rc_C S' g' ∧ rc_G S' g') ∧ fq w_V g g' ∧ Jb g') ∧ (∀ g1, rc_M S g1 → ev_Q (FM g1) (fun a g' => a = va_o o ∧ g'.1 61 0 = th_o o ∧ fq w_M g1 g' ∧ ∃ S', Fam S' ∧ rc_M S' g')) ∧ (∀ S', Fam S' → wf_S S' ∧ wf_4 S') ∧ ∀ k, o = .inl k → k = e
section LY
variable {S : et_T} {g : et_G} {K : et_G → Option (Int32 × et_G)} {Q : Int32 → et_G → Prop}
theorem lw_W {e : Nat} {FC : Option (et_oc × et_G)} {FM : et_G → Option (Int32 × et_G)} (I : Ij S g) (ok : okW e S g FC FM) (kk : ∀ S' g', Ij S' g' → ev_Q (K g') Q) : ev_Q (et_bd (et_bc FC (fun x g1 => et_ck (et_ib (0 : Int32) 1) (et_b (et_sl g1 96 (0 : Int32).toNatClampNeg x.toInt64) (fun g2 => some ((0 : Int32), g2)))) (fun k g3 => if k = e then some ((1 : Int32), g3) else none)) (fun v1 g2 => et_bd (FM g2) (fun v3 g4 => et_bd (fn_Mo_thrown g4) (fun v5 g6 => if v5 = v1 then if v1 = 0 then et_ck (et_ib (0 : Int32) 1) (if (lg_cmp (g6.2 96 (0 : Int32).toNatClampNeg) (v3.toInt64)) = 0 then K g6 else some ((0 : Int32), g6)) else K g6 else some ((0 : Int32), g6))))) Q := by
  obtain ⟨o, Fam, hc, hm, w, he⟩ := ok
  obtain ⟨o', g2, e1, rfl, c1, c3, c4⟩ := hc
  rw [e1]
  cases o' with
  | inl k =>
    have hk := he k rfl
    subst hk
    show ev_Q (et_bd (if k = k then some ((1 : Int32), g2) else none) _) _
    rw [if_pos rfl, bd_s]
    refine ev_d (hm g2 (rc_M_q c3 w_V_m I.1.2.2.1)) (fun v3 g4 h => ?_)
    obtain ⟨a, b, d, S', f, c⟩ := h
    exact lw_y b (by decide) ⟨⟨rc_C_M d (c1 S' f).1, rc_G_M d (c1 S' f).2, c, (w S' f).1, (w S' f).2⟩, jb_M d c4⟩ kk
  | inr x =>
    show ev_Q (et_bd (some ((0 : Int32), et_sl g2 96 0 x.toInt64)) _) _
    rw [bd_s]
    refine ev_d (hm (et_sl g2 96 0 x.toInt64) (show rc_M S (et_sl g2 96 0 x.toInt64) from (rc_M_q c3 w_V_m I.1.2.2.1 : rc_M S g2))) (fun v3 g4 h => ?_)
    obtain ⟨a, b, d, S', f, c⟩ := h
    exact lw_z d b (sl_9 g2 _) (by rw [a]; rfl) ⟨⟨rc_C_M d (show rc_C S' (et_sl g2 96 0 x.toInt64) from (c1 S' f).1), rc_G_M d (show rc_G S' (et_sl g2 96 0 x.toInt64) from (c1 S' f).2), c, (w S' f).1, (w S' f).2⟩, jb_M d (show Jb (et_sl g2 96 0 x.toInt64) from c4)⟩ kk
theorem lw_K {FC : Option (et_oc × et_G)} {FM : et_G → Option (Int32 × et_G)} (I : Ij S g) (ok : okB2 S g FC FM) (kk : ∀ S' g', Ij S' g' → ev_Q (K g') Q) : ev_Q (et_bd (et_bc FC (fun x g1 => if x = 0 then et_ck (et_ib (0 : Int32) 1) (et_b (et_sl g1 96 (0 : Int32).toNatClampNeg (0 : Int64)) (fun g2 => some ((0 : Int32), g2))) else et_ck (et_ib (0 : Int32) 1) (et_b (et_sl g1 96 (0 : Int32).toNatClampNeg (1 : Int64)) (fun g2 => some ((0 : Int32), g2)))) (fun k g3 => if k = 0 then some ((1 : Int32), g3) else if k = 1 then some ((2 : Int32), g3) else none)) (fun v1 g2 => et_bd (FM g2) (fun v3 g4 => et_bd (fn_Mo_thrown g4) (fun v5 g6 => if v5 = v1 then if v1 = 0 then et_ck (et_ib (0 : Int32) 1) (if v3 = 0 then if (lg_cmp (g6.2 96 (0 : Int32).toNatClampNeg) (0 : Int64)) = 0 then K g6 else some ((0 : Int32), g6) else if (lg_cmp (g6.2 96 (0 : Int32).toNatClampNeg) (1 : Int64)) = 0 then K g6 else some ((0 : Int32), g6)) else K g6 else some ((0 : Int32), g6))))) Q := by
  obtain ⟨S', o, hc, hm, w1, w2, he⟩ := ok
  obtain ⟨o', g2, e1, rfl, c1, c2, c3⟩ := hc
  rw [e1]
  have Y : ∀ (t : Int32), ¬ t = 0 → th_2 o' = t → ev_Q (et_bd (some (t, g2)) (fun v1 g2 => et_bd (FM g2) (fun v3 g4 => et_bd (fn_Mo_thrown g4) (fun v5 g6 => if v5 = v1 then if v1 = 0 then et_ck (et_ib (0 : Int32) 1) (if v3 = 0 then if (lg_cmp (g6.2 96 (0 : Int32).toNatClampNeg) (0 : Int64)) = 0 then K g6 else some ((0 : Int32), g6) else if (lg_cmp (g6.2 96 (0 : Int32).toNatClampNeg) (1 : Int64)) = 0 then K g6 else some ((0 : Int32), g6)) else K g6 else some ((0 : Int32), g6))))) Q := fun t ht et => by
    rw [bd_s]
    refine ev_d (hm g2 (rc_M_C c3 I.1.2.2.1)) (fun v3 g4 h => ?_)
    obtain ⟨a, b, c, d⟩ := h
    unfold fn_Mo_thrown
    rw [bd_s, b, if_pos et, if_neg ht]
    exact kk S' g4 ⟨⟨rc_C_M d c1, rc_G_M d c2, c, w1, w2⟩, jb_M d (jb_C c3 I.2)⟩
  cases o' with
  | inl k =>
    rcases he k rfl with hk | hk
    · subst hk
      exact Y 1 (by decide) rfl
    · subst hk
      exact Y 2 (by decide) rfl
  | inr x =>
    have Z : ∀ (y : Int64), (x = 0 → y = 0) → (¬ x = 0 → y = 1) → ev_Q (et_bd (some ((0 : Int32), et_sl g2 96 0 y)) (fun v1 g2 => et_bd (FM g2) (fun v3 g4 => et_bd (fn_Mo_thrown g4) (fun v5 g6 => if v5 = v1 then if v1 = 0 then et_ck (et_ib (0 : Int32) 1) (if v3 = 0 then if (lg_cmp (g6.2 96 (0 : Int32).toNatClampNeg) (0 : Int64)) = 0 then K g6 else some ((0 : Int32), g6) else if (lg_cmp (g6.2 96 (0 : Int32).toNatClampNeg) (1 : Int64)) = 0 then K g6 else some ((0 : Int32), g6)) else K g6 else some ((0 : Int32), g6))))) Q := fun y y0 y1 => by
      rw [bd_s]
      refine ev_d (hm (et_sl g2 96 0 y) (show rc_M S (et_sl g2 96 0 y) from (rc_M_C c3 I.1.2.2.1 : rc_M S g2))) (fun v3 g4 h => ?_)
      obtain ⟨a, b, c, d⟩ := h
      have a : v3 = x := a
      have b : g4.1 61 0 = 0 := b
      have I4 : Ij S' g4 := ⟨⟨rc_C_M d (show rc_C S' (et_sl g2 96 0 y) from c1), rc_G_M d (show rc_G S' (et_sl g2 96 0 y) from c2), c, w1, w2⟩, jb_M d (show Jb (et_sl g2 96 0 y) from (jb_C c3 I.2 : Jb g2))⟩
      unfold fn_Mo_thrown
      rw [bd_s, b, if_pos rfl, if_pos rfl]
      refine ev_k rfl ?_
      rw [show (0 : Int32).toNatClampNeg = 0 from rfl, d.2, sl_9, a]
      by_cases q : x = 0
      · rw [if_pos q, if_pos ((lg_cmp_eq _ _).mpr (y0 q))]
        exact kk S' g4 I4
      · rw [if_neg q, if_pos ((lg_cmp_eq _ _).mpr (y1 q))]
        exact kk S' g4 I4
    by_cases q : x = 0
    · have z := Z 0 (fun _ => rfl) (fun z => absurd q z)
      refine (show ∀ F, F = some ((0 : Int32), et_sl g2 96 0 (0 : Int64)) → ev_Q (et_bd F _) Q from fun F hF => by rw [hF]; exact z) _ ?_
      show (if x = 0 then _ else _) = _
      rw [if_pos q]; rfl
    · have z := Z 1 (fun z => absurd z q) (fun _ => rfl)
      refine (show ∀ F, F = some ((0 : Int32), et_sl g2 96 0 (1 : Int64)) → ev_Q (et_bd F _) Q from fun F hF => by rw [hF]; exact z) _ ?_
      show (if x = 0 then _ else _) = _
      rw [if_neg q]; rfl
variable {L : Nat} {xs : Nat → Int32} {r23 : Int32 → et_G → Option (Int32 × et_G)} {x4 : Int32}
theorem lc_21 (I : Ij S g) (e1 : et_ib (x4 + (1 : Int32)) L = true) (e2 : et_ib (x4 + (2 : Int32)) L = true) (e3 : et_ib (x4 + (3 : Int32)) L = true) (e4 : et_ib (x4 + (4 : Int32)) L = true) (kk : ∀ S' g', Ij S' g' → ev_Q (r23 (x4 + (6 : Int32)) g') Q) : ev_Q (fn_La_law_21 L xs r23 x4 g) Q := by
  unfold fn_La_law_21 fn_La_known
  by_cases hx : xs (x4 + (4 : Int32)).toNatClampNeg = 0
  · simp only [e1, e2, e3, e4, ck_t, if_pos hx]
    exact lw_K I (ok_known I.1 _ _ _ (nt := 0) (by decide)) kk
  · simp only [e1, e2, e3, e4, ck_t, if_neg hx]
    exact lw_K I (ok_known I.1 _ _ _ (nt := 1) (by decide)) kk
theorem lc_1 (I : Ij S g) (hv : ∀ p, okW 1 S g (fn_Et_village p g) (fn_Mo_village p)) (e1 : et_ib (x4 + (1 : Int32)) L = true) (kk : ∀ S' g', Ij S' g' → ev_Q (r23 (x4 + (6 : Int32)) g') Q) : ev_Q (fn_La_law_1 L xs r23 x4 g) Q := by
  unfold fn_La_law_1 fn_La_village
  simp only [e1, ck_t]
  exact lw_W I (hv _) kk
end LY
