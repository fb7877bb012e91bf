/-! village: lines of letters -/
def lQ (S : et_T) (n i : Nat) (g0 h0 : et_G) (v : Int32) (g : et_G) (_u : Unit) (h : et_G) : Prop := (v = 1 ∧ ∃ D j, i < j ∧ kC S n j g0 g ∧ uM S n (bk S n j) h0 h ∧ vV D g h) ∨ (v = 0 ∧ ∃ f a, fC n f a g0 g ∧ fM n f a h0 h)
section LN
variable {S : et_T} {n : Nat} {g0 h0 : et_G} {D : Nat → Nat}
theorem lq_f {i f a : Nat} {g h : et_G} (c : fC n f a g0 g) (d : fM n f a h0 h) : lQ S n i g0 h0 0 g () h := Or.inr ⟨rfl, f, a, c, d⟩
theorem lq_a {i : Nat} {F : Option (Int32 × et_G)} {G : Option (Unit × et_G)} (k : e2 F G (lQ S n i g0 h0)) : e2 (et_bd F (fun v g => some (v &&& 1, g))) G (lQ S n i g0 h0) := e2_bl k (fun c g b h' p => ev_r (by
  rcases p with ⟨rfl, p⟩ | ⟨rfl, p⟩
  · exact Or.inl ⟨by decide, p⟩
  · exact Or.inr ⟨by decide, p⟩))
theorem lq_i {i : Nat} {F : Option (Int32 × et_G)} {G : Option (Unit × et_G)} (k : e2 F G (lQ S n i g0 h0)) : e2 (et_bd F (fun v g => if v = 0 then some ((0 : Int32), g) else some ((1 : Int32), g))) G (lQ S n i g0 h0) := e2_bl k (fun c g b h' p => by
  rcases p with ⟨rfl, p⟩ | ⟨rfl, p⟩
  · rw [if_neg (by decide)]; exact ev_r (Or.inl ⟨rfl, p⟩)
  · rw [if_pos rfl]; exact ev_r (Or.inr ⟨rfl, p⟩))
theorem vA_c {g h : et_G} (A : vA D g h) : g.1 16 2 = nI (D 28) ∧ g.1 16 3 = nI (D 29) ∧ g.1 15 1 = nI (D 30) ∧ g.1 15 3 = nI (D 31) ∧ g.1 15 5 = nI (D 32) ∧ g.1 15 11 = nI (D 33) ∧ g.1 28 7 = nI (D 35) ∧ g.1 28 8 = nI (D 36) :=
  ⟨(A 0 (by decide)).2 (by decide), (A 1 (by decide)).2 (by decide), (A 2 (by decide)).2 (by decide), (A 3 (by decide)).2 (by decide), (A 4 (by decide)).2 (by decide), (A 5 (by decide)).2 (by decide), (A 7 (by decide)).2 (by decide), (A 8 (by decide)).2 (by decide)⟩
theorem vA_m {g h : et_G} (A : vA D g h) : h.1 61 28 = nI (D 28) ∧ h.1 61 29 = nI (D 29) ∧ h.1 61 30 = nI (D 30) ∧ h.1 61 31 = nI (D 31) ∧ h.1 61 32 = nI (D 32) ∧ h.1 61 33 = nI (D 33) ∧ h.1 61 34 = nI (D 34) ∧ h.1 61 35 = nI (D 35) ∧ h.1 61 36 = nI (D 36) :=
  ⟨(A 0 (by decide)).1, (A 1 (by decide)).1, (A 2 (by decide)).1, (A 3 (by decide)).1, (A 4 (by decide)).1, (A 5 (by decide)).1, (A 6 (by decide)).1, (A 7 (by decide)).1, (A 8 (by decide)).1⟩
theorem vV_s {g g' h h' : et_G} (f : fq w_st g g') (f' : fq w_ms h h') (V : vV D g h) : vV D g' h' := by
  obtain ⟨A, B, L, N, H, W, T, R⟩ := V
  refine ⟨vA_g A f f' (fun j hj => match j, hj with | 0, _ => Or.inl ⟨rfl, rfl, rfl⟩ | 1, _ => Or.inl ⟨rfl, rfl, rfl⟩ | 2, _ => Or.inl ⟨rfl, rfl, rfl⟩ | 3, _ => Or.inl ⟨rfl, rfl, rfl⟩ | 4, _ => Or.inl ⟨rfl, rfl, rfl⟩ | 5, _ => Or.inl ⟨rfl, rfl, rfl⟩ | 6, _ => Or.inl ⟨rfl, rfl, rfl⟩ | 7, _ => Or.inl ⟨rfl, rfl, rfl⟩ | 8, _ => Or.inl ⟨rfl, rfl, rfl⟩ | j + 9, hj => absurd hj (by omega)), B, vL_q f f' (fun _ => rfl) (fun _ => rfl) (fun _ => rfl) (fun _ => rfl) (fun _ => rfl) (fun _ => rfl) rfl rfl rfl L, vN_q f f' (fun _ => rfl) (fun _ => rfl) N, vH_q f f' (fun _ => rfl) (fun _ => rfl) (fun z => ⟨z, rfl⟩) H, vW_q f f' (fun _ => rfl) (fun _ => rfl) W, vT_q f f' (fun _ => rfl) (fun _ => rfl) (fun _ => rfl) rfl rfl (fun _ => rfl) (Nat.le_refl _) (fun z => ⟨rfl, z⟩) rfl B.2.2.2.2.2.2.2.2 T, vR_q f f' (fun _ => rfl) (fun _ => rfl) (fun _ => rfl) rfl (Nat.le_refl _) R⟩
theorem semi1 {i a : Nat} {g h : et_G} (hn : n ≤ 800) (hb8 : ∀ i, i < 800 → S 71 i < 256) (hi : i ≤ a) (t : tC S n a g0 g) (t' : uM S n a h0 h) (V : vV D g h) : e2 (fn_Re_isSemicolon g) (fn_Mo_line_470 h) (lQ S n i g0 h0) := by
  unfold fn_Re_isSemicolon fn_Mo_line_470 fn_Mo_line_484 fn_Mo_need
  have k4 := tkK_4 (S := S) n a
  rw [t.2.1.2.1, t'.2.2.2.1.2.1, gd_1 t', bd_s]
  by_cases q : tkK S n a = 3
  · rw [q, if_pos (show nI 3 = (3 : Int32) from rfl), if_pos (show nI 3 = (3 : Int32) from rfl), if_neg (by decide), if_neg (by decide)]
    obtain ⟨x0, h', E0, u, w⟩ := stp_m hn hb8 t' (by omega) (by omega)
    rw [E0, bd_s, bd_s]
    exact e2_q (Or.inl ⟨rfl, D, tkE S n a, by have := tx_3 q; omega, t.1, u, vV_s (fq_r _ _) w V⟩)
  · have nq : ¬ nI (tkK S n a) = (3 : Int32) := fun w => q ((nI_eq (b := 3) (by omega) (by decide)).mp w)
    rw [if_neg nq, if_neg nq, bd_s, if_neg (by decide), if_pos rfl]
    refine e2_l (ref_c t (f := 1) (by decide)) (fun v g' ⟨e, c⟩ => ?_)
    obtain ⟨x0, h', E0, u, w⟩ := fau_m t' (f := 1) (by decide)
    rw [e, if_pos rfl, show fn_Mo_faults (1 : Int32) h = _ from E0, bd_s, bd_s]
    exact e2_q (lq_f c u)
theorem semi0 {i b : Nat} {g h : et_G} (hn : n ≤ 800) (hb8 : ∀ i, i < 800 → S 71 i < 256) (hi : i ≤ bk S n b) (c : kC S n b g0 g) (t' : uM S n (bk S n b) h0 h) (V : vV D g h) : e2 (fn_Re_semicolon g) (fn_Mo_line_470 h) (lQ S n i g0 h0) := by
  unfold fn_Re_semicolon
  exact e2_l (stp_c hn hb8 c) (fun _ g1 ⟨t, w⟩ => lq_a (semi1 hn hb8 hi t t' (vV_s w (fq_r _ _) V)))
theorem le2_73 {i s : Nat} {P : Nat → Prop} {g h : et_G} (hn : n ≤ 800) (hb8 : ∀ i, i < 800 → S 71 i < 256) (c : kC S n i g0 g) (t : uM S n (bk S n i) h0 h) (A : vS P g h) (hs : s < 46) (hk : sK s = 73) (hf : leF S n (bk S n i) = 0) : ∃ g' h' m, fn_Re_letters_16 (nI s) g = some (1, g') ∧ fn_Mo_word0_73 (nI (sO s)) h = some ((), h') ∧ tC S n (bk S n i) g0 g' ∧ uM S n (bk S n (tkE S n (bk S n i))) h0 h' ∧ fq (wS (fun k _ => k == 17 || k == 18)) g g' ∧ fq (mS (fun k _ => k == 73)) h h' ∧ vS (fun x => P x ∨ x = s) g' h' ∧ 1 ≤ m ∧ m ≤ 8 ∧ g'.1 18 s = nI m ∧ (∀ j, j ≠ s → g'.1 18 j = g.1 18 j) ∧ h'.1 73 (sO s) = nI m ∧ (∀ q, (q < sO s ∨ sO s + 9 ≤ q) → h'.1 73 q = h.1 73 q) := by
  obtain ⟨f1, f2⟩ := leF_0 hf
  obtain ⟨z0, z1, z2, z3, z4, z5, z6⟩ := tx_1 f1
  obtain ⟨v, g', e1, rfl, u, x, y⟩ := le_c1 hn hb8 c hs hf
  obtain ⟨v', h', e3, t', x', y'⟩ := w01_73 (o := sO s) hn hb8 hf (by have := sKO s hs; omega) t
  refine ⟨g', h', _, e1, e3, u, t', x, x', vS_p hs f2 A y (by rw [hk]; exact y') (fun k q k1 k2 k3 => x'.1 k q ?_) (by rw [z1]; exact z6), by omega, f2, y.1, y.2.1, y'.1, y'.2.2⟩
  rw [hk] at k3
  show ((k == 61 && (Nat.ble 22 q && Nat.ble q 26)) || (k == 73)) = false
  rw [show (k == 61) = false from beq_eq_false_iff_ne.mpr (by omega), show (k == 73) = false from beq_eq_false_iff_ne.mpr k3]
  rfl
theorem le2_74 {i s : Nat} {P : Nat → Prop} {g h : et_G} (hn : n ≤ 800) (hb8 : ∀ i, i < 800 → S 71 i < 256) (c : kC S n i g0 g) (t : uM S n (bk S n i) h0 h) (A : vS P g h) (hs : s < 46) (hk : sK s = 74) (hf : leF S n (bk S n i) = 0) : ∃ g' h' m, fn_Re_letters_16 (nI s) g = some (1, g') ∧ fn_Mo_word0_74 (nI (sO s)) h = some ((), h') ∧ tC S n (bk S n i) g0 g' ∧ uM S n (bk S n (tkE S n (bk S n i))) h0 h' ∧ fq (wS (fun k _ => k == 17 || k == 18)) g g' ∧ fq (mS (fun k _ => k == 74)) h h' ∧ vS (fun x => P x ∨ x = s) g' h' ∧ 1 ≤ m ∧ m ≤ 8 ∧ g'.1 18 s = nI m ∧ (∀ j, j ≠ s → g'.1 18 j = g.1 18 j) ∧ h'.1 74 (sO s) = nI m ∧ (∀ q, (q < sO s ∨ sO s + 9 ≤ q) → h'.1 74 q = h.1 74 q) := by
  obtain ⟨f1, f2⟩ := leF_0 hf
  obtain ⟨z0, z1, z2, z3, z4, z5, z6⟩ := tx_1 f1
  obtain ⟨v, g', e1, rfl, u, x, y⟩ := le_c1 hn hb8 c hs hf
  obtain ⟨v', h', e3, t', x', y'⟩ := w01_74 (o := sO s) hn hb8 hf (by have := sKO s hs; omega) t
  refine ⟨g', h', _, e1, e3, u, t', x, x', vS_p hs f2 A y (by rw [hk]; exact y') (fun k q k1 k2 k3 => x'.1 k q ?_) (by rw [z1]; exact z6), by omega, f2, y.1, y.2.1, y'.1, y'.2.2⟩
  rw [hk] at k3
  show ((k == 61 && (Nat.ble 22 q && Nat.ble q 26)) || (k == 74)) = false
  rw [show (k == 61) = false from beq_eq_false_iff_ne.mpr (by omega), show (k == 74) = false from beq_eq_false_iff_ne.mpr k3]
  rfl
theorem le2_75 {i s : Nat} {P : Nat → Prop} {g h : et_G} (hn : n ≤ 800) (hb8 : ∀ i, i < 800 → S 71 i < 256) (c : kC S n i g0 g) (t : uM S n (bk S n i) h0 h) (A : vS P g h) (hs : s < 46) (hk : sK s = 75) (hf : leF S n (bk S n i) = 0) : ∃ g' h' m, fn_Re_letters_16 (nI s) g = some (1, g') ∧ fn_Mo_word0_75 (nI (sO s)) h = some ((), h') ∧ tC S n (bk S n i) g0 g' ∧ uM S n (bk S n (tkE S n (bk S n i))) h0 h' ∧ fq (wS (fun k _ => k == 17 || k == 18)) g g' ∧ fq (mS (fun k _ => k == 75)) h h' ∧ vS (fun x => P x ∨ x = s) g' h' ∧ 1 ≤ m ∧ m ≤ 8 ∧ g'.1 18 s = nI m ∧ (∀ j, j ≠ s → g'.1 18 j = g.1 18 j) ∧ h'.1 75 (sO s) = nI m ∧ (∀ q, (q < sO s ∨ sO s + 9 ≤ q) → h'.1 75 q = h.1 75 q) := by
  obtain ⟨f1, f2⟩ := leF_0 hf
  obtain ⟨z0, z1, z2, z3, z4, z5, z6⟩ := tx_1 f1
  obtain ⟨v, g', e1, rfl, u, x, y⟩ := le_c1 hn hb8 c hs hf
  obtain ⟨v', h', e3, t', x', y'⟩ := w01_75 (o := sO s) hn hb8 hf (by have := sKO s hs; omega) t
  refine ⟨g', h', _, e1, e3, u, t', x, x', vS_p hs f2 A y (by rw [hk]; exact y') (fun k q k1 k2 k3 => x'.1 k q ?_) (by rw [z1]; exact z6), by omega, f2, y.1, y.2.1, y'.1, y'.2.2⟩
  rw [hk] at k3
  show ((k == 61 && (Nat.ble 22 q && Nat.ble q 26)) || (k == 75)) = false
  rw [show (k == 61) = false from beq_eq_false_iff_ne.mpr (by omega), show (k == 75) = false from beq_eq_false_iff_ne.mpr k3]
  rfl
theorem le2_76 {i s : Nat} {P : Nat → Prop} {g h : et_G} (hn : n ≤ 800) (hb8 : ∀ i, i < 800 → S 71 i < 256) (c : kC S n i g0 g) (t : uM S n (bk S n i) h0 h) (A : vS P g h) (hs : s < 46) (hk : sK s = 76) (hf : leF S n (bk S n i) = 0) : ∃ g' h' m, fn_Re_letters_16 (nI s) g = some (1, g') ∧ fn_Mo_word0_76 (nI (sO s)) h = some ((), h') ∧ tC S n (bk S n i) g0 g' ∧ uM S n (bk S n (tkE S n (bk S n i))) h0 h' ∧ fq (wS (fun k _ => k == 17 || k == 18)) g g' ∧ fq (mS (fun k _ => k == 76)) h h' ∧ vS (fun x => P x ∨ x = s) g' h' ∧ 1 ≤ m ∧ m ≤ 8 ∧ g'.1 18 s = nI m ∧ (∀ j, j ≠ s → g'.1 18 j = g.1 18 j) ∧ h'.1 76 (sO s) = nI m ∧ (∀ q, (q < sO s ∨ sO s + 9 ≤ q) → h'.1 76 q = h.1 76 q) := by
  obtain ⟨f1, f2⟩ := leF_0 hf
  obtain ⟨z0, z1, z2, z3, z4, z5, z6⟩ := tx_1 f1
  obtain ⟨v, g', e1, rfl, u, x, y⟩ := le_c1 hn hb8 c hs hf
  obtain ⟨v', h', e3, t', x', y'⟩ := w01_76 (o := sO s) hn hb8 hf (by have := sKO s hs; omega) t
  refine ⟨g', h', _, e1, e3, u, t', x, x', vS_p hs f2 A y (by rw [hk]; exact y') (fun k q k1 k2 k3 => x'.1 k q ?_) (by rw [z1]; exact z6), by omega, f2, y.1, y.2.1, y'.1, y'.2.2⟩
  rw [hk] at k3
  show ((k == 61 && (Nat.ble 22 q && Nat.ble q 26)) || (k == 76)) = false
  rw [show (k == 61) = false from beq_eq_false_iff_ne.mpr (by omega), show (k == 76) = false from beq_eq_false_iff_ne.mpr k3]
  rfl
theorem ln_0 {a : Nat} {g h : et_G} (hn : n ≤ 800) (hb8 : ∀ i, i < 800 → S 71 i < 256) (t : tC S n a g0 g) (t' : uM S n a h0 h) (V : vV D g h) (k1 : tkK S n a = 1) : e2 (fn_Re_stemLine_16 g) (if (h.1 61 28) = (12 : Int32) then et_bd (fn_Mo_faults (2 : Int32) h) (fun _ g99 => fn_Mo_line_22 g99) else fn_Mo_line_22 h) (lQ S n a g0 h0) := by
  obtain ⟨c28, c29, c30, c31, c32, c33, c35, c36⟩ := vA_c V.1
  obtain ⟨m28, m29, m30, m31, m32, m33, m34, m35, m36⟩ := vA_m V.1
  have B := V.2.1
  obtain ⟨b28, b29, b30, b31, b32, b33, b34, b35, b36⟩ := V.2.1
  unfold fn_Re_stemLine_16
  rw [c28, m28]
  by_cases q : D 28 = 12
  · rw [if_neg (show ¬ nI (D 28) < (12 : Int32) from nI_nlt (b := 12) (by omega) (by omega)), if_pos (show nI (D 28) = (12 : Int32) from by rw [q]; rfl)]
    refine e2_l (ref_c t (f := 2) (by decide)) (fun v g' ⟨e, c⟩ => ?_)
    refine e2_r (fau_m t' (f := 2) (by decide)) (fun _ h' ⟨c', w⟩ => ?_)
    unfold fn_Mo_line_22
    rw [gd_0 c', bd_s, if_pos rfl, e]
    exact e2_q (lq_f c c')
  · rw [if_pos (show nI (D 28) < (12 : Int32) from nI_lt (b := 12) (by omega) (by decide)), if_neg (show ¬ nI (D 28) = (12 : Int32) from fun w => q ((nI_eq (b := 12) (by omega) (by decide)).mp w))]
    unfold fn_Mo_line_22
    rw [gd_1 t', bd_s, if_neg (by decide)]
    refine e2_r (stp_m hn hb8 t' (by omega) (by omega)) (fun _ h1 ⟨t1, w1⟩ => ?_)
    have V1 := vV_s (fq_r w_st g) w1 V
    rw [show h1.1 61 28 = nI (D 28) from (w1.1 61 28 rfl).trans m28, show (9 : Int32) * nI (D 28) = nI (9 * D 28) from pk_mul 9 _]
    have hb := bk_b S t.1.2.2.2.2.1
    have ea := (tkE_b (S := S) t.2.2).1
    by_cases f : leF S n (bk S n (tkE S n a)) = 0
    · have so : sO (D 28) = 9 * D 28 := by unfold sO; rw [if_pos (by omega)]
      obtain ⟨g1, h2, m, E1, E3, u1, t2, x1, x2, ls, l1, l8, l18, lo, -, -⟩ := le2_73 hn hb8 t.1 t1 V1.2.2.1.1 (s := D 28) (by omega) (by unfold sK; rw [if_pos (by omega)]) f
      rw [so] at E3
      have hb2 := bk_b S u1.1.2.2.2.2.1
      have ea2 := (tkE_b (S := S) u1.2.2).1
      rw [E1, E3, bd_s, bd_s, if_neg (by decide), gd_1 t2, bd_s, if_neg (by decide), show g1.1 16 2 = nI (D 28) from (x1.1 16 2 rfl).trans c28, show h2.1 61 28 = nI (D 28) from (x2.1 61 28 rfl).trans ((w1.1 61 28 rfl).trans m28), show nI (D 28) + (1 : Int32) = nI (D 28 + 1) from nI_add _ 1]
      have F : fq (wS (fun k j => k == 17 || k == 18 || (k == 16 && j == 2))) g (et_si g1 16 2 (nI (D 28 + 1))) := fq_s (wS_m x1 (fun k j e => (Bool.or_eq_false_iff.mp e).1)) rfl
      have F' : fq (mS (fun k j => k == 73 || (k == 61 && j == 28))) h (et_si h2 61 28 (nI (D 28 + 1))) := fq_s (fq_t (mS_l w1) (mS_m x2 (fun k j e => (Bool.or_eq_false_iff.mp e).1))) rfl
      obtain ⟨A, -, L, N, H, W, T, R⟩ := V
      refine e2_b (e2_d (lq_a (semi0 (D := dU D 28 (D 28 + 1)) hn hb8 (by omega) (kC_s u1.1 rfl) (uM_s t2 rfl) ⟨vA_g A F F' (fun j hj => match j, hj with | 0, _ => Or.inr ⟨si_e, fun z => si_e⟩ | 1, _ => Or.inl ⟨rfl, rfl, rfl⟩ | 2, _ => Or.inl ⟨rfl, rfl, rfl⟩ | 3, _ => Or.inl ⟨rfl, rfl, rfl⟩ | 4, _ => Or.inl ⟨rfl, rfl, rfl⟩ | 5, _ => Or.inl ⟨rfl, rfl, rfl⟩ | 6, _ => Or.inl ⟨rfl, rfl, rfl⟩ | 7, _ => Or.inl ⟨rfl, rfl, rfl⟩ | 8, _ => Or.inl ⟨rfl, rfl, rfl⟩ | j + 9, hj => absurd hj (by omega)), ⟨show D 28 + 1 ≤ 12 by omega, B.2⟩, ⟨?_, ?_⟩, vN_q F F' (fun _ => rfl) (fun _ => rfl) N, vH_q F F' (fun _ => rfl) (fun _ => rfl) (fun z => ⟨z, rfl⟩) H, vW_q F F' (fun _ => rfl) (fun _ => rfl) W, vT_q F F' (fun _ => rfl) (fun _ => rfl) (fun _ => rfl) rfl rfl (fun _ => rfl) (show D 28 ≤ D 28 + 1 by omega) (fun z => ⟨rfl, z⟩) rfl b36 T, vR_q F F' (fun _ => rfl) (fun _ => rfl) (fun _ => rfl) rfl (Nat.le_refl _) R⟩)))
      · have ls2 := vS_q (g' := et_si g1 16 2 (nI (D 28 + 1))) (h' := et_si h2 61 28 (nI (D 28 + 1))) (W := fun k j => k == 16 && j == 2) (W' := fun k j => k == 61 && j == 28) (fq_s (fq_r _ _) rfl) (fq_s (fq_r _ _) rfl) (fun _ => rfl) (fun _ => rfl) (fun _ => rfl) (fun _ => rfl) (fun _ => rfl) (fun _ => rfl) ls
        refine fun s hs p => ls2 s hs ?_
        have p : s < D 28 + 1 ∨ (12 ≤ s ∧ s < 27) ∨ (27 ≤ s ∧ s < 27 + 3 * D 29) ∨ s = 45 := p
        show (s < D 28 ∨ (12 ≤ s ∧ s < 27) ∨ (27 ≤ s ∧ s < 27 + 3 * D 29) ∨ s = 45) ∨ s = D 28
        omega
      · obtain ⟨m5, y1, y2, y3⟩ := L.2
        refine ⟨m5, y1, ?_, y3⟩
        rw [si_x (by decide), lo 45 (by omega)]; exact y2
    · refine e2_l (le_c0 hn hb8 t.1 f) (fun v g' ⟨e, c⟩ => ?_)
      refine e2_r (w00_73 hn f t1) (fun _ h' c' => ?_)
      rw [e, if_pos rfl, gd_0 c', bd_s, if_pos rfl, l47_0 c']
      exact e2_q (lq_f c c')
end LN
