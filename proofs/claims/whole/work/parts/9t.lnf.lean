/-! village: thing, whole -/
def k17 (x1 v15 : Int32) (g16 : et_G) : Option (Unit × et_G) := et_ck (et_ib (x1 + (2 : Int32)) 40) (et_b (et_si g16 77 (x1 + (2 : Int32)).toNatClampNeg v15) (fun g17 => et_bd (fn_Mo_isGood g17) (fun v18 g19 => if v18 = 0 then fn_Mo_readsThing_164 x1 (x1 + (3 : Int32)) g19 else et_bd (fn_Mo_is (11 : Int32) g19) (fun v33 g34 => if v33 = 0 then fn_Mo_readsThing_164 x1 (x1 + (3 : Int32)) g34 else fn_Mo_readsThing_165 x1 (1 : Int32) (x1 + (3 : Int32)) g34))))
def k14 (x1 v12 : Int32) (g13 : et_G) : Option (Unit × et_G) := et_ck (et_ib (x1 + (1 : Int32)) 40) (et_b (et_si g13 77 (x1 + (1 : Int32)).toNatClampNeg v12) (fun g14 => et_bd (fn_Mo_number (0 : Int32) (23 : Int32) g14) (fun v15 g16 => k17 x1 v15 g16)))
theorem r106_k (x1 : Int32) (g : et_G) : fn_Mo_readsThing_106 x1 g = et_bd (fn_Mo_among (g.1 61 30) g) (fun v12 g13 => k14 x1 v12 g13) := rfl
section LF
variable {S : et_T} {n : Nat} {g0 h0 : et_G} {D : Nat → Nat} {gs hs : et_G}
theorem tC_s {a k j : Nat} {g : et_G} {x : Int32} (c : tC S n a g0 g) (h : ((Nat.ble 15 k && Nat.ble k 27 && !(k == 15 && j == 3) && !(k == 17)) || (k == 28 && (j == 7 || j == 8))) = true) : tC S n a g0 (et_si g k j x) := by
  obtain ⟨c0, ⟨t4, t3, t2, t5, t6⟩, ha⟩ := c
  have hk : (15 ≤ k ∧ k ≤ 27) ∨ (k = 28 ∧ (j = 7 ∨ j = 8)) := by
    simp only [Bool.or_eq_true, Bool.and_eq_true, beq_iff_eq, Nat.ble_eq] at h
    omega
  refine ⟨kC_s c0 h, ⟨?_, ?_, ?_, ?_, ?_⟩, ha⟩
  all_goals
    rw [si_g, if_neg (by omega)]; assumption
theorem q182 {f a t : Nat} {h : et_G} (c : fM n f a h0 h) (h8 : t < 8) : ∃ h', fn_Mo_readsThing_182 (nI (5 * t)) h = some ((), h') ∧ fM n f a h0 h' := by
  have c1 := fM_s (k := 77) (j := 5 * t + 4) (x := 0) c rfl
  refine ⟨et_si h 77 (5 * t + 4) 0, ?_, c1⟩
  unfold fn_Mo_readsThing_182
  rw [gd_0 c, bd_s, if_pos rfl]
  unfold fn_Mo_readsThing_209 fn_Mo_readsThing_210
  rw [show nI (5 * t) + (4 : Int32) = nI (5 * t + 4) from nI_add _ 4, ib_e (5 * t + 4) 40 (by omega) (by decide), ck_t, nI_clamp (by omega)]
  show (if ((et_si h 77 (5 * t + 4) 0).1 77 (5 * t + 4)) = (1 : Int32) then _ else fn_Mo_readsThing_227 (et_si h 77 (5 * t + 4) 0)) = _
  rw [si_e, if_neg (by decide)]
  unfold fn_Mo_readsThing_227
  rw [gd_0 c1, bd_s, if_pos rfl]
theorem q164 {f a t : Nat} {h : et_G} (c : fM n f a h0 h) (h8 : t < 8) : ∃ h', fn_Mo_readsThing_164 (nI (5 * t)) (nI (5 * t) + (3 : Int32)) h = some ((), h') ∧ fM n f a h0 h' := by
  have c1 := fM_s (k := 77) (j := 5 * t + 3) (x := 0) c rfl
  obtain ⟨h', e, c2⟩ := q182 c1 h8
  refine ⟨h', ?_, c2⟩
  unfold fn_Mo_readsThing_164 fn_Mo_readsThing_165
  rw [show nI (5 * t) + (3 : Int32) = nI (5 * t + 3) from nI_add _ 3, ib_e (5 * t + 3) 40 (by omega) (by decide), ck_t, nI_clamp (by omega)]
  show (if ((et_si h 77 (5 * t + 3) 0).1 77 (5 * t + 3)) = (1 : Int32) then _ else fn_Mo_readsThing_182 (nI (5 * t)) (et_si h 77 (5 * t + 3) 0)) = _
  rw [si_e, if_neg (by decide), e]
theorem q17 {f a t : Nat} {h : et_G} {x : Int32} (c : fM n f a h0 h) (h8 : t < 8) : ∃ h', k17 (nI (5 * t)) x h = some ((), h') ∧ fM n f a h0 h' := by
  have c1 := fM_s (k := 77) (j := 5 * t + 2) (x := x) c rfl
  obtain ⟨h', e, c2⟩ := q164 c1 h8
  refine ⟨h', ?_, c2⟩
  unfold k17
  rw [show nI (5 * t) + (2 : Int32) = nI (5 * t + 2) from nI_add _ 2, ib_e (5 * t + 2) 40 (by omega) (by decide), ck_t, nI_clamp (by omega)]
  show et_bd (fn_Mo_isGood (et_si h 77 (5 * t + 2) x)) _ = _
  rw [gd_0 c1, bd_s, if_pos rfl, e]
theorem q14 {f a t : Nat} {h : et_G} {x : Int32} (c : fM n f a h0 h) (h8 : t < 8) : ∃ h', k14 (nI (5 * t)) x h = some ((), h') ∧ fM n f a h0 h' := by
  have c1 := fM_s (k := 77) (j := 5 * t + 1) (x := x) c rfl
  obtain ⟨h', e, c2⟩ := q17 (x := 0) c1 h8
  refine ⟨h', ?_, c2⟩
  unfold k14
  rw [show nI (5 * t) + (1 : Int32) = nI (5 * t + 1) from nI_add _ 1, ib_e (5 * t + 1) 40 (by omega) (by decide), ck_t, nI_clamp (by omega)]
  show et_bd (fn_Mo_number 0 23 (et_si h 77 (5 * t + 1) x)) _ = _
  rw [num_0 c1, bd_s, e]
theorem q85 {f a t : Nat} {h : et_G} (c : fM n f a h0 h) (h8 : t < 8) : ∃ h', fn_Mo_readsThing_85 (nI (5 * t)) h = some ((), h') ∧ fM n f a h0 h' := by
  have c1 := fM_s (k := 77) (j := 5 * t) (x := h.1 61 26) c rfl
  obtain ⟨h', e, c2⟩ := q14 (x := 0) c1 h8
  refine ⟨h', ?_, c2⟩
  unfold fn_Mo_readsThing_85
  rw [ib_e (5 * t) 40 (by omega) (by decide), ck_t, nI_clamp (by omega)]
  show et_bd (fn_Mo_isGood (et_si h 77 (5 * t) (h.1 61 26))) _ = _
  rw [gd_0 c1, bd_s, if_pos rfl, r106_k, am_0 c1, bd_s, e]
theorem tos_n {x T : Nat} {g : et_G} (hT : T ≤ 8) (h5 : g.1 15 5 = nI T) (hx : ∀ t, t < T → ¬ g.1 22 t = nI x) : ∀ d m k, k + d = T → d < m → fn_Tw_thingOfStem_15_2 (nI x) m (nI k) g = some (-1, g) := by
  intro d
  induction d with
  | zero =>
    intro m k hk hm
    obtain ⟨m, rfl⟩ : ∃ q, m = q + 1 := ⟨m - 1, by omega⟩
    rw [fn_Tw_thingOfStem_15_2, h5, if_pos (nI_le (by omega) (by omega))]
  | succ d ih =>
    intro m k hk hm
    obtain ⟨m, rfl⟩ : ∃ q, m = q + 1 := ⟨m - 1, by omega⟩
    rw [fn_Tw_thingOfStem_15_2, h5, if_neg (nI_ge (by omega) (by omega)), ib_e k 8 (by omega) (by decide), ck_t, nI_clamp (by omega), if_neg (hx k (by omega))]
    show fn_Tw_thingOfStem_15_2 (nI x) m (nI k + nI 1) g = _
    rw [nI_add]
    exact ih m (k + 1) (by omega) (by omega)
theorem tos_y {x T : Nat} {g : et_G} (hT : T ≤ 8) (h5 : g.1 15 5 = nI T) : ∀ d m k, k + d = T → d < m → (∃ t, k ≤ t ∧ t < T ∧ g.1 22 t = nI x) → ∃ r, r < 8 ∧ fn_Tw_thingOfStem_15_2 (nI x) m (nI k) g = some (nI r, g) := by
  intro d
  induction d with
  | zero => intro m k hk hm ⟨t, h1, h2, h3⟩; omega
  | succ d ih =>
    intro m k hk hm ⟨t, h1, h2, h3⟩
    obtain ⟨m, rfl⟩ : ∃ q, m = q + 1 := ⟨m - 1, by omega⟩
    rw [fn_Tw_thingOfStem_15_2, h5, if_neg (nI_ge (by omega) (by omega)), ib_e k 8 (by omega) (by decide), ck_t, nI_clamp (by omega)]
    by_cases e : g.1 22 k = nI x
    · rw [if_pos e]; exact ⟨k, by omega, rfl⟩
    · rw [if_neg e]
      show ∃ r, r < 8 ∧ fn_Tw_thingOfStem_15_2 (nI x) m (nI k + nI 1) g = _
      rw [nI_add]
      exact ih m (k + 1) (by omega) (by omega) ⟨t, by by_cases z : t = k
                                                      · subst z; exact absurd h3 e
                                                      · omega, h2, h3⟩
theorem fau_n {a f : Nat} {h : et_G} (t : uM S n a h0 h) (hf : 1 ≤ f ∧ f ≤ 5) : ev_Q (fn_Mo_faults (nI f) h) (fun _ h' => fM n f a h0 h' ∧ fq (fun k j => k == 61 && (j == 18 || j == 19)) h h') := by
  obtain ⟨f0, ht, h1, ⟨t4, t3, t2, t5, t6, t7⟩, ha, h18, h19⟩ := t
  unfold fn_Mo_faults
  rw [h18, if_pos nI_0]
  refine eb_q (eb_q (ev_r ⟨⟨fq_s (fq_s f0 rfl) rfl, ?_, ?_, hf.1, hf.2, ha⟩, fq_s (fq_s (fq_r _ _) rfl) rfl⟩))
  · rw [si_j (by decide), si_e]
  · rw [si_e, si_j (by decide), t4]
theorem th_f {f a T : Nat} {h : et_G} {x1 : Int32} (c : fM n f a h0 h) (hT : T ≤ 8) (h5 : h.1 61 32 = nI T) : ∀ d m k, k + d = T → d < m → fn_Mo_readsThing_51 x1 m (nI k) h = fn_Mo_readsThing_85 x1 h := by
  intro d
  induction d with
  | zero =>
    intro m k hk hm
    obtain ⟨m, rfl⟩ : ∃ q, m = q + 1 := ⟨m - 1, by omega⟩
    rw [fn_Mo_readsThing_51, h5, if_pos (nI_le (by omega) (by omega))]
  | succ d ih =>
    intro m k hk hm
    obtain ⟨m, rfl⟩ : ∃ q, m = q + 1 := ⟨m - 1, by omega⟩
    rw [fn_Mo_readsThing_51, h5, if_neg (nI_ge (by omega) (by omega)), show (5 : Int32) * nI k = nI (5 * k) from pk_mul 5 _, ib_e (5 * k) 40 (by omega) (by decide), ck_t, fau_0 c, bd_s, show nI k + (1 : Int32) = nI (k + 1) from nI_add _ 1]
    show (if (h.1 77 (nI (5 * k)).toNatClampNeg) = (h.1 61 26) then fn_Mo_readsThing_51 x1 m (nI (k + 1)) h else fn_Mo_readsThing_51 x1 m (nI (k + 1)) h) = _
    rw [ih m (k + 1) (by omega) (by omega)]
    split <;> rfl
theorem th_n {x T : Nat} {h : et_G} {x1 : Int32} (hT : T ≤ 8) (h5 : h.1 61 32 = nI T) (h6 : h.1 61 26 = nI x) (hx : ∀ t, t < T → ¬ h.1 77 (5 * t) = nI x) : ∀ d m k, k + d = T → d < m → fn_Mo_readsThing_51 x1 m (nI k) h = fn_Mo_readsThing_85 x1 h := by
  intro d
  induction d with
  | zero =>
    intro m k hk hm
    obtain ⟨m, rfl⟩ : ∃ q, m = q + 1 := ⟨m - 1, by omega⟩
    rw [fn_Mo_readsThing_51, h5, if_pos (nI_le (by omega) (by omega))]
  | succ d ih =>
    intro m k hk hm
    obtain ⟨m, rfl⟩ : ∃ q, m = q + 1 := ⟨m - 1, by omega⟩
    rw [fn_Mo_readsThing_51, h5, if_neg (nI_ge (by omega) (by omega)), show (5 : Int32) * nI k = nI (5 * k) from pk_mul 5 _, ib_e (5 * k) 40 (by omega) (by decide), ck_t, nI_clamp (by omega), h6, if_neg (hx k (by omega)), show nI k + (1 : Int32) = nI (k + 1) from nI_add _ 1]
    exact ih m (k + 1) (by omega) (by omega)
theorem th_y {a x T : Nat} {h : et_G} {x1 : Int32} (u : uM S n a h0 h) (hT : T ≤ 8) (h5 : h.1 61 32 = nI T) (h6 : h.1 61 26 = nI x) : ∀ d m k, k + d = T → d < m → (∃ t, k ≤ t ∧ t < T ∧ h.1 77 (5 * t) = nI x) → ∃ h', fn_Mo_readsThing_51 x1 m (nI k) h = fn_Mo_readsThing_85 x1 h' ∧ fM n 4 a h0 h' := by
  intro d
  induction d with
  | zero => intro m k hk hm ⟨t, h1, h2, h3⟩; omega
  | succ d ih =>
    intro m k hk hm ⟨t, h1, h2, h3⟩
    obtain ⟨m, rfl⟩ : ∃ q, m = q + 1 := ⟨m - 1, by omega⟩
    rw [fn_Mo_readsThing_51, h5, if_neg (nI_ge (by omega) (by omega)), show (5 : Int32) * nI k = nI (5 * k) from pk_mul 5 _, ib_e (5 * k) 40 (by omega) (by decide), ck_t, nI_clamp (by omega), h6, show nI k + (1 : Int32) = nI (k + 1) from nI_add _ 1]
    by_cases e : h.1 77 (5 * k) = nI x
    · rw [if_pos e]
      obtain ⟨x0, h', E, c, w⟩ := fau_n u (f := 4) (by decide)
      rw [show fn_Mo_faults (4 : Int32) h = _ from E, bd_s]
      refine ⟨h', ?_, c⟩
      exact th_f c hT ((w.1 61 32 rfl).trans h5) d m (k + 1) (by omega) (by omega)
    · rw [if_neg e]
      exact ih m (k + 1) (by omega) (by omega) ⟨t, by by_cases z : t = k
                                                      · subst z; exact absurd h3 e
                                                      · omega, h2, h3⟩
theorem sg_1 {a i t s p q : Nat} {g h : et_G} (hn : n ≤ 800) (hb8 : ∀ i, i < 800 → S 71 i < 256) (V : vV D gs hs) (ht : t = D 32) (h8 : t < 8) (b1 : s < D 28) (b2 : p < D 30) (b3 : q < 24) (ac : a ≤ bk S n i) (u : kC S n i g0 g) (u' : uM S n (bk S n i) h0 h) (Y : yT gs hs t s p q 0 0 g h) : e2 (fn_Re_thingSigns_15 (nI t) g) (et_bd (et_bd (fn_Mo_is (11 : Int32) h) (fun v33 g34 => if v33 = 0 then fn_Mo_readsThing_164 (nI (5 * t)) (nI (5 * t) + (3 : Int32)) g34 else fn_Mo_readsThing_165 (nI (5 * t)) (1 : Int32) (nI (5 * t) + (3 : Int32)) g34)) (fun _ g44 => fn_Mo_line_470 g44)) (lQ S n a g0 h0) := by
  unfold fn_Re_thingSigns_15 fn_Re_is_loud
  obtain ⟨x1, g1, E1, u1, y1⟩ := stp_c hn hb8 u
  have Y0 := yT_s y1 (fq_r _ h) Y
  generalize bk S n i = c at u1 u' ac
  rw [E1, bd_s, is_c (k := 11) (by decide) hn hb8 u1.1.2.1 u1.2.1, bd_s, show fn_Mo_is (11 : Int32) h = _ from is_m (k := 11) (by decide) hn u'.2.2.2.1, bd_s, show nI (5 * t) + (3 : Int32) = nI (5 * t + 3) from nI_add _ 3]
  by_cases w : wdP S n c 11
  · rw [bI_t w, if_neg (show ¬ nI 1 = 0 by decide), if_neg (show ¬ nI 1 = 0 by decide)]
    unfold fn_Mo_readsThing_165
    rw [ib_e (5 * t + 3) 40 (by omega) (by decide), ck_t, nI_clamp (by omega)]
    refine e2_b ?_
    show e2 _ (et_bd (et_ck (et_ib (nI (5 * t) + (3 : Int32)) 40) (if ((et_si h 77 (5 * t + 3) 1).1 77 (nI (5 * t) + (3 : Int32)).toNatClampNeg) = (1 : Int32) then et_bd (fn_Mo_steps (et_si h 77 (5 * t + 3) 1)) (fun _ g28 => fn_Mo_readsThing_182 (nI (5 * t)) g28) else fn_Mo_readsThing_182 (nI (5 * t)) (et_si h 77 (5 * t + 3) 1))) _) _
    rw [show nI (5 * t) + (3 : Int32) = nI (5 * t + 3) from nI_add _ 3, ib_e (5 * t + 3) 40 (by omega) (by decide), ck_t, nI_clamp (by omega), si_e, if_pos rfl]
    have kk := w.1
    have Y1 := yT_l (by omega) Y0
    have Y2 := yT_w (j := 5 * t + 3) (x := 1) (Or.inl rfl) Y1
    obtain ⟨x1, g2, E1, u2, y2⟩ := stp_c (i := tkE S n c) hn hb8 (kC_s (k := 15) (j := 9) (x := (g1.1 15 9) ||| ((1 : Int32) <<< (nI t &&& (31 : Int32)))) u1.1 rfl)
    obtain ⟨x2, h2, E2, u3, y3⟩ := stp_m hn hb8 (uM_s (k := 77) (j := 5 * t + 3) (x := 1) u' rfl) (by omega) (by omega)
    rw [E1, E2, bd_s, bd_s]
    have ea := (tkE_b (S := S) u1.2.2).1
    have eb := bk_b S u1.1.2.2.2.2.1
    refine sg_2 (l := 1) hn hb8 V ht h8 b1 b2 b3 (Nat.le_refl 1) (by omega) u2 u3 (yT_s y2 y3 Y2) ?_
    rw [y3.1 77 _ rfl, si_e]; rfl
  · rw [bI_f w, if_pos (show nI 0 = 0 from rfl), if_pos (show nI 0 = 0 from rfl)]
    unfold fn_Mo_readsThing_164 fn_Mo_readsThing_165
    rw [ib_e (5 * t + 3) 40 (by omega) (by decide), ck_t, nI_clamp (by omega)]
    show e2 _ (et_bd (et_ck (et_ib (nI (5 * t) + (3 : Int32)) 40) (if ((et_si h 77 (5 * t + 3) 0).1 77 (nI (5 * t) + (3 : Int32)).toNatClampNeg) = (1 : Int32) then et_bd (fn_Mo_steps (et_si h 77 (5 * t + 3) 0)) (fun _ g28 => fn_Mo_readsThing_182 (nI (5 * t)) g28) else fn_Mo_readsThing_182 (nI (5 * t)) (et_si h 77 (5 * t + 3) 0))) _) _
    rw [show nI (5 * t) + (3 : Int32) = nI (5 * t + 3) from nI_add _ 3, ib_e (5 * t + 3) 40 (by omega) (by decide), ck_t, nI_clamp (by omega), si_e, if_neg (show ¬ (0 : Int32) = 1 by decide)]
    exact sg_2 (l := 0) hn hb8 V ht h8 b1 b2 b3 (by decide) ac u1 (uM_s u' rfl) (yT_w (Or.inl rfl) Y0) (by rw [si_e]; rfl)
theorem ln_7 {a : Nat} {g h : et_G} (hn : n ≤ 800) (hb8 : ∀ i, i < 800 → S 71 i < 256) (t : tC S n a g0 g) (t' : uM S n a h0 h) (V : vV D g h) (k1 : tkK S n a = 1) : e2 (fn_Re_thingLine_15 g) (et_bd (fn_Mo_readsThing h) (fun _ g44 => fn_Mo_line_470 g44)) (lQ S n a g0 h0) := by
  obtain ⟨c28, c29, c30, c31, c32, c33, c35, c36⟩ := vA_c V.1
  obtain ⟨m28, m29, m30, m31, m32, m33, m34, m35, m36⟩ := vA_m V.1
  have B := V.2.1
  obtain ⟨b28, b29, b30, b31, b32, b33, b34, b35, b36⟩ := V.2.1
  have TT := V.2.2.2.2.2.2.1
  unfold fn_Re_thingLine_15 fn_Mo_readsThing
  refine e2_b ?_
  rw [show (et_si g 28 8 1).1 15 5 = nI (D 32) from by rw [si_x (by decide)]; exact c32, m32]
  refine e2_b ?_
  by_cases q8 : D 32 = 8
  · rw [if_neg (show ¬ nI (D 32) < (8 : Int32) from nI_nlt (b := 8) (by omega) (by omega)), if_pos (show nI (D 32) = (8 : Int32) from by rw [q8]; rfl)]
    refine e2_l (ref_c (tC_s (k := 28) (j := 8) (x := 1) t rfl) (f := 2) (by decide)) (fun v g' ⟨e, c⟩ => ?_)
    obtain ⟨x0, h1, E0, c', -⟩ := fau_m t' (f := 2) (by decide)
    rw [e, show fn_Mo_faults (2 : Int32) h = _ from E0, bd_s]
    unfold fn_Mo_readsThing_14
    rw [gd_0 c', bd_s, if_pos rfl, bd_s, l47_0 c']
    exact e2_q (lq_f c c')
  · rw [if_pos (show nI (D 32) < (8 : Int32) from nI_lt (b := 8) (by omega) (by decide)), if_neg (show ¬ nI (D 32) = (8 : Int32) from fun w => q8 ((nI_eq (b := 8) (by omega) (by decide)).mp w))]
    have h8 : D 32 < 8 := by omega
    unfold fn_Mo_readsThing_14
    rw [gd_1 t', bd_s, if_neg (show ¬ (1 : Int32) = 0 by decide)]
    show e2 _ (et_bd (et_bd (fn_Mo_steps (et_si h 61 36 1)) _) _) _
    obtain ⟨x0, h1, E0, t1, w1⟩ := stp_m hn hb8 (uM_s (k := 61) (j := 36) (x := 1) t' rfl) (by omega) (by omega)
    have cc : kC S n (tkE S n a) g0 (et_si g 28 8 1) := kC_s t.1 rfl
    have h32 : h1.1 61 32 = nI (D 32) := by rw [w1.1 61 32 rfl, si_j (by decide)]; exact m32
    rw [E0, bd_s, show (et_si g 28 8 1).1 16 2 = nI (D 28) from by rw [si_x (by decide)]; exact c28, show h1.1 61 28 = nI (D 28) from by rw [w1.1 61 28 rfl, si_j (by decide)]; exact m28, h32, show (5 : Int32) * nI (D 32) = nI (5 * D 32) from pk_mul 5 _]
    show e2 _ (et_bd (et_bd (fn_Mo_amongHere (nI (D 28)) h1) (fun v7 g8 => if v7 = 0 then fn_Mo_readsThing_85 (nI (5 * D 32)) g8 else fn_Mo_readsThing_51 (nI (5 * D 32)) 1000000 (0 : Int32) g8)) _) _
    have ea := (tkE_b (S := S) t.2.2).1
    have eb := bk_b S t.1.2.2.2.2.1
    generalize hb1 : bk S n (tkE S n a) = b1 at t1 eb
    by_cases f1 : onF S n b1 (D 28) = 0
    · obtain ⟨n1, n2, n3⟩ := onF_0 f1
      obtain ⟨x1, g1, E1, rfl, u1, y1⟩ := on_c1 (m := D 28) hn hb8 cc (by omega) (by rw [hb1]; exact f1)
      rw [hb1] at u1
      have c6 := u1.2.1.2.2.2.2
      have m6 := t1.2.2.2.1.2.2.2.2.1
      rw [E1, bd_s, if_neg (show ¬ (1 : Int32) = 0 by decide), c6]
      rw [amh_m1 t1 (by omega) f1, bd_s, if_neg (show ¬ (1 : Int32) = 0 by decide)]
      have v9 := (tx_2 n1).2.2.2.2.2
      generalize hs : tkV S n b1 = s at n3 c6 m6 v9
      have g15 : g1.1 15 5 = nI (D 32) := by rw [y1.1 15 5 rfl, si_x (by decide)]; exact c32
      have g22 : ∀ j, g1.1 22 j = g.1 22 j := fun j => by rw [y1.1 22 j rfl, si_x (by decide)]
      have h77 : ∀ j, h1.1 77 j = h.1 77 j := fun j => by rw [w1.1 77 j rfl, si_x (by decide)]
      have eq : ∀ k, k < D 32 → (g1.1 22 k = nI s ↔ h1.1 77 (5 * k) = nI s) := fun k hk => by
        obtain ⟨s', p', q', l', v', -, -, -, -, -, z1, z2, -⟩ := TT.2.1 k hk
        rw [g22, h77, z1.1, z2.1]
      unfold fn_Tw_thingOfStem_15
      by_cases P : ∃ k, k < D 32 ∧ g1.1 22 k = nI s
      · obtain ⟨k, hk, pk⟩ := P
        obtain ⟨r, r8, Er⟩ := tos_y b32 g15 (D 32) 1000000 0 (by omega) (by omega) ⟨k, by omega, hk, pk⟩
        obtain ⟨h2, Eh, c'⟩ := th_y (x1 := nI (5 * D 32)) t1 b32 h32 m6 (D 32) 1000000 0 (by omega) (by omega) ⟨k, by omega, hk, (eq k hk).mp pk⟩
        rw [show fn_Tw_thingOfStem_15_2 (nI s) 1000000 0 g1 = _ from Er, bd_s, if_neg (show ¬ nI r = -1 from (by decide : ∀ r, r < 8 → ¬ nI r = -1) r r8), show fn_Mo_readsThing_51 (nI (5 * D 32)) 1000000 0 h1 = _ from Eh]
        obtain ⟨h3, Eq, c2⟩ := q85 c' h8
        refine e2_l (ref_c u1 (f := 4) (by decide)) (fun v g' ⟨e, c⟩ => ?_)
        rw [e, Eq, bd_s, l47_0 c2]
        exact e2_q (lq_f c c2)
      · have P1 : ∀ k, k < D 32 → ¬ g1.1 22 k = nI s := fun k hk pk => P ⟨k, hk, pk⟩
        rw [show fn_Tw_thingOfStem_15_2 (nI s) 1000000 0 g1 = _ from tos_n b32 g15 P1 (D 32) 1000000 0 (by omega) (by omega), bd_s, if_pos rfl, show fn_Mo_readsThing_51 (nI (5 * D 32)) 1000000 0 h1 = _ from th_n b32 h32 m6 (fun k hk z => P1 k hk ((eq k hk).mpr z)) (D 32) 1000000 0 (by omega) (by omega), ib_e (D 32) 8 h8 (by decide), ck_t, nI_clamp (by omega), c6]
        refine e2_b ?_
        unfold fn_Mo_readsThing_85
        rw [ib_e (5 * D 32) 40 (by omega) (by decide), ck_t, nI_clamp (by omega), m6]
        have t1' := uM_s (k := 77) (j := 5 * D 32) (x := nI s) t1 rfl
        show e2 _ (et_bd (et_bd (fn_Mo_isGood (et_si h1 77 (5 * D 32) (nI s))) _) _) _
        rw [gd_1 t1', bd_s, if_neg (show ¬ (1 : Int32) = 0 by decide)]
        obtain ⟨x2, h2, E2, t2, w2⟩ := stp_m hn hb8 t1' (by omega) (by omega)
        have u1' := kC_s (k := 22) (j := D 32) (x := nI s) u1.1 rfl
        rw [E2, bd_s, r106_k, show (et_si g1 22 (D 32) (nI s)).1 15 1 = nI (D 30) from by rw [si_x (by decide), y1.1 15 1 rfl, si_x (by decide)]; exact c30, show h2.1 61 30 = nI (D 30) from by rw [w2.1 61 30 rfl, si_x (by decide), w1.1 61 30 rfl, si_j (by decide)]; exact m30]
        have ea1 := (tkE_b (S := S) u1.2.2).1
        have eb1 := bk_b S u1.1.2.2.2.2.1
        generalize hb2 : bk S n (tkE S n b1) = b2 at t2 eb1
        by_cases f2 : onF S n b2 (D 30) = 0
        · obtain ⟨p1, p2, p3⟩ := onF_0 f2
          obtain ⟨x3, g2, E3, rfl, u2, y2⟩ := on_c1 (m := D 30) hn hb8 u1' (by omega) (by rw [hb2]; exact f2)
          obtain ⟨x4, h3, E4, rfl, t3, w3⟩ := am_m1 (m := D 30) hn hb8 t2 (by omega) f2
          rw [hb2] at u2
          rw [E3, bd_s, if_neg (show ¬ (1 : Int32) = 0 by decide), ck_t, u2.2.1.2.2.2.2, E4, bd_s]
          generalize tkV S n b2 = p at p3
          refine e2_b ?_
          unfold k14
          rw [show nI (5 * D 32) + (1 : Int32) = nI (5 * D 32 + 1) from nI_add _ 1, ib_e (5 * D 32 + 1) 40 (by omega) (by decide), ck_t, nI_clamp (by omega)]
          show e2 _ (et_bd (et_bd (fn_Mo_number 0 23 (et_si h3 77 (5 * D 32 + 1) (nI p))) _) _) _
          have t3' := uM_s (k := 77) (j := 5 * D 32 + 1) (x := nI p) t3 rfl
          have u2' := kC_s (k := 23) (j := D 32) (x := nI p) u2.1 rfl
          have ea2 := (tkE_b (S := S) u2.2.2).1
          have eb2 := bk_b S u2.1.2.2.2.2.1
          generalize hb3 : bk S n (tkE S n b2) = b3 at t3' eb2
          by_cases f3 : nuF S n b3 0 23 = 0
          · obtain ⟨r1, r2, r3, r4⟩ := nuF_0 f3
            obtain ⟨x5, g3, E5, rfl, u3, y3⟩ := num_c1 (m := 23) hn hb8 u2' (by decide) (by rw [hb3]; exact f3)
            obtain ⟨x6, h4, E6, rfl, t4, w4⟩ := num_m1 (lo := 0) (m := 23) hn hb8 t3' (by decide) f3
            rw [hb3] at u3
            rw [show fn_Re_number (23 : Int32) (et_si g2 23 (D 32) (nI p)) = _ from E5, bd_s, if_neg (show ¬ (1 : Int32) = 0 by decide), ck_t, u3.2.1.2.2.2.2, show fn_Mo_number (0 : Int32) (23 : Int32) (et_si h3 77 (5 * D 32 + 1) (nI p)) = _ from E6, bd_s]
            generalize tkV S n b3 = q at r4
            refine e2_b ?_
            rw [show (et_si g3 24 (D 32) (nI q)).1 15 5 = nI (D 32) from by rw [si_x (by decide), y3.1 15 5 rfl, si_x (by decide), y2.1 15 5 rfl, si_x (by decide)]; exact g15, show nI (D 32) + (1 : Int32) = nI (D 32 + 1) from nI_add _ 1]
            refine e2_b ?_
            unfold k17
            rw [show nI (5 * D 32) + (2 : Int32) = nI (5 * D 32 + 2) from nI_add _ 2, ib_e (5 * D 32 + 2) 40 (by omega) (by decide), ck_t, nI_clamp (by omega)]
            show e2 _ (et_bd (et_bd (fn_Mo_isGood (et_si h4 77 (5 * D 32 + 2) (nI q))) _) _) _
            have t4' := uM_s (k := 77) (j := 5 * D 32 + 2) (x := nI q) t4 rfl
            rw [gd_1 t4', bd_s, if_neg (show ¬ (1 : Int32) = 0 by decide)]
            have ea3 := (tkE_b (S := S) u3.2.2).1
            have eb3 := bk_b S u3.1.2.2.2.2.1
            refine lq_a (sg_1 (i := tkE S n b3) (q := q) hn hb8 V rfl h8 n3 p3 (by omega) (by omega) (kC_s (kC_s u3.1 rfl) rfl) t4' ⟨?_, ?_, ⟨?_, ?_, ?_⟩, ⟨?_, ?_, ?_⟩, si_e, ?_, ?_, ?_, fun u => ?_, fun u => ?_⟩)
            · refine fq_s (fq_s (fq_t (fq_s (fq_t (fq_s (fq_t (fq_s (fq_r _ _) rfl) (wS_l y1)) (xc_w (by decide))) (wS_l y2)) (xc_w (by decide))) (wS_l y3)) (xc_w (by decide))) rfl
            · refine fq_s (fq_t (fq_s (fq_t (fq_t (fq_s (fq_t (fq_s (fq_r _ _) rfl) (mS_l w1)) (xm_w (by omega) (by omega))) (mS_l w2)) (mS_l w3)) (xm_w (by omega) (by omega))) (mS_l w4)) (xm_w (by omega) (by omega))
            · rw [si_x (by decide), si_x (by decide), y3.1 22 _ rfl, si_x (by decide), y2.1 22 _ rfl, si_e]
            · rw [si_x (by decide), si_x (by decide), y3.1 23 _ rfl, si_e]
            · rw [si_x (by decide), si_e]
            · rw [si_j (by omega), w4.1 77 _ rfl, si_j (by omega), w3.1 77 _ rfl, w2.1 77 _ rfl, si_e]
            · rw [si_j (by omega), w4.1 77 _ rfl, si_e]
            · rw [si_e]
            · rw [si_x (by decide), si_x (by decide), y3.1 28 8 rfl, si_x (by decide), y2.1 28 8 rfl, si_x (by decide), y1.1 28 8 rfl, si_e]; rfl
            · rw [si_x (by decide), w4.1 61 36 rfl, si_x (by decide), w3.1 61 36 rfl, w2.1 61 36 rfl, si_x (by decide), w1.1 61 36 rfl, si_e]; rfl
            · rw [si_x (by decide), w4.1 61 32 rfl, si_x (by decide), w3.1 61 32 rfl, w2.1 61 32 rfl, si_x (by decide)]; exact h32
            · rw [si_j (by decide), si_x (by decide), y3.1 15 9 rfl, si_x (by decide), y2.1 15 9 rfl, si_x (by decide), y1.1 15 9 rfl, si_x (by decide)]
              exact ⟨Or.inl, fun z => z.elim id (fun z => by cases z.2)⟩
            · rw [si_j (by decide), si_x (by decide), y3.1 15 10 rfl, si_x (by decide), y2.1 15 10 rfl, si_x (by decide), y1.1 15 10 rfl, si_x (by decide)]
              exact ⟨Or.inl, fun z => z.elim id (fun z => by cases z.2)⟩
          · obtain ⟨x5, g3, E5, rfl, c⟩ := num_c0 (m := 23) hn hb8 u2' (by decide) (by rw [hb3]; exact f3)
            obtain ⟨x6, h4, E6, c', -⟩ := num_m0 (lo := 0) (m := 23) hn t3' (by decide) (by decide) f3
            rw [hb3] at c
            obtain ⟨h5, E7, c2⟩ := q17 (x := x6) c' h8
            rw [show fn_Re_number (23 : Int32) (et_si g2 23 (D 32) (nI p)) = _ from E5, bd_s, if_pos rfl, show fn_Mo_number (0 : Int32) (23 : Int32) (et_si h3 77 (5 * D 32 + 1) (nI p)) = _ from E6, bd_s, E7, bd_s, l47_0 c2]
            exact e2_q (lq_f c c2)
        · obtain ⟨x3, g2, E3, rfl, c⟩ := on_c0 (m := D 30) hn hb8 u1' (by omega) (by rw [hb2]; exact f2)
          obtain ⟨x4, h3, E4, c', -⟩ := am_m0 (m := D 30) hn t2 f2
          rw [hb2] at c
          obtain ⟨h4, E5, c2⟩ := q14 (x := x4) c' h8
          rw [E3, bd_s, if_pos rfl, E4, bd_s, E5, bd_s, l47_0 c2]
          exact e2_q (lq_f c c2)
    · obtain ⟨x1, g1, E1, rfl, c⟩ := on_c0 (m := D 28) hn hb8 cc (by omega) (by rw [hb1]; exact f1)
      obtain ⟨x2, h2, E2, rfl, c', -⟩ := amh_m0 (m := D 28) hn t1 f1
      rw [hb1] at c
      obtain ⟨h3, E3, c2⟩ := q85 c' h8
      rw [E1, bd_s, if_pos rfl]
      rw [E2, bd_s, if_pos rfl, E3, bd_s, l47_0 c2]
      exact e2_q (lq_f c c2)
end LF
