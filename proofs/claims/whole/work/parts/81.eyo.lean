/-! eyes opened: the class -/
theorem fil_57 (x : Int32) (g : et_G) : ev_Q (fn_Ja_fill_57 x g) (fun _ g' => fq (fun k _ => k == 57) g g' ∧ ∀ i, i < 20 → g'.1 57 i = x) := by
  unfold fn_Ja_fill_57
  refine lp0 (fun m i (s : et_G) => fn_Ja_fill_57_5 x 20 m i s) (fun o => ev_Q o (fun _ g' => fq (fun k _ => k == 57) g g' ∧ ∀ i, i < 20 → g'.1 57 i = x)) 20 (by omega) (fun k s => fq (fun k _ => k == 57) g s ∧ ∀ i, i < k → s.1 57 i = x) g ⟨fq_r _ _, fun i hi => by omega⟩ ?_ ?_
  · intro m s h
    show ev_Q (fn_Ja_fill_57_5 x 20 (m + 1) (nI 20) s) _
    rw [fn_Ja_fill_57_5, if_pos (by decide)]
    exact ev_r h
  · intro m k s hk ⟨h1, h2⟩ ih
    show ev_Q (fn_Ja_fill_57_5 x 20 (m + 1) (nI k) s) _
    rw [fn_Ja_fill_57_5]
    simp (disch := omega) only [ni_of, ni_le, nI_clamp, ib_e, ck_t, et_b, nI_add]
    rw [if_neg (by omega)]
    refine ih _ ⟨fq_s h1 rfl, fun i hi => ?_⟩
    rw [si_g]
    by_cases e : i = k
    · rw [if_pos ⟨rfl, e⟩]
    · rw [if_neg (fun z => e z.2)]; exact h2 i (by omega)
theorem fil_58 (x : Int32) (g : et_G) : ev_Q (fn_Ja_fill_58 x g) (fun _ g' => fq (fun k _ => k == 58) g g' ∧ ∀ i, i < 160 → g'.1 58 i = x) := by
  unfold fn_Ja_fill_58
  refine lp0 (fun m i (s : et_G) => fn_Ja_fill_58_5 x 160 m i s) (fun o => ev_Q o (fun _ g' => fq (fun k _ => k == 58) g g' ∧ ∀ i, i < 160 → g'.1 58 i = x)) 160 (by omega) (fun k s => fq (fun k _ => k == 58) g s ∧ ∀ i, i < k → s.1 58 i = x) g ⟨fq_r _ _, fun i hi => by omega⟩ ?_ ?_
  · intro m s h
    show ev_Q (fn_Ja_fill_58_5 x 160 (m + 1) (nI 160) s) _
    rw [fn_Ja_fill_58_5, if_pos (by decide)]
    exact ev_r h
  · intro m k s hk ⟨h1, h2⟩ ih
    show ev_Q (fn_Ja_fill_58_5 x 160 (m + 1) (nI k) s) _
    rw [fn_Ja_fill_58_5]
    simp (disch := omega) only [ni_of, ni_le, nI_clamp, ib_e, ck_t, et_b, nI_add]
    rw [if_neg (by omega)]
    refine ih _ ⟨fq_s h1 rfl, fun i hi => ?_⟩
    rw [si_g]
    by_cases e : i = k
    · rw [if_pos ⟨rfl, e⟩]
    · rw [if_neg (fun z => e z.2)]; exact h2 i (by omega)
section EO
variable {S : et_T} {g : et_G}
theorem oth_c (B : eB S g) (J : eJ S g) {i : Nat} (hi : i < S 61 50) : ev_Q (fn_Gr_openThingEyes (nI i) g) (fun v g' => fq w_e g g' ∧ eJ S g' ∧ ((v = nI 1 ∧ mE' g < mE' g') ∨ (v = nI 0 ∧ g' = g ∧ ∀ t, t < S 61 5 → c_t S g i t))) := by
  have c := gA_c B.1
  have hn := (gA_n B.1).2
  unfold fn_Gr_openThingEyes
  refine lp0 (fun m k (s : Int32 × et_G) => fn_Gr_openThingEyes_4 (nI i) m s.1 k s.2) (fun o => ev_Q o (fun v g' => fq w_e g g' ∧ eJ S g' ∧ ((v = nI 1 ∧ mE' g < mE' g') ∨ (v = nI 0 ∧ g' = g ∧ ∀ t, t < S 61 5 → c_t S g i t)))) (S 61 5) (by omega) (fun k s => fq w_e g s.2 ∧ eJ S s.2 ∧ ((s.1 = nI 1 ∧ mE' g < mE' s.2) ∨ (s.1 = nI 0 ∧ s.2 = g ∧ ∀ t, t < k → c_t S g i t))) (0, g) ⟨fq_r _ _, J, Or.inr ⟨rfl, rfl, fun t ht => by omega⟩⟩ ?_ ?_
  · intro m s ⟨f, j, w⟩
    show ev_Q (fn_Gr_openThingEyes_4 (nI i) (m + 1) s.1 (nI (S 61 5)) s.2) _
    rw [fn_Gr_openThingEyes_4, show s.2.1 2 5 = nI (S 61 5) from by rw [f.1 2 5 rfl]; exact c.2.2.1, if_pos (nI_le (Nat.le_refl _) (by omega))]
    refine ev_r ⟨f, j, ?_⟩
    rcases w with w | w
    · exact Or.inl ⟨by rw [w.1]; rfl, w.2⟩
    · exact Or.inr ⟨by rw [w.1]; rfl, w.2⟩
  · intro m t s ht ⟨f, j, w⟩ ih
    show ev_Q (fn_Gr_openThingEyes_4 (nI i) (m + 1) s.1 (nI t) s.2) _
    have B' := eB_q f B
    have A' := B'.1
    have c' := gA_c A'
    obtain ⟨l49, l50, -, -⟩ := B'.2.1.2.2 i hi
    obtain ⟨e1, -, -, -, -⟩ := gA_s A' hi
    have w1 := (gA_w A' hi).1
    have h58 : s.2.1 58 (i * 8 + t) = mI (tq s.2 (i * 8 + t)) := mI_s _
    have k95 : ∀ N : Nat → Prop, (∀ q, N q ↔ (tq s.2 (i * 8 + t) q ∨ a_ct S (eg s.2) (fun t q => tq s.2 (i * 8 + t) q) (S 84 (5 * i)) (S 84 (5 * i + 1)) t q)) → ev_Q (fn_Gr_openThingEyes_95 (fun z2 z3 g => fn_Gr_openThingEyes_4 (nI i) m z2 z3 g) (nI i) s.1 (nI t) (nI (i * 8 + t)) (mI N) s.2) (fun v g' => fq w_e g g' ∧ eJ S g' ∧ ((v = nI 1 ∧ mE' g < mE' g') ∨ (v = nI 0 ∧ g' = g ∧ ∀ t, t < S 61 5 → c_t S g i t))) := by
      intro N hN
      obtain ⟨u1, u2, u3⟩ := up_t B' j hi ht hN
      unfold fn_Gr_openThingEyes_95 fn_Gr_openThingEyes_111 fn_Gr_openThingEyes_116
      rcases w with w | w
      · rw [w.1]
        simp (disch := omega) only [ni_of, nI_clamp, ib_e, ck_t, bd_s, et_b, nI_add, if_p, ni_eq, ni_lt, ni_le, b_e0, b_e1, io_n]
        rw [io_f (by decide)]
        exact ih (nI 1, _) ⟨fq_s f rfl, u1, Or.inl ⟨rfl, Nat.lt_of_lt_of_le w.2 u2⟩⟩
      · rw [w.1]
        simp (disch := omega) only [ni_of, nI_clamp, ib_e, ck_t, bd_s, et_b, nI_add, if_p, ni_eq, ni_lt, ni_le, b_e0, b_e1, io_n]
        rw [io_t trivial]
        by_cases e : mI N = s.2.1 58 (i * 8 + t)
        · rw [io_t e, e, si_same]
          refine ih (nI 0, s.2) ⟨f, j, Or.inr ⟨rfl, w.2.1, fun u hu => ?_⟩⟩
          by_cases z : u = t
          · subst z
            intro q hq y
            rw [← w.2.1] at y ⊢
            unfold tq
            rw [← e]
            exact (mI_b N hq).mpr ((hN q).mpr (Or.inr y))
          · exact w.2.2 u (by omega)
        · rw [io_f e]
          refine ih (nI 1, _) ⟨fq_s f rfl, u1, Or.inl ⟨rfl, ?_⟩⟩
          have := u3 e
          rw [w.2.1] at this
          rw [w.2.1]
          exact this
    rw [fn_Gr_openThingEyes_4, c'.2.2.1, if_neg (nI_ge ht (by omega))]
    simp (disch := omega) only [ni_of, nI_clamp, ib_e, ck_t, bd_s, et_b, nI_add, if_p, ni_eq, ni_lt, ni_le, b_e0, b_e1, io_n, pk_mul, re_c B' hi (show t < 2 ^ 31 by omega), ar_c (show 0 ≤ 1 by omega), l49, l50, B'.2.1.1 t (show t < 8 by omega) 0 (show 0 < 2 by omega), B'.2.2.2.1, mI_and, eo_c A', hb_m _ (show t < 32 by omega), e1, mI_1 (show S 84 (5 * i) < 31 by omega), h58, mI_or]
    by_cases h1 : a_ow S (S 84 (5 * i)) (S 84 (5 * i + 1)) t
    · rw [io_t h1]
      refine k95 _ (fun q => ⟨fun z => ?_, fun z => ?_⟩)
      · rcases z with ((z | z) | ⟨u, u1, u2, u3⟩) | z
        · exact Or.inl z
        · exact Or.inr ⟨ht, Or.inr (Or.inr z)⟩
        · exact Or.inr ⟨ht, Or.inr (Or.inl ⟨u, u2.2, u2.1.1, u2.1.2, u3⟩)⟩
        · exact Or.inr ⟨ht, Or.inl ⟨h1, z⟩⟩
      · rcases z with z | ⟨-, z | ⟨u, u1, u2, u3, u4⟩ | z⟩
        · exact Or.inl (Or.inl (Or.inl z))
        · exact Or.inr z.2
        · exact Or.inl (Or.inr ⟨u, u3.1, ⟨⟨u2, u3⟩, u1⟩, u4⟩)
        · exact Or.inl (Or.inl (Or.inr z))
    · rw [io_f h1]
      refine k95 _ (fun q => ⟨fun z => ?_, fun z => ?_⟩)
      · rcases z with (z | z) | ⟨u, u1, u2, u3⟩
        · exact Or.inl z
        · exact Or.inr ⟨ht, Or.inr (Or.inr z)⟩
        · exact Or.inr ⟨ht, Or.inr (Or.inl ⟨u, u2.2, u2.1.1, u2.1.2, u3⟩)⟩
      · rcases z with z | ⟨-, z | ⟨u, u1, u2, u3, u4⟩ | z⟩
        · exact Or.inl (Or.inl z)
        · exact absurd z.1 h1
        · exact Or.inr ⟨u, u3.1, ⟨⟨u2, u3⟩, u1⟩, u4⟩
        · exact Or.inl (Or.inr z)
theorem oe_118 (B : eB S g) (J : eJ S g) {i M : Nat} (hi : i < S 61 50) {C : et_G → Prop} {x o1 x2 : Int32} (W : sq M C x g) (ho : (o1 = nI 1 ∧ M < mE' g) ∨ o1 = nI 0) (r66 r81 : Int32 → Int32 → et_G → Option (Unit × et_G)) (R : Unit → et_G → Prop)
    (k1 : ∀ g', fq w_e g g' → eJ S g' → M < mE' g' → ev_Q (r81 (nI 1) (nI (i + 1)) g') R)
    (k0 : o1 = nI 0 → x = nI 0 → c_e S g i → ev_Q (r81 (nI 0) (nI (i + 1)) g) R) : ev_Q (fn_Gr_openEyes_118 r66 r81 x x2 (nI i) o1 g) R := by
  have hn := (gA_n B.1).2
  obtain ⟨u1, u2, u3⟩ := up_e B J hi
  have mM : M ≤ mE' g := by
    rcases W with W | W
    · omega
    · exact W.2.1
  have k140 : ev_Q (fn_Gr_openEyes_140 r66 r81 x x2 (nI i) o1 (mI (a_es S (eg g) (cg g i) i)) g) R := by
    unfold fn_Gr_openEyes_140 fn_Gr_openEyes_162 fn_Gr_openEyes_167
    rcases W with W | W
    · rw [W.1]
      simp (disch := omega) only [ni_of, nI_clamp, ib_e, ck_t, bd_s, et_b, nI_add, if_p, ni_eq, ni_lt, ni_le, b_e0, b_e1, io_n]
      rw [io_f (by decide)]
      exact k1 _ (fq_s (fq_r _ _) rfl) u1 (by omega)
    · rcases ho with ho | ho
      · rw [W.1, ho.1]
        simp (disch := omega) only [ni_of, nI_clamp, ib_e, ck_t, bd_s, et_b, nI_add, if_p, ni_eq, ni_lt, ni_le, b_e0, b_e1, io_n]
        rw [io_t trivial, io_f (by decide)]
        exact k1 _ (fq_s (fq_r _ _) rfl) u1 (by omega)
      · rw [W.1, ho]
        simp (disch := omega) only [ni_of, nI_clamp, ib_e, ck_t, bd_s, et_b, nI_add, if_p, ni_eq, ni_lt, ni_le, b_e0, b_e1, io_n]
        rw [io_t trivial, io_t trivial]
        by_cases e : mI (a_es S (eg g) (cg g i) i) = g.1 57 i
        · rw [io_t e, e, si_same]
          refine k0 ho W.1 (fun q hq z => ?_)
          unfold eg
          rw [← e]
          exact (mI_b _ hq).mpr z
        · rw [io_f e]
          have := u3 e
          exact k1 _ (fq_s (fq_r _ _) rfl) u1 (by omega)
  unfold fn_Gr_openEyes_118
  rw [B.2.2.1, hb_m _ (show i < 32 by omega), bd_s]
  by_cases hh : a_HH S (a_al S) a_no i
  · rw [bI_t hh, if_neg (by decide), en_c B hi hh, bd_s]
    exact k140
  · rw [bI_f hh, if_pos nI_0, show (0 : Int32) = mI (a_es S (eg g) (cg g i) i) from (mI_z.mpr fun q _ z => hh z.1).symm]
    exact k140
def cAll (S : et_T) (k : Nat) (g : et_G) : Prop := ∀ j, j < k → c_e S g j ∧ (S 84 (5 * j + 3) = 3 → ∀ t, t < S 61 5 → c_t S g j t)
theorem oe_81 {g0 : et_G} (B : eB S g0) (J : eJ S g0) (r66 : Int32 → Int32 → et_G → Option (Unit × et_G)) (x2 : Nat) (R : Unit → et_G → Prop)
    (kk : ∀ x g, fq w_e g0 g → eJ S g → sq (mE' g0) (cAll S (S 61 50)) x g → ev_Q (r66 x (nI (x2 + 1)) g) R) : ev_Q (fn_Gr_openEyes_81 r66 (nI x2) 1000000 0 0 g0) R := by
  have hn := gA_n B.1
  refine lp0 (fun m k (s : Int32 × et_G) => fn_Gr_openEyes_81 r66 (nI x2) m s.1 k s.2) (fun o => ev_Q o R) (S 61 50) (by omega) (fun k s => fq w_e g0 s.2 ∧ eJ S s.2 ∧ sq (mE' g0) (cAll S k) s.1 s.2) (0, g0) ⟨fq_r _ _, J, Or.inr ⟨rfl, Nat.le_refl _, fun j hj => by omega⟩⟩ ?_ ?_
  · intro m s ⟨f, j, w⟩
    show ev_Q (fn_Gr_openEyes_81 r66 (nI x2) (m + 1) s.1 (nI (S 61 50)) s.2) _
    rw [fn_Gr_openEyes_81, show s.2.1 34 0 = nI (S 61 50) from by rw [f.1 34 0 rfl]; exact hn.1, if_pos (nI_le (Nat.le_refl _) (by omega))]
    simp only [et_b, ni_of, nI_add]
    exact kk s.1 s.2 f j w
  · intro m i s hi ⟨f, j, w⟩ ih
    show ev_Q (fn_Gr_openEyes_81 r66 (nI x2) (m + 1) s.1 (nI i) s.2) _
    have B' := eB_q f B
    obtain ⟨-, -, -, e4, -⟩ := gA_s B'.1 hi
    have w4 := (gA_w B'.1 hi).2.2.2.1
    rw [fn_Gr_openEyes_81, (gA_n B'.1).1, if_neg (nI_ge hi (by omega))]
    have more : c_e S s.2 i → (S 84 (5 * i + 3) = 3 → ∀ t, t < S 61 5 → c_t S s.2 i t) → s.1 = nI 0 → ev_Q (fn_Gr_openEyes_81 r66 (nI x2) m (nI 0) (nI (i + 1)) s.2) R := by
      intro h1 h2 h3
      refine ih (nI 0, s.2) ⟨f, j, Or.inr ⟨rfl, ?_, fun k hk => ?_⟩⟩
      · rcases w with w | w
        · rw [h3] at w; exact absurd w.1 (by decide)
        · exact w.2.1
      · by_cases e : k = i
        · subst e; exact ⟨h1, h2⟩
        · rcases w with w | w
          · rw [h3] at w; exact absurd w.1 (by decide)
          · exact w.2.2 k (by omega)
    have mM : mE' g0 ≤ mE' s.2 := by
      rcases w with w | w
      · omega
      · exact w.2.1
    have one : ∀ g', fq w_e s.2 g' → eJ S g' → mE' g0 < mE' g' → ev_Q (fn_Gr_openEyes_81 r66 (nI x2) m (nI 1) (nI (i + 1)) g') R := fun g' f' j' l => ih (nI 1, g') ⟨fq_t f f', j', Or.inl ⟨rfl, l⟩⟩
    simp (disch := omega) only [nI_clamp, ib_e, ck_t, e4]
    by_cases h3 : S 84 (5 * i + 3) = 3
    · rw [if_pos (show nI (S 84 (5 * i + 3)) = (3 : Int32) from by rw [h3]; rfl)]
      refine ev_d (oth_c B' j hi) (fun v g1 ⟨f1, j1, w1⟩ => ?_)
      have B1 := eB_q f1 B'
      rcases w1 with w1 | w1
      · rw [w1.1, if_neg (by decide)]
        refine oe_118 B1 j1 hi (M := mE' g0) (C := fun _ => True) (x := s.1) (o1 := 1) ?_ (Or.inl ⟨rfl, by omega⟩) _ _ R (fun g' f' j' l => one g' (fq_t f1 f') j' l) (fun e => absurd e (by decide))
        rcases w with w | w
        · exact Or.inl ⟨w.1, by omega⟩
        · exact Or.inr ⟨w.1, by omega, trivial⟩
      · obtain ⟨w1, w2, w3⟩ := w1
        subst w2
        rw [w1, if_pos nI_0]
        unfold fn_Gr_openEyes_117
        exact oe_118 B' j hi (o1 := 0) w (Or.inr rfl) _ _ R one (fun _ e h => more h (fun _ => w3) e)
    · rw [if_neg (show ¬ nI (S 84 (5 * i + 3)) = (3 : Int32) from fun e => h3 ((nI_eq (b := 3) (by omega) (by decide)).mp e))]
      unfold fn_Gr_openEyes_117
      exact oe_118 B' j hi (o1 := 0) w (Or.inr rfl) _ _ R one (fun _ e h => more h (fun z => absurd z h3) e)
theorem ey_cm (B : eB S g) (J : eJ S g) (C : cAll S (S 61 50) g) : gE S g := by
  have c := gA_c B.1
  have key : ∀ r, (∀ i q, i < S 61 50 → q < 32 → (a_ey S r).1 i q → eg g i q) ∧ ∀ i t q, i < S 61 50 → S 84 (5 * i + 3) = 3 → t < S 61 5 → q < 32 → (a_ey S r).2 (S 84 (5 * i)) (S 84 (5 * i + 1)) t q → tq g (i * 8 + t) q := by
    intro r
    induction r with
    | zero => exact ⟨fun _ _ _ _ z => z.elim, fun _ _ _ _ _ _ _ z => z.elim⟩
    | succ r ih =>
      refine ⟨fun i q hi hq z => (C i hi).1 q hq ⟨z.1, ?_⟩, fun i t q hi h3 ht hq z => (C i hi).2 h3 t ht q hq ⟨z.1, ?_⟩⟩
      · rcases z.2 with b | b | b
        · exact Or.inl b
        · obtain ⟨b0, u, b1, b2, b3, b4⟩ := b
          exact Or.inr (Or.inl ⟨b0, u, b1, b2, b3, ih.1 u q b3.1 hq b4⟩)
        · obtain ⟨b0, u, b1, k, b2, b3, b4⟩ := b
          exact Or.inr (Or.inr ⟨b0, u, b1, k, b2, b3, ih.2 i _ q hi b0 ((gA_r B.1 b1.1).2.2.2 k b3) hq b4⟩)
      · rcases z.2 with b | b | b
        · exact Or.inl b
        · obtain ⟨u, b1, b2, b3, b4⟩ := b
          exact Or.inr (Or.inl ⟨u, b1, b2, b3, ih.1 u q b3.1 hq b4⟩)
        · obtain ⟨u, b1, k, b2, b3, b4⟩ := b
          exact Or.inr (Or.inr ⟨u, b1, k, b2, b3, ih.2 i _ q hi h3 ((gA_r B.1 b1.1).2.2.2 k b3) hq b4⟩)
  intro i hi
  exact mI_eq fun q hq => ⟨fun z => (J.1 i q hi z).1, fun ⟨r, z⟩ => (key r).1 i q hi hq z⟩
theorem oe_66 {g0 : et_G} (B : eB S g0) (J : eJ S g0) : ev_Q (fn_Gr_openEyes_66 1000000 1 0 g0) (fun _ g => ∃ g1, fq w_e g0 g1 ∧ gE S g1 ∧ g = et_si g1 48 16 1) := by
  refine lp0 (fun m k (s : Int32 × et_G) => fn_Gr_openEyes_66 m s.1 k s.2) (fun o => ev_Q o (fun _ g => ∃ g1, fq w_e g0 g1 ∧ gE S g1 ∧ g = et_si g1 48 16 1)) 1086 (by omega) (fun k s => fq w_e g0 s.2 ∧ eJ S s.2 ∧ ((s.1 = nI 1 ∧ k ≤ mE' s.2) ∨ (s.1 = nI 0 ∧ cAll S (S 61 50) s.2))) (1, g0) ⟨fq_r _ _, J, Or.inl ⟨rfl, Nat.zero_le _⟩⟩ ?_ ?_
  · intro m s ⟨f, j, w⟩
    show ev_Q (fn_Gr_openEyes_66 (m + 1) s.1 (nI 1086) s.2) _
    rcases w with w | w
    · have := mE_le s.2
      omega
    · rw [fn_Gr_openEyes_66, w.1, if_pos nI_0]
      exact ev_r ⟨s.2, f, ey_cm (eB_q f B) j w.2, rfl⟩
  · intro m k s hk ⟨f, j, w⟩ ih
    show ev_Q (fn_Gr_openEyes_66 (m + 1) s.1 (nI k) s.2) _
    rcases w with w | w
    · rw [fn_Gr_openEyes_66, w.1, if_neg (by decide), if_neg (show ¬ (1086 : Int32) ≤ nI k from nI_ge (b := 1086) hk (by decide))]
      refine oe_81 (eB_q f B) j _ k _ (fun x g f1 j1 w1 => ih (x, g) ⟨fq_t f f1, j1, ?_⟩)
      rcases w1 with w1 | w1
      · exact Or.inl ⟨w1.1, by have := w.2; have := w1.2; show k + 1 ≤ mE' g; omega⟩
      · exact Or.inr ⟨w1.1, w1.2.2⟩
    · rw [fn_Gr_openEyes_66, w.1, if_pos nI_0]
      exact ev_r ⟨s.2, f, ey_cm (eB_q f B) j w.2, rfl⟩
theorem oe_c (A : gA S g) (G : gS S g) : ev_Q (fn_Gr_openEyes g) (fun _ g' => fq w_gr g g' ∧ gS S g' ∧ gE S g' ∧ g'.1 48 15 = g.1 48 15 ∧ g'.1 48 16 = nI 1) := by
  have hn := gA_n A
  have c := gA_c A
  unfold fn_Gr_openEyes
  refine ev_d (fil_57 0 g) (fun _ g1 ⟨f1, z1⟩ => ?_)
  refine ev_d (fil_58 0 g1) (fun _ g2 ⟨f2, z2⟩ => ?_)
  have w1 : fq w_e g g2 := fq_t (fq_w f1 (fun k j e => by simp [w_e] at e ⊢; exact e.1)) (fq_w f2 (fun k j e => by simp [w_e] at e ⊢; exact e.2))
  have A2 := gA_q w1 ⟨rfl, rfl, rfl, rfl, rfl, rfl, fun _ => rfl, fun _ => rfl, fun _ => rfl, fun _ => rfl, fun _ => rfl, fun _ => rfl, fun _ => rfl, fun _ => rfl⟩ ⟨rfl, fun _ => rfl, fun _ => rfl, fun _ => rfl, fun _ => rfl, fun _ => rfl⟩ A
  have L2 := gL_q w1 ⟨fun _ => rfl, fun _ => rfl, fun _ => rfl, fun _ => rfl, fun _ => rfl, rfl⟩ G.1
  have R2 := rP_q w1 rfl rfl (fun _ => rfl) (fun _ => rfl) G.2
  refine lp0 (fun m k (s : et_G) => fn_Gr_openEyes_18 m k s) (fun o => ev_Q o (fun _ g' => fq w_gr g g' ∧ gS S g' ∧ gE S g' ∧ g'.1 48 15 = g.1 48 15 ∧ g'.1 48 16 = nI 1)) (S 61 50) (by omega) (fun k s => fq (fun k _ => k == 54) g2 s ∧ ∀ i, i < k → s.1 54 i = mI (a_CL S (a_tt S) (S 84 (5 * i)) (S 84 (5 * i + 1)))) g2 ⟨fq_r _ _, fun i hi => by omega⟩ ?_ ?_
  · intro m s ⟨f, h⟩
    show ev_Q (fn_Gr_openEyes_18 (m + 1) (nI (S 61 50)) s) _
    rw [fn_Gr_openEyes_18, show s.1 34 0 = nI (S 61 50) from by rw [f.1 34 0 rfl]; exact (gA_n A2).1, if_pos (nI_le (Nat.le_refl _) (by omega))]
    have B : eB S s := ⟨gA_q f ⟨rfl, rfl, rfl, rfl, rfl, rfl, fun _ => rfl, fun _ => rfl, fun _ => rfl, fun _ => rfl, fun _ => rfl, fun _ => rfl, fun _ => rfl, fun _ => rfl⟩ ⟨rfl, fun _ => rfl, fun _ => rfl, fun _ => rfl, fun _ => rfl, fun _ => rfl⟩ A2, gL_q f ⟨fun _ => rfl, fun _ => rfl, fun _ => rfl, fun _ => rfl, fun _ => rfl, rfl⟩ L2, by rw [f.1 48 13 rfl]; exact R2.1, by rw [f.1 48 14 rfl]; exact R2.2.1, h⟩
    have z57 : ∀ i, i < 20 → s.1 57 i = 0 := fun i hi => by rw [f.1 57 i rfl, f2.1 57 i rfl]; exact z1 i hi
    have z58 : ∀ i, i < 160 → s.1 58 i = 0 := fun i hi => by rw [f.1 58 i rfl]; exact z2 i hi
    have J : eJ S s := ⟨fun i q hi z => (by unfold eg at z; rw [z57 i (by omega), bt_0] at z; cases z), fun i t q hi ht z => (by unfold tq at z; rw [z58 _ (by omega), bt_0] at z; cases z)⟩
    refine ev_w (oe_66 B J) (fun _ g' ⟨g3, f3, e3, hg⟩ => ?_)
    subst hg
    have fe : fq (fun k _ => k == 54 || k == 57 || k == 58) g g3 := fq_t (fq_t (fq_w w1 (fun k j e => by simp [w_e] at e ⊢; omega)) (fq_w f (fun k j e => by simp at e ⊢; omega))) (fq_w f3 (fun k j e => by simp [w_e] at e ⊢; omega))
    have ff : fq (fun k j => k == 54 || k == 57 || k == 58 || (k == 48 && j == 16)) g (et_si g3 48 16 1) := fq_s (fq_w fe (fun k j e => by simp at e ⊢; omega)) rfl
    refine ⟨fq_w ff (fun k j e => by have := w_gr_c e; simp; omega), ⟨gL_q ff ⟨fun _ => rfl, fun _ => rfl, fun _ => rfl, fun _ => rfl, fun _ => rfl, rfl⟩ G.1, rP_q ff rfl rfl (fun _ => rfl) (fun _ => rfl) G.2⟩, fun i hi => by rw [si_x (by decide)]; exact e3 i hi, ?_, by rw [si_e]; rfl⟩
    rw [ff.1 48 15 rfl]
  · intro m k s hk ⟨f, h⟩ ih
    show ev_Q (fn_Gr_openEyes_18 (m + 1) (nI k) s) _
    have As := gA_q f ⟨rfl, rfl, rfl, rfl, rfl, rfl, fun _ => rfl, fun _ => rfl, fun _ => rfl, fun _ => rfl, fun _ => rfl, fun _ => rfl, fun _ => rfl, fun _ => rfl⟩ ⟨rfl, fun _ => rfl, fun _ => rfl, fun _ => rfl, fun _ => rfl, fun _ => rfl⟩ A2
    have Ls := gL_q f ⟨fun _ => rfl, fun _ => rfl, fun _ => rfl, fun _ => rfl, fun _ => rfl, rfl⟩ L2
    obtain ⟨l49, l50, -, -⟩ := Ls.2.2 k hk
    have e14 : s.1 48 14 = mI (a_tt S) := by rw [f.1 48 14 rfl]; exact R2.2.1
    rw [fn_Gr_openEyes_18, (gA_n As).1, if_neg (nI_ge hk (by omega))]
    simp (disch := omega) only [ni_of, nI_clamp, ib_e, ck_t, bd_s, et_b, nI_add, if_p, ni_eq, ni_lt, ni_le, b_e0, b_e1, io_n, l49, l50, e14, mI_and, ws_c As Ls.1]
    refine ih _ ⟨fq_s f rfl, fun i hi => ?_⟩
    by_cases e : i = k
    · rw [e, si_e]
    · rw [si_j e]; exact h i (by omega)
theorem ef_c (A : gA S g) (G : rc_G S g) {s : Nat} (hs : s < S 61 50) : ev_Q (fn_Gr_eyesOf (nI s) g) (fun v g' => fq w_gr g g' ∧ rc_G S g' ∧ v = mI (a_EY S s)) := by
  have hn := (gA_n A).2
  unfold fn_Gr_eyesOf
  refine ev_d (se_c A G) (fun _ g1 ⟨a, b, b1, b2, b3⟩ => ?_)
  have fin : ∀ g2, fq w_gr g g2 → gS S g2 → gE S g2 → g2.1 48 15 = nI 1 → g2.1 48 16 = nI 1 → ev_Q (fn_Gr_eyesOf_15 (nI s) g2) (fun v g' => fq w_gr g g' ∧ rc_G S g' ∧ v = mI (a_EY S s)) := by
    intro g2 f h1 h2 h3 h4
    unfold fn_Gr_eyesOf_15
    simp (disch := omega) only [nI_clamp, ib_e, ck_t]
    exact ev_r ⟨f, rc_G_of ⟨h1, h3, Or.inr h4, fun _ => h2⟩, h2 s hs⟩
  rcases b2 with b2 | b2
  · rw [b2, if_pos nI_0]
    refine ev_d (oe_c (gA_gr a A) b) (fun _ g2 ⟨d1, d2, d3, d4, d5⟩ => fin g2 (fq_t a d1) d2 d3 (by rw [d4]; exact b1) d5)
  · rw [b2, if_neg (by decide)]
    exact fin g1 a b (b3 b2) b1 b2
end EO
