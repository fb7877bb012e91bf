/-! the model looks; saying -/
section LO
variable {S : et_T} {np : Nat} {P H O : Nat → Nat}
theorem lo_119 {g : et_G} (B : nB S np P H O g) (J : lJ S np P H g) {k t M : Nat} (hk : k < np) (ht : t < S 61 5) {C : et_G → Prop} {x : Int32} (W : lq M C x g) {N : Nat → Prop} (hN : ∀ q, N q ↔ (tM g (8 * k + t) q ∨ a_ct S (eM g) (fun t q => tM g (8 * k + t) q) (P k) (H k) t q))
    (r51 : Int32 → et_G → Option (Unit × et_G)) (r59 r69 : Int32 → Int32 → et_G → Option (Unit × et_G)) (R : Unit → et_G → Prop)
    (k1 : ∀ g', fq w_l g g' → lJ S np P H g' → M < lE g' → ev_Q (r69 (nI 1) (nI (t + 1)) g') R)
    (k0 : x = nI 0 → d_t S P H g k t → ev_Q (r69 (nI 0) (nI (t + 1)) g) R) : ev_Q (fn_Mo_looks_119 r51 r59 r69 x (nI k) (nI t) (mI N) g) R := by
  have c := mB_c B.1.1
  have hnp := B.2.1.2.1
  obtain ⟨u1, u2, u3⟩ := lu_t B J hk ht hN
  unfold fn_Mo_looks_119 fn_Mo_looks_139 fn_Mo_looks_144
  rcases W with W | W
  · rw [W.1]
    simp (disch := omega) only [ni_of, nI_clamp, ib_e, ck_t, bd_s, et_b, nI_add, if_p, ni_eq, ni_lt, ni_le, b_e0, b_e1, io_n, pk_mul]
    rw [io_f (by decide)]
    exact k1 _ (fq_s (fq_r _ _) rfl) u1 (by omega)
  · rw [W.1]
    simp (disch := omega) only [ni_of, nI_clamp, ib_e, ck_t, bd_s, et_b, nI_add, if_p, ni_eq, ni_lt, ni_le, b_e0, b_e1, io_n, pk_mul]
    rw [io_t trivial]
    by_cases e : mI N = g.1 93 (8 * k + t)
    · rw [io_t e, e, si_same]
      refine k0 W.1 (fun q hq z => ?_)
      unfold tM
      rw [← e]
      exact (mI_b N hq).mpr ((hN q).mpr (Or.inr z))
    · rw [io_f e]
      have := u3 e
      exact k1 _ (fq_s (fq_r _ _) rfl) u1 (by omega)
theorem lo_93 {g : et_G} (B : nB S np P H O g) (J : lJ S np P H g) {k t M : Nat} (hk : k < np) (ht : t < S 61 5) {C : et_G → Prop} {x : Int32} (W : lq M C x g)
    (r51 : Int32 → et_G → Option (Unit × et_G)) (r59 r69 : Int32 → Int32 → et_G → Option (Unit × et_G)) (R : Unit → et_G → Prop)
    (k1 : ∀ g', fq w_l g g' → lJ S np P H g' → M < lE g' → ev_Q (r69 (nI 1) (nI (t + 1)) g') R)
    (k0 : x = nI 0 → d_t S P H g k t → ev_Q (r69 (nI 0) (nI (t + 1)) g) R) : ev_Q (fn_Mo_looks_93 r51 r59 r69 x (nI k) (nI t) 1000000 (g.1 93 (8 * k + t)) 0 g) R := by
  refine lp0 (fun m i (y : Int32) => fn_Mo_looks_93 r51 r59 r69 x (nI k) (nI t) m y i g) (fun o => ev_Q o R) 4 (by omega) (fun w y => y = mI (fun q => tM g (8 * k + t) q ∨ ∃ u, u < w ∧ a_eb S g k (P k) (H k) t 0 u q)) (g.1 93 (8 * k + t)) ?_ ?_ ?_
  · refine mI_eq fun q _ => ⟨fun z => Or.inl z, fun z => ?_⟩
    rcases z with z | ⟨u, u1, _⟩
    · exact z
    · omega
  · intro m y h
    show ev_Q (fn_Mo_looks_93 r51 r59 r69 x (nI k) (nI t) (m + 1) y (nI 4) g) R
    rw [fn_Mo_looks_93, if_pos (by decide), h]
    refine lo_119 B J hk ht W (fun q => ?_) r51 r59 r69 R k1 k0
    refine or_congr Iff.rfl ⟨fun ⟨u, u1, u2⟩ => ?_, fun z => ?_⟩
    · rcases u2 with z | z | z
      · refine ⟨ht, Or.inl ⟨⟨ht, ?_⟩, z.2.2⟩⟩
        rcases z.2.1 with y | y
        · exact Or.inl y.2
        · exact Or.inr y.2
      · exact ⟨ht, Or.inr (Or.inl z.2)⟩
      · exact ⟨ht, Or.inr (Or.inr z.2.2)⟩
    · rcases z.2 with ⟨z, zq⟩ | z | z
      · rcases z.2 with y | y
        · exact ⟨0, by omega, Or.inl ⟨by omega, Or.inl ⟨rfl, y⟩, zq⟩⟩
        · exact ⟨1, by omega, Or.inl ⟨by omega, Or.inr ⟨rfl, y⟩, zq⟩⟩
      · exact ⟨2, by omega, Or.inr (Or.inl ⟨rfl, z⟩)⟩
      · exact ⟨3, by omega, Or.inr (Or.inr ⟨rfl, rfl, z⟩)⟩
  · intro m w y hw h ih
    show ev_Q (fn_Mo_looks_93 r51 r59 r69 x (nI k) (nI t) (m + 1) y (nI w) g) R
    have e := eb_m B hk ht (show 0 ≤ 1 by omega) (show w < 5 by omega)
    rw [fn_Mo_looks_93, h]
    simp (disch := omega) only [ni_of, nI_clamp, ib_e, ck_t, bd_s, et_b, nI_add, if_p, ni_eq, ni_lt, ni_le, b_e0, b_e1, io_n, e, mI_or]
    rw [io_f (by omega)]
    refine ih _ (mI_c fun q _ => ⟨fun z => ?_, fun z => ?_⟩)
    · rcases z with (z | ⟨u, u1, u2⟩) | z
      · exact Or.inl z
      · exact Or.inr ⟨u, by omega, u2⟩
      · exact Or.inr ⟨w, by omega, z⟩
    · rcases z with z | ⟨u, u1, u2⟩
      · exact Or.inl (Or.inl z)
      · by_cases q : u = w
        · subst q; exact Or.inr u2
        · exact Or.inl (Or.inr ⟨u, by omega, u2⟩)
def dT (S : et_T) (P H : Nat → Nat) (k : Nat) (g : et_G) : Prop := ∀ j u, j < k → u < S 61 5 → d_t S P H g j u
theorem lo_69 {g0 g : et_G} (B0 : nB S np P H O g0) (f0 : fq w_l g0 g) (J : lJ S np P H g) {k M : Nat} (hk : k < np) {x : Int32} (W : lq M (dT S P H k) x g)
    (r51 : Int32 → et_G → Option (Unit × et_G)) (r59 : Int32 → Int32 → et_G → Option (Unit × et_G)) (R : Unit → et_G → Prop)
    (kk : ∀ x g', fq w_l g0 g' → lJ S np P H g' → lq M (dT S P H (k + 1)) x g' → ev_Q (r59 x (nI (k + 1)) g') R) : ev_Q (fn_Mo_looks_69 r51 r59 (nI k) 1000000 x 0 g) R := by
  have c := mB_c B0.1.1
  have hnp := B0.2.1.2.1
  refine lp0 (fun m i (s : Int32 × et_G) => fn_Mo_looks_69 r51 r59 (nI k) m s.1 i s.2) (fun o => ev_Q o R) (S 61 5) (by omega) (fun t s => fq w_l g0 s.2 ∧ lJ S np P H s.2 ∧ lq M (fun g => dT S P H k g ∧ ∀ u, u < t → d_t S P H g k u) s.1 s.2) (x, g) ⟨f0, J, ?_⟩ ?_ ?_
  · rcases W with W | W
    · exact Or.inl W
    · exact Or.inr ⟨W.1, W.2.1, W.2.2, fun u hu => by omega⟩
  · intro m s ⟨f, j, w⟩
    show ev_Q (fn_Mo_looks_69 r51 r59 (nI k) (m + 1) s.1 (nI (S 61 5)) s.2) R
    rw [fn_Mo_looks_69, show s.2.1 61 5 = nI (S 61 5) from by rw [f.1 61 5 rfl]; exact c.2.2.1, if_pos (nI_le (Nat.le_refl _) (by omega))]
    simp only [et_b, ni_of, nI_add]
    refine kk s.1 s.2 f j ?_
    rcases w with w | w
    · exact Or.inl w
    · refine Or.inr ⟨w.1, w.2.1, fun a u ha hu => ?_⟩
      by_cases e : a = k
      · subst e; exact w.2.2.2 u hu
      · exact w.2.2.1 a u (by omega) hu
  · intro m t s ht ⟨f, j, w⟩ ih
    show ev_Q (fn_Mo_looks_69 r51 r59 (nI k) (m + 1) s.1 (nI t) s.2) R
    have B := nB_q f B0
    have e : fn_Mo_looks_69 r51 r59 (nI k) (m + 1) s.1 (nI t) s.2 = fn_Mo_looks_93 r51 r59 (fun z1 z3 g => fn_Mo_looks_69 r51 r59 (nI k) m z1 z3 g) s.1 (nI k) (nI t) 1000000 (s.2.1 93 (8 * k + t)) 0 s.2 := by
      rw [fn_Mo_looks_69, show s.2.1 61 5 = nI (S 61 5) from by rw [f.1 61 5 rfl]; exact c.2.2.1, if_neg (nI_ge ht (by omega))]
      simp (disch := omega) only [ni_of, nI_clamp, ib_e, ck_t, bd_s, et_b, nI_add, if_p, ni_eq, ni_lt, ni_le, b_e0, b_e1, io_n, pk_mul]
    rw [e]
    refine lo_93 B j hk ht w r51 r59 _ R (fun g' f' j' l => ih (nI 1, g') ⟨fq_t f f', j', Or.inl ⟨rfl, l⟩⟩) (fun hx hd => ih (nI 0, s.2) ⟨f, j, Or.inr ⟨rfl, ?_⟩⟩)
    rcases w with w | w
    · rw [hx] at w; exact absurd w.1 (by decide)
    · refine ⟨w.2.1, w.2.2.1, fun u hu => ?_⟩
      by_cases e : u = t
      · subst e; exact hd
      · exact w.2.2.2 u (by omega)
theorem lo_59 {g : et_G} (B : nB S np P H O g) (J : lJ S np P H g) (r51 : Int32 → et_G → Option (Unit × et_G)) (R : Unit → et_G → Prop)
    (kk : ∀ x g', fq w_l g g' → lJ S np P H g' → lq (lE g) (dT S P H np) x g' → ev_Q (fn_Mo_looks_172 r51 1000000 x 0 g') R) : ev_Q (fn_Mo_looks_59 r51 1000000 0 0 g) R := by
  have hnp := B.2.1.2.1
  refine lp0 (fun m i (s : Int32 × et_G) => fn_Mo_looks_59 r51 m s.1 i s.2) (fun o => ev_Q o R) np (by omega) (fun k s => fq w_l g s.2 ∧ lJ S np P H s.2 ∧ lq (lE g) (dT S P H k) s.1 s.2) (0, g) ⟨fq_r _ _, J, Or.inr ⟨rfl, Nat.le_refl _, fun j u hj => by omega⟩⟩ ?_ ?_
  · intro m s ⟨f, j, w⟩
    show ev_Q (fn_Mo_looks_59 r51 (m + 1) s.1 (nI np) s.2) R
    rw [fn_Mo_looks_59, show s.2.1 61 59 = nI np from by rw [f.1 61 59 rfl]; exact B.2.1.1, if_pos (nI_le (Nat.le_refl _) (by omega))]
    exact kk s.1 s.2 f j w
  · intro m k s hk ⟨f, j, w⟩ ih
    show ev_Q (fn_Mo_looks_59 r51 (m + 1) s.1 (nI k) s.2) R
    rw [fn_Mo_looks_59, show s.2.1 61 59 = nI np from by rw [f.1 61 59 rfl]; exact B.2.1.1, if_neg (nI_ge hk (by omega))]
    exact lo_69 B f j hk w r51 _ R (fun x g' f' j' w' => ih (x, g') ⟨f', j', w'⟩)
theorem lo_172 {g0 g : et_G} (B0 : nB S np P H O g0) (f0 : fq w_l g0 g) (J : lJ S np P H g) {M : Nat} {x : Int32} (W : lq M (dT S P H np) x g)
    (r51 : Int32 → et_G → Option (Unit × et_G)) (R : Unit → et_G → Prop)
    (kk : ∀ x g', fq w_l g0 g' → lJ S np P H g' → lq M (fun g => dT S P H np g ∧ ∀ s, s < S 61 50 → a_HH S (a_al S) a_no s → d_e S O g s) x g' → ev_Q (r51 x g') R) : ev_Q (fn_Mo_looks_172 r51 1000000 x 0 g) R := by
  have c := mB_c B0.1.1
  have hnp := B0.2.1.2.1
  refine lp0 (fun m i (s : Int32 × et_G) => fn_Mo_looks_172 r51 m s.1 i s.2) (fun o => ev_Q o R) (S 61 50) (by omega) (fun k s => fq w_l g0 s.2 ∧ lJ S np P H s.2 ∧ lq M (fun g => dT S P H np g ∧ ∀ s, s < k → a_HH S (a_al S) a_no s → d_e S O g s) s.1 s.2) (x, g) ⟨f0, J, ?_⟩ ?_ ?_
  · rcases W with W | W
    · exact Or.inl W
    · exact Or.inr ⟨W.1, W.2.1, W.2.2, fun u hu => by omega⟩
  · intro m s ⟨f, j, w⟩
    show ev_Q (fn_Mo_looks_172 r51 (m + 1) s.1 (nI (S 61 50)) s.2) R
    rw [fn_Mo_looks_172, show s.2.1 61 50 = nI (S 61 50) from by rw [f.1 61 50 rfl]; exact c.1, if_pos (nI_le (Nat.le_refl _) (by omega))]
    exact kk s.1 s.2 f j w
  · intro m k s hk ⟨f, j, w⟩ ih
    show ev_Q (fn_Mo_looks_172 r51 (m + 1) s.1 (nI k) s.2) R
    have B := nB_q f B0
    obtain ⟨E1, E2, E3, E4, E5, E6⟩ := B.1
    obtain ⟨r1, r2⟩ := E4 k hk
    obtain ⟨o1, o2, o3, o4⟩ := B.2.1.2.2.2 k hk
    obtain ⟨w1, w2, w3, w4, w5⟩ := mB_s E1 hk
    have hc := B.2.2.1 k hk
    have e := eb_m B o2 w3 w5 w4
    rw [o3, o4] at e
    have same : s.1 = nI 0 → (a_HH S (a_al S) a_no k → d_e S O s.2 k) → ev_Q (fn_Mo_looks_172 r51 m (nI 0) (nI (k + 1)) s.2) R := by
      intro hx hd
      refine ih (nI 0, s.2) ⟨f, j, Or.inr ⟨rfl, ?_⟩⟩
      rcases w with w | w
      · rw [hx] at w; exact absurd w.1 (by decide)
      · refine ⟨w.2.1, w.2.2.1, fun u hu => ?_⟩
        by_cases q : u = k
        · subst q; exact hd
        · exact w.2.2.2 u (by omega)
    have h92 : s.2.1 92 k = mI (eM s.2 k) := mI_s _
    rw [fn_Mo_looks_172, show s.2.1 61 50 = nI (S 61 50) from by rw [f.1 61 50 rfl]; exact c.1, if_neg (nI_ge hk (by omega))]
    unfold fn_Mo_looks_245 fn_Mo_looks_250
    by_cases h1 : rg s.2 k = 1000
    · simp (disch := omega) only [ni_of, nI_clamp, ib_e, ck_t, bd_s, et_b, nI_add, if_p, ni_eq, ni_lt, ni_le, b_e0, b_e1, io_n, r1]
      rw [io_t h1]
      rcases w with w | w
      · exact ih (s.1, s.2) ⟨f, j, Or.inl w⟩
      · rw [w.1]; exact same w.1 (fun z => by have := hc.mpr z; omega)
    · have hh : a_HH S (a_al S) a_no k := hc.mp (by omega)
      have hN : ∀ q, (eM s.2 k q ∨ a_eb S s.2 (O k) (S 84 (5 * k)) (S 84 (5 * k + 1)) (S 84 (5 * k + 2)) (S 84 (5 * k + 4)) (S 84 (5 * k + 3)) q) ↔ (eM s.2 k q ∨ l_es S s.2 (O k) k q) := by
        intro q
        have st := ((a_HH_cl E1.2.1).mp hh).2.2.2 (fun z => z)
        refine or_congr Iff.rfl ⟨fun z => ⟨hh, ?_⟩, fun z => ?_⟩
        · rcases z with z | z | z
          · exact Or.inl ⟨z.1, z.2.2⟩
          · exact Or.inr (Or.inl z)
          · exact Or.inr (Or.inr ⟨z.1, z.2.2⟩)
        · rcases z.2 with z | z | z
          · refine Or.inl ⟨z.1, ?_, z.2⟩
            rcases st with y | y | y | y | y
            · exact Or.inl y
            · exact Or.inr y
            · omega
            · omega
            · omega
          · exact Or.inr (Or.inl z)
          · refine Or.inr (Or.inr ⟨z.1, ?_, z.2⟩)
            rcases st with y | y | y | y | y
            · omega
            · omega
            · omega
            · exact y.2.1
            · omega
      obtain ⟨u1, u2, u3⟩ := lu_e B j hk hN
      rcases w with w | w
      · rw [w.1]
        simp (disch := omega) only [ni_of, nI_clamp, ib_e, ck_t, bd_s, et_b, nI_add, if_p, ni_eq, ni_lt, ni_le, b_e0, b_e1, io_n, r1, of_m E1, o1, e, h92, mI_or]
        rw [io_f h1, io_f (by decide)]
        exact ih (nI 1, _) ⟨fq_s f rfl, u1, Or.inl ⟨rfl, Nat.lt_of_lt_of_le w.2 u2⟩⟩
      · rw [w.1]
        simp (disch := omega) only [ni_of, nI_clamp, ib_e, ck_t, bd_s, et_b, nI_add, if_p, ni_eq, ni_lt, ni_le, b_e0, b_e1, io_n, r1, of_m E1, o1, e, h92, mI_or]
        rw [io_f h1, io_t trivial]
        by_cases q : mI (fun i => eM s.2 k i ∨ a_eb S s.2 (O k) (S 84 (5 * k)) (S 84 (5 * k + 1)) (S 84 (5 * k + 2)) (S 84 (5 * k + 4)) (S 84 (5 * k + 3)) i) = mI (eM s.2 k)
        · rw [io_t q, q, ← h92, si_same]
          refine same w.1 (fun _ b hb z => ?_)
          have := (hN b).mpr (Or.inr z)
          exact (mI_i.mp q b hb).mp this
        · rw [io_f q]
          refine ih (nI 1, _) ⟨fq_s f rfl, u1, Or.inl ⟨rfl, ?_⟩⟩
          have := u3 (by rw [h92]; exact q)
          exact Nat.lt_of_le_of_lt w.2.1 this
theorem lo_cm {g : et_G} (B : nB S np P H O g) (J : lJ S np P H g) (C1 : dT S P H np g) (C2 : ∀ s, s < S 61 50 → a_HH S (a_al S) a_no s → d_e S O g s) : ∀ s, s < S 61 50 → g.1 92 s = mI (a_EY S s) := by
  have key : ∀ r, (∀ i q, i < S 61 50 → q < 32 → (a_ey S r).1 i q → eM g i q) ∧ ∀ k t q, k < np → t < S 61 5 → q < 32 → (a_ey S r).2 (P k) (H k) t q → tM g (8 * k + t) q := by
    intro r
    induction r with
    | zero => exact ⟨fun _ _ _ _ z => z.elim, fun _ _ _ _ _ _ z => z.elim⟩
    | succ r ih =>
      refine ⟨fun i q hi hq z => C2 i hi z.1 q hq ⟨z.1, ?_⟩, fun k t q hk ht hq z => C1 k t hk ht q hq ⟨z.1, ?_⟩⟩
      · obtain ⟨o1, o2, o3, o4⟩ := B.2.1.2.2.2 i hi
        rcases z.2 with b | b | b
        · exact Or.inl b
        · obtain ⟨b0, u, b1, b2, b3, b4⟩ := b
          exact Or.inr (Or.inl ⟨b0, u, b1, b2, b3, ih.1 u q b3.1 hq b4⟩)
        · obtain ⟨b0, u, b1, k, b2, b3, b4⟩ := b
          rw [← o3, ← o4] at b4
          exact Or.inr (Or.inr ⟨b0, u, b1, k, b2, b3, ih.2 (O i) _ q o2 ((mB_r B.1.1 b1.1).2.2 k b3) hq b4⟩)
      · rcases z.2 with b | b | b
        · exact Or.inl b
        · obtain ⟨u, b1, b2, b3, b4⟩ := b
          exact Or.inr (Or.inl ⟨u, b1, b2, b3, ih.1 u q b3.1 hq b4⟩)
        · obtain ⟨u, b1, j, b2, b3, b4⟩ := b
          exact Or.inr (Or.inr ⟨u, b1, j, b2, b3, ih.2 k _ q hk ((mB_r B.1.1 b1.1).2.2 j b3) hq b4⟩)
  intro i hi
  exact mI_eq fun q hq => ⟨fun z => J.1 i q hi z, fun ⟨r, z⟩ => (key r).1 i q hi hq z⟩
theorem lo_51 {g0 : et_G} (B : nB S np P H O g0) : ∀ n g, fq w_l g0 g → lJ S np P H g → 6017 - lE g < n → ev_Q (fn_Mo_looks_51 n 1 g) (fun _ g' => fq w_l g0 g' ∧ ∀ s, s < S 61 50 → g'.1 92 s = mI (a_EY S s)) := by
  intro n
  induction n with
  | zero => intro g _ _ h; omega
  | succ n ih =>
    intro g f J hn
    have hle : lE g ≤ 6016 := cnt_le _ _
    rw [fn_Mo_looks_51, if_neg (by decide)]
    refine lo_59 (nB_q f B) J _ _ (fun x g1 f1 J1 W1 => lo_172 (nB_q f B) f1 J1 W1 _ _ (fun x g2 f2 J2 W2 => ?_))
    have hle2 : lE g2 ≤ 6016 := cnt_le _ _
    rcases W2 with ⟨a, b⟩ | ⟨a, b, d, e⟩
    · rw [a]
      exact ih g2 (fq_t f f2) J2 (by omega)
    · rw [a]
      obtain ⟨n, rfl⟩ : ∃ m, n = m + 1 := ⟨n - 1, by omega⟩
      rw [fn_Mo_looks_51, if_pos nI_0]
      exact ev_r ⟨fq_t f f2, lo_cm (nB_q (fq_t f f2) B) J2 d e⟩
theorem lo_c {g0 : et_G} (B : nB S np P H O g0) : ev_Q (fn_Mo_looks g0) (fun _ g' => fq w_l g0 g' ∧ ∀ s, s < S 61 50 → g'.1 92 s = mI (a_EY S s)) := by
  have c := mB_c B.1.1
  have hnp := B.2.1.2.1
  unfold fn_Mo_looks
  refine lp0 (fun m i (s : et_G) => fn_Mo_looks_2 m i s) (fun o => ev_Q o (fun _ g' => fq w_l g0 g' ∧ ∀ s, s < S 61 50 → g'.1 92 s = mI (a_EY S s))) (S 61 50) (by omega) (fun k s => fq w_l g0 s ∧ ∀ i, i < k → s.1 92 i = 0) g0 ⟨fq_r _ _, fun i hi => by omega⟩ ?_ ?_
  · intro m s ⟨f, h⟩
    show ev_Q (fn_Mo_looks_2 (m + 1) (nI (S 61 50)) s) _
    rw [fn_Mo_looks_2, show s.1 61 50 = nI (S 61 50) from by rw [f.1 61 50 rfl]; exact c.1, if_pos (nI_le (Nat.le_refl _) (by omega))]
    refine lp0 (fun m i (s : et_G) => fn_Mo_looks_25 m i s) (fun o => ev_Q o (fun _ g' => fq w_l g0 g' ∧ ∀ s, s < S 61 50 → g'.1 92 s = mI (a_EY S s))) (8 * np) (by omega) (fun k s => fq w_l g0 s ∧ (∀ i, i < S 61 50 → s.1 92 i = 0) ∧ ∀ i, i < k → s.1 93 i = 0) s ⟨f, h, fun i hi => by omega⟩ ?_ ?_
    · intro m s ⟨f, h1, h2⟩
      show ev_Q (fn_Mo_looks_25 (m + 1) (nI (8 * np)) s) _
      rw [fn_Mo_looks_25, show s.1 61 59 = nI np from by rw [f.1 61 59 rfl]; exact B.2.1.1]
      simp (disch := omega) only [ni_of, pk_mul, ni_le, Nat.le_refl, if_true]
      refine lo_51 B 1000000 s f ⟨fun i q hi z => ?_, fun k t q hk ht z => ?_⟩ (by omega)
      · unfold eM at z; rw [h1 i hi, bt_0] at z; cases z
      · unfold tM at z; rw [h2 _ (by omega), bt_0] at z; cases z
    · intro m k s hk ⟨f, h1, h2⟩ ih
      show ev_Q (fn_Mo_looks_25 (m + 1) (nI k) s) _
      rw [fn_Mo_looks_25, show s.1 61 59 = nI np from by rw [f.1 61 59 rfl]; exact B.2.1.1]
      simp (disch := omega) only [ni_of, nI_clamp, ib_e, ck_t, bd_s, et_b, nI_add, if_p, ni_eq, ni_lt, ni_le, b_e0, b_e1, io_n, pk_mul]
      rw [io_f (by omega)]
      refine ih _ ⟨fq_s f rfl, fun i hi => by rw [si_x (by decide)]; exact h1 i hi, fun i hi => ?_⟩
      by_cases e : i = k
      · rw [e, si_e]; rfl
      · rw [si_j e]; exact h2 i (by omega)
  · intro m k s hk ⟨f, h⟩ ih
    show ev_Q (fn_Mo_looks_2 (m + 1) (nI k) s) _
    rw [fn_Mo_looks_2, show s.1 61 50 = nI (S 61 50) from by rw [f.1 61 50 rfl]; exact c.1, if_neg (nI_ge hk (by omega))]
    simp (disch := omega) only [ni_of, nI_clamp, ib_e, ck_t, bd_s, et_b, nI_add, if_p, ni_eq, ni_lt, ni_le, b_e0, b_e1, io_n]
    refine ih _ ⟨fq_s f rfl, fun i hi => ?_⟩
    by_cases e : i = k
    · rw [e, si_e]; rfl
    · rw [si_j e]; exact h i (by omega)
theorem a_ch_ex (S : et_T) (s : Nat) : ∃ c, a_lev S (a_al S) a_no s c ∨ (¬ a_HH S (a_al S) a_no s ∧ c = 0) := by
  by_cases h : a_HH S (a_al S) a_no s
  · obtain ⟨c, c1, c2⟩ := pk_least (fun r => a_H S (a_al S) a_no r s) h
    exact ⟨c, Or.inl ⟨c1, fun r hr => c2 r hr⟩⟩
  · exact ⟨0, Or.inr ⟨h, rfl⟩⟩
noncomputable def a_ch (S : et_T) (s : Nat) : Nat := Classical.choose (a_ch_ex S s)
theorem a_ch_l {s c : Nat} (h : a_lev S (a_al S) a_no s c) : a_ch S s = c := by
  rcases Classical.choose_spec (a_ch_ex S s) with z | z
  · exact a_lev_u z h
  · exact absurd ⟨c, h.1⟩ z.1
theorem a_ch_n {s : Nat} (h : ¬ a_HH S (a_al S) a_no s) : a_ch S s = 0 := by
  rcases Classical.choose_spec (a_ch_ex S s) with z | z
  · exact absurd ⟨_, z.1⟩ h
  · exact z.2
noncomputable def sg_v (S : et_T) (s w : Nat) : Int32 := match w with | 5 => bI (a_HH S (a_al S) a_no s) | 6 => nI (a_ch S s) | 7 => mI (a_EY S s) | w => nI (S 84 (5 * s + w))
noncomputable def sg_o (S : et_T) (p w : Int32) : et_oc := io (iN p (S 61 50) ∧ iN w 8) (.inr (sg_v S p.toNatClampNeg w.toNatClampNeg)) (.inl 0)
theorem sg_c {g : et_G} (A : gA S g) (G : rc_G S g) (p w : Int32) : ev_Q (fn_Et_saying p w g) (fun o g' => o = sg_o S p w ∧ fq w_gr g g' ∧ rc_G S g') := by
  have hn := gA_n A
  unfold fn_Et_saying sg_o
  rw [hn.1]
  by_cases h1 : iN p (S 61 50)
  · obtain ⟨s, hs, rfl⟩ := iN_e h1 (by omega)
    rw [if_neg h1.1, if_pos (nI_lt hs (by omega)), ib_e s 20 (by omega) (by decide), ck_t, ck_t, ck_t, ck_t, ck_t, nI_clamp (by omega)]
    obtain ⟨e1, e2, e3, e4, e5⟩ := gA_s A hs
    have w5 := (gA_w A hs).2.2.2.2
    by_cases h2 : iN w 8
    · rw [io_t ⟨h1, h2⟩]
      obtain ⟨w, hw, rfl⟩ := iN_e h2 (by decide)
      rw [nI_clamp (by omega)]
      match w, hw with
      | 0, _ => rw [if_pos (by decide), e1]; exact ev_r ⟨rfl, fq_r _ _, G⟩
      | 1, _ => rw [if_neg (by decide), if_pos (by decide), e2]; exact ev_r ⟨rfl, fq_r _ _, G⟩
      | 2, _ => rw [if_neg (by decide), if_neg (by decide), if_pos (by decide), e3]; exact ev_r ⟨rfl, fq_r _ _, G⟩
      | 3, _ => rw [if_neg (by decide), if_neg (by decide), if_neg (by decide), if_pos (by decide), e4]; exact ev_r ⟨rfl, fq_r _ _, G⟩
      | 4, _ =>
        rw [if_neg (by decide), if_neg (by decide), if_neg (by decide), if_neg (by decide), if_pos (by decide), e5]
        show ev_Q (if nI (S 84 (5 * s + 4)) = 0 then _ else _) _
        by_cases z : S 84 (5 * s + 4) = 0
        · rw [if_pos (by rw [z]; rfl)]
          exact ev_r ⟨by show _ = Sum.inr (nI (S 84 (5 * s + 4))); rw [z]; rfl, fq_r _ _, G⟩
        · rw [if_neg (show ¬ nI (S 84 (5 * s + 4)) = (0 : Int32) from fun e => z ((nI_eq (b := 0) (by omega) (by decide)).mp e))]
          exact ev_r ⟨by show _ = Sum.inr (nI (S 84 (5 * s + 4))); rw [show S 84 (5 * s + 4) = 1 by omega]; rfl, fq_r _ _, G⟩
      | 5, _ =>
        rw [if_neg (by decide), if_neg (by decide), if_neg (by decide), if_neg (by decide), if_neg (by decide), if_pos (by decide)]
        refine ev_d (ch_c A G hs) (fun v g1 ⟨f, G1, q⟩ => ?_)
        rcases q with ⟨c, c1, c2, rfl⟩ | ⟨c1, rfl⟩
        · have := a_lev_1 c2
          rw [if_neg (show ¬ nI c ≤ 0 from nI_nle (by omega) (by omega))]
          exact ev_r ⟨by show _ = Sum.inr (bI (a_HH S (a_al S) a_no s)); rw [bI_t ⟨c, c2.1⟩]; rfl, f, G1⟩
        · rw [if_pos (by decide)]
          exact ev_r ⟨by show _ = Sum.inr (bI (a_HH S (a_al S) a_no s)); rw [bI_f c1]; rfl, f, G1⟩
      | 6, _ =>
        rw [if_neg (by decide), if_neg (by decide), if_neg (by decide), if_neg (by decide), if_neg (by decide), if_neg (by decide), if_pos (by decide)]
        refine ev_d (ch_c A G hs) (fun v g1 ⟨f, G1, q⟩ => ?_)
        rcases q with ⟨c, c1, c2, rfl⟩ | ⟨c1, rfl⟩
        · exact ev_r ⟨by show _ = Sum.inr (nI (a_ch S s)); rw [a_ch_l c2], f, G1⟩
        · exact ev_r ⟨by show _ = Sum.inr (nI (a_ch S s)); rw [a_ch_n c1], f, G1⟩
      | 7, _ =>
        rw [if_neg (by decide), if_neg (by decide), if_neg (by decide), if_neg (by decide), if_neg (by decide), if_neg (by decide), if_neg (by decide), if_pos (by decide)]
        refine ev_d (ef_c A G hs) (fun v g1 ⟨f, G1, q⟩ => ev_r ⟨by rw [q]; rfl, f, G1⟩)
      | w + 8, hw => omega
    · have n0 := iN_ne (j := 0) h2 (by decide) (by decide)
      have n1 := iN_ne (j := 1) h2 (by decide) (by decide)
      have n2 := iN_ne (j := 2) h2 (by decide) (by decide)
      have n3 := iN_ne (j := 3) h2 (by decide) (by decide)
      have n4 := iN_ne (j := 4) h2 (by decide) (by decide)
      have n5 := iN_ne (j := 5) h2 (by decide) (by decide)
      have n6 := iN_ne (j := 6) h2 (by decide) (by decide)
      have n7 := iN_ne (j := 7) h2 (by decide) (by decide)
      rw [io_f (fun e => h2 e.2)]
      simp only [ni_of, n0, n1, n2, n3, n4, n5, n6, n7, if_false]
      exact ev_r ⟨rfl, fq_r _ _, G⟩
  · rw [io_f (fun e => h1 e.1)]
    by_cases q : p < 0
    · rw [if_pos q]; exact ev_r ⟨rfl, fq_r _ _, G⟩
    · rw [if_neg q, if_neg (fun z => h1 ⟨q, fun y => Int32.lt_irrefl (Int32.lt_of_lt_of_le z y)⟩)]
      exact ev_r ⟨rfl, fq_r _ _, G⟩
theorem sg_m {g : et_G} (B : mB S g) (p w : Int32) : ev_Q (fn_Mo_saying p w g) (fun v g' => v = va_o (sg_o S p w) ∧ g'.1 61 0 = th_o (sg_o S p w) ∧ fq w_sc g g') := by
  have c := mB_c B
  unfold fn_Mo_saying sg_o
  simp only [et_b]
  have f0 : fq w_sc g (et_si g 61 0 0) := fq_s (fq_r _ _) rfl
  have h0 : (et_si g 61 0 0).1 61 0 = 0 := si_e
  generalize et_si g 61 0 0 = g1 at f0 h0 ⊢
  have B1 := mB_sc f0 B
  have c1 := mB_c B1
  have bad : ev_Q (fn_Mo_saying_32 p w g1) (fun v g' => v = va_o (.inl 0) ∧ g'.1 61 0 = th_o (.inl 0) ∧ fq w_sc g g') := by
    unfold fn_Mo_saying_32 fn_Mo_saying_33
    rw [ri_n h0 _ (by decide), bd_s, if_pos rfl]
    exact ev_r ⟨rfl, si_e, fq_s f0 rfl⟩
  rw [c1.1]
  by_cases h1 : iN p (S 61 50)
  · rw [if_neg h1.1, if_neg h1.2, show (7 : Int32) = nI 7 from rfl, wi_c w 7 (by decide), bd_s]
    by_cases h2 : iN w 8
    · rw [io_t h2, if_neg (by decide), io_t ⟨h1, h2⟩]
      obtain ⟨s, hs, rfl⟩ := iN_e h1 (by omega)
      obtain ⟨w, hw, rfl⟩ := iN_e h2 (by decide)
      rw [nI_clamp (by omega), nI_clamp (by omega)]
      unfold fn_Mo_saying_33
      rw [ri_y h0 _ _ (by decide), bd_s, if_neg (by decide)]
      by_cases h5 : 5 ≤ w
      · rw [if_pos (show (5 : Int32) ≤ nI w from nI_le (a := 5) h5 (by omega))]
        refine ev_d (as_0 B1 0) (fun _ g2 ⟨a1, B2, np, P, H, O, A2⟩ => ?_)
        rw [al_m B2, bd_s]
        have r := rk_c B2 A2 (a_al S) a_no
        rw [show mI a_no = (0 : Int32) from mI_0.symm] at r
        refine ev_d r (fun _ g3 ⟨J, F, _⟩ => ?_)
        have f3 := fq_t f0 (fq_t (as_sc a1) (rk_sc J.1))
        have t3 : g3.1 61 0 = 0 := by rw [J.1.1 61 0 rfl, a1.1 61 0 rfl]; exact h0
        obtain ⟨b1, b2, -⟩ := J.2.2.2.1 s hs
        obtain ⟨r1, r2⟩ := rg_f B2 J F hs
        have hcase : w = 5 ∨ w = 6 ∨ w = 7 := by omega
        rcases hcase with rfl | rfl | rfl
        · rw [if_neg (by decide), if_pos (by decide)]
          simp (disch := omega) only [ni_of, nI_clamp, ib_e, ck_t, bd_s, et_b, nI_add, if_p, ni_eq, ni_lt, ni_le, b_e0, b_e1, io_n, b1]
          by_cases q : 1000 ≤ rg g3 s
          · rw [io_t q]
            exact ev_r ⟨by show _ = bI (a_HH S (a_al S) a_no s); rw [bI_f (fun z => by have := r1.mpr z; omega)], t3, f3⟩
          · rw [io_f q]
            exact ev_r ⟨by show _ = bI (a_HH S (a_al S) a_no s); rw [bI_t (r1.mp (by omega))], t3, f3⟩
        · rw [if_neg (by decide), if_neg (by decide)]
          simp (disch := omega) only [ni_of, nI_clamp, ib_e, ck_t, bd_s, et_b, nI_add, if_p, ni_eq, ni_lt, ni_le, b_e0, b_e1, io_n, b1]
          by_cases q : 1000 ≤ rg g3 s
          · rw [io_t q]
            exact ev_r ⟨by show _ = nI (a_ch S s); rw [a_ch_n (fun z => by have := r1.mpr z; omega)], t3, f3⟩
          · rw [io_f q]
            have hh := r1.mp (by omega)
            obtain ⟨c', -, -, c3⟩ := a_lev_ex B.2.1 c.2.1 hh
            exact ev_r ⟨by show _ = nI (a_ch S s); rw [a_ch_l c3, r2 c' c3], t3, f3⟩
        · rw [if_pos (by decide)]
          refine ev_d (lo_c (nB_of B2 A2 J F)) (fun _ g4 ⟨d1, d2⟩ => ?_)
          rw [ib_e s 20 (by omega) (by decide), ck_t, nI_clamp (by omega), d2 s hs]
          exact ev_r ⟨rfl, by rw [d1.1 61 0 rfl]; exact t3, fq_t f3 (fq_w d1 (fun k j e => by have := w_sc_c e; simp [w_l]; omega))⟩
      · rw [if_neg (show ¬ (5 : Int32) ≤ nI w from nI_ge (b := 5) (by omega) (by decide)), of_m B1 (by omega), bd_s]
        refine ev_r ⟨?_, h0, f0⟩
        match w, h5 with
        | 0, _ => rfl
        | 1, _ => rfl
        | 2, _ => rfl
        | 3, _ => rfl
        | 4, _ => rfl
        | w + 5, h5 => omega
    · rw [io_f h2, if_pos rfl, io_f (fun e => h2 e.2)]; exact bad
  · rw [io_f (fun e => h1 e.1)]
    by_cases q : p < 0
    · rw [if_pos q]; exact bad
    · rw [if_neg q]
      by_cases q2 : nI (S 61 50) ≤ p
      · rw [if_pos q2]; exact bad
      · exact absurd ⟨q, q2⟩ h1
theorem ok_saying {g : et_G} (I : Iv S g) (p w : Int32) : okB 0 S g (fn_Et_saying p w g) (fn_Mo_saying p w) := ⟨S, sg_o S p w, ev_w (sg_c (Iv_gA I) I.2.1 p w) (fun _ g' ⟨a, b, c⟩ => ⟨a, rc_C_gr b I.1, c, gr_C b⟩), fun g1 M => ev_w (sg_m (Iv_mB I M) p w) (fun _ g' ⟨a, b, c⟩ => ⟨a, b, (mB_sc c (Iv_mB I M)).1, sc_M c⟩), I.2.2.2.1, I.2.2.2.2, fun k e => io_in e⟩
end LO
