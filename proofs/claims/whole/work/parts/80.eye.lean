/-! eyes: the class -/
def eg (g : et_G) (i q : Nat) : Prop := bt (g.1 57 i) q = true
def tq (g : et_G) (j q : Nat) : Prop := bt (g.1 58 j) q = true
def cg (g : et_G) (i : Nat) (_ _ t q : Nat) : Prop := tq g (i * 8 + t) q
theorem sc_o {F : Nat → Int32 → Int32 → et_G → Option (Int32 × et_G)} {g : et_G} {N : Nat} {P : Nat → Prop} {v : Nat → Int32} (hN : N < 1000000)
    (he : ∀ m x, F (m + 1) x (nI N) g = some (x, g))
    (hs : ∀ m x k, k < N → F (m + 1) x (nI k) g = io (P k) (F m (x ||| v k) (nI (k + 1)) g) (F m x (nI (k + 1)) g)) :
    F 1000000 0 0 g = some (mI fun q => ∃ u, u < N ∧ P u ∧ bt (v u) q = true, g) := by
  refine lp0 (fun m i (x : Int32) => F m x i g) (fun o => o = some (mI fun q => ∃ u, u < N ∧ P u ∧ bt (v u) q = true, g)) N hN (fun k x => x = mI fun q => ∃ u, u < k ∧ P u ∧ bt (v u) q = true) 0 ?_ ?_ ?_
  · rw [mI_0]; exact mI_c fun i _ => ⟨fun z => z.elim, fun ⟨t, z, _⟩ => by omega⟩
  · intro m s h
    show F (m + 1) s (nI N) g = _
    rw [he m s, h]
  · intro m k s hk h ih
    show F (m + 1) s (nI k) g = _
    rw [hs m s k hk]
    by_cases p : P k
    · rw [io_t p]
      refine ih _ ?_
      refine mI_eq fun i hi => ?_
      rw [bt_or, Bool.or_eq_true, h, mI_b _ hi]
      constructor
      · intro z
        rcases z with ⟨u, u1, u2⟩ | z
        · exact ⟨u, by omega, u2⟩
        · exact ⟨k, by omega, p, z⟩
      · rintro ⟨u, u1, u2, u3⟩
        by_cases e : u = k
        · subst e; exact Or.inr u3
        · exact Or.inl ⟨u, by omega, u2, u3⟩
    · rw [io_f p]
      refine ih _ ?_
      rw [h]
      refine mI_c fun i _ => ⟨fun ⟨t, q1, q2⟩ => ⟨t, by omega, q2⟩, fun ⟨t, q1, q2, q3⟩ => ?_⟩
      by_cases e : t = k
      · subst e; exact absurd q2 p
      · exact ⟨t, by omega, q2, q3⟩
section EM
variable {S : et_T} {E E' : Nat → Nat → Prop}
theorem a_te_m (h : ∀ u q, E u q → E' u q) {p k t nt q : Nat} (z : a_te S E p k t nt q) : a_te S E' p k t nt q := by
  obtain ⟨u, a, b, c, d⟩ := z
  exact ⟨u, a, b, c, h u q d⟩
theorem a_re_m {C C' : Nat → Nat → Prop} (h : ∀ t q, C t q → C' t q) {p k t q : Nat} (z : a_re S C p k t q) : a_re S C' p k t q := by
  obtain ⟨r, a, j, b, c, d⟩ := z
  exact ⟨r, a, j, b, c, h _ q d⟩
theorem a_es_m {C C' : Nat → Nat → Nat → Nat → Prop} {s q : Nat} (h : ∀ u q, E u q → E' u q) (h2 : S 84 (5 * s + 3) = 3 → ∀ t q, C (S 84 (5 * s)) (S 84 (5 * s + 1)) t q → C' (S 84 (5 * s)) (S 84 (5 * s + 1)) t q) (z : a_es S E C s q) : a_es S E' C' s q := by
  obtain ⟨a, b⟩ := z
  refine ⟨a, ?_⟩
  rcases b with b | b | b
  · exact Or.inl b
  · exact Or.inr (Or.inl ⟨b.1, a_te_m h b.2⟩)
  · exact Or.inr (Or.inr ⟨b.1, a_re_m (h2 b.1) b.2⟩)
theorem a_ct_m {C C' : Nat → Nat → Prop} (h : ∀ u q, E u q → E' u q) (h2 : ∀ t q, C t q → C' t q) {p k t q : Nat} (z : a_ct S E C p k t q) : a_ct S E' C' p k t q := by
  obtain ⟨a, b⟩ := z
  refine ⟨a, ?_⟩
  rcases b with b | b | b
  · exact Or.inl b
  · exact Or.inr (Or.inl (a_te_m h b))
  · exact Or.inr (Or.inr (a_re_m h2 b))
/-- closed: one step more is in the end already -/
theorem es_cl {s q : Nat} (z : a_es S (a_EY S) (a_CE S) s q) : a_EY S s q := by
  obtain ⟨a, b⟩ := z
  rcases b with b | b | b
  · exact ⟨1, a, Or.inl b⟩
  · obtain ⟨b0, u, b1, b2, b3, r, b4⟩ := b
    exact ⟨r + 1, a, Or.inr (Or.inl ⟨b0, u, b1, b2, b3, b4⟩)⟩
  · obtain ⟨b0, u, b1, j, b2, b3, r, b4⟩ := b
    exact ⟨r + 1, a, Or.inr (Or.inr ⟨b0, u, b1, j, b2, b3, b4⟩)⟩
theorem ct_cl {p k t q : Nat} (z : a_ct S (a_EY S) (a_CE S p k) p k t q) : a_CE S p k t q := by
  obtain ⟨a, b⟩ := z
  rcases b with b | b | b
  · exact ⟨1, a, Or.inl b⟩
  · obtain ⟨u, b1, b2, b3, r, b4⟩ := b
    exact ⟨r + 1, a, Or.inr (Or.inl ⟨u, b1, b2, b3, b4⟩)⟩
  · obtain ⟨u, b1, j, b2, b3, r, b4⟩ := b
    exact ⟨r + 1, a, Or.inr (Or.inr ⟨u, b1, j, b2, b3, b4⟩)⟩
theorem ey_lt (hl : wf_led S) : ∀ r, (∀ s q, (a_ey S r).1 s q → q < S 61 4) ∧ ∀ p k t q, p < S 61 4 → (a_ey S r).2 p k t q → q < S 61 4 := by
  intro r
  induction r with
  | zero => exact ⟨fun _ _ z => z.elim, fun _ _ _ _ _ z => z.elim⟩
  | succ r ih =>
    refine ⟨fun s q z => ?_, fun p k t q hp z => ?_⟩
    · obtain ⟨a, b⟩ := z
      have hs := (a_HH_n a).1
      have w := hl.2 s hs
      rcases b with b | b | b
      · rw [b.2]; exact w.1
      · obtain ⟨b0, u, b1, b2, b3, b4⟩ := b
        exact ih.1 u q b4
      · obtain ⟨b0, u, b1, j, b2, b3, b4⟩ := b
        exact ih.2 _ _ _ q w.1 b4
    · obtain ⟨a, b⟩ := z
      rcases b with b | b | b
      · rw [b.2]; exact hp
      · obtain ⟨u, b1, b2, b3, b4⟩ := b
        exact ih.1 u q b4
      · obtain ⟨u, b1, j, b2, b3, b4⟩ := b
        exact ih.2 _ _ _ q hp b4
end EM
/-- what stands while eyes are opened -/
def eB (S : et_T) (g : et_G) : Prop := gA S g ∧ gL S g ∧ g.1 48 13 = mI (a_HH S (a_al S) a_no) ∧ g.1 48 14 = mI (a_tt S) ∧ ∀ i, i < S 61 50 → g.1 54 i = mI (a_CL S (a_tt S) (S 84 (5 * i)) (S 84 (5 * i + 1)))
def w_e (k _j : Nat) : Bool := k == 57 || k == 58
section EC
variable {S : et_T} {g : et_G}
theorem eB_q {g' : et_G} (f : fq w_e g g') (B : eB S g) : eB S g' := by
  obtain ⟨a, b, c, d, e⟩ := B
  exact ⟨gA_q f ⟨rfl, rfl, rfl, rfl, rfl, rfl, fun _ => rfl, fun _ => rfl, fun _ => rfl, fun _ => rfl, fun _ => rfl, fun _ => rfl, fun _ => rfl, fun _ => rfl⟩ ⟨rfl, fun _ => rfl, fun _ => rfl, fun _ => rfl, fun _ => rfl, fun _ => rfl⟩ a, gL_q f ⟨fun _ => rfl, fun _ => rfl, fun _ => rfl, fun _ => rfl, fun _ => rfl, rfl⟩ b, by rw [f.1 48 13 rfl]; exact c, by rw [f.1 48 14 rfl]; exact d, fun i hi => by rw [f.1 54 i rfl]; exact e i hi⟩
theorem eo_c (A : gA S g) (X : Nat → Prop) : fn_Gr_eyesOfAll (mI X) g = some (mI (fun q => ∃ u, u < S 61 50 ∧ X u ∧ eg g u q), g) := by
  obtain ⟨n0, hn⟩ := gA_n A
  unfold fn_Gr_eyesOfAll
  exact sc_o (F := fn_Gr_eyesOfAll_4 (mI X)) (g := g) (N := S 61 50) (P := X) (v := fun u => g.1 57 u) (by omega) (fun m x => by
    rw [fn_Gr_eyesOfAll_4, n0, if_pos (nI_le (Nat.le_refl _) (by omega))]) (fun m x k hk => by
    rw [fn_Gr_eyesOfAll_4, n0, if_neg (nI_ge hk (by omega))]
    simp (disch := omega) only [ni_of, nI_clamp, ib_e, ck_t, bd_s, et_b, nI_add, if_p, ni_eq, ni_lt, ni_le, b_e0, b_e1, io_n, hb_m])
theorem te_c (A : gA S g) {i : Nat} (hi : i < S 61 50) (X : Nat → Prop) : fn_Gr_tailEyes (nI i) (mI X) g = some (mI (fun q => ∃ t, t < S 61 5 ∧ X t ∧ tq g (i * 8 + t) q), g) := by
  have c := gA_c A
  have hn := (gA_n A).2
  unfold fn_Gr_tailEyes
  exact sc_o (F := fn_Gr_tailEyes_5 (nI i) (mI X)) (g := g) (N := S 61 5) (P := X) (v := fun t => g.1 58 (i * 8 + t)) (by omega) (fun m x => by
    rw [fn_Gr_tailEyes_5, c.2.2.1, if_pos (nI_le (Nat.le_refl _) (by omega))]) (fun m x k hk => by
    rw [fn_Gr_tailEyes_5, c.2.2.1, if_neg (nI_ge hk (by omega))]
    simp (disch := omega) only [ni_of, nI_clamp, ib_e, ck_t, bd_s, et_b, nI_add, if_p, ni_eq, ni_lt, ni_le, b_e0, b_e1, io_n, hb_m, pk_mul])
theorem re_c (B : eB S g) {i t : Nat} (hi : i < S 61 50) (ht : t < 2 ^ 31) : fn_Gr_ruleEyes (nI i) (nI t) g = some (mI (a_re S (fun t q => tq g (i * 8 + t) q) (S 84 (5 * i)) (S 84 (5 * i + 1)) t), g) := by
  have A := B.1
  have c := gA_c A
  have hn := (gA_n A).2
  unfold fn_Gr_ruleEyes
  have := sc_o (F := fn_Gr_ruleEyes_5 (nI i) (nI t)) (g := g) (N := S 61 6) (P := fun r => S 67 (5 * r + 1) = t ∧ ∀ k, 1 ≤ k → k < S 67 (5 * r) → a_CL S (a_tt S) (S 84 (5 * i)) (S 84 (5 * i + 1)) (S 67 (5 * r + 1 + k))) (v := fun r => mI (fun q => ∃ t', t' < S 61 5 ∧ a_tl S r t' ∧ tq g (i * 8 + t') q)) (by omega) (fun m x => by
    rw [fn_Gr_ruleEyes_5, c.2.2.2.1, if_pos (nI_le (Nat.le_refl _) (by omega))]) (fun m x k hk => by
    rw [fn_Gr_ruleEyes_5, c.2.2.2.1, if_neg (nI_ge hk (by omega))]
    simp (disch := omega) only [ni_of, nI_clamp, ib_e, ck_t, bd_s, et_b, nI_add, if_p, ni_eq, ni_lt, ni_le, b_e0, b_e1, io_n, B.2.2.2.2 i hi, fo_c A hk ht, (gA_r A hk).2.1, te_c A hi])
  rw [this]
  refine congrArg some (congrArg (·, g) (mI_c fun q hq => ⟨fun ⟨r, r1, r2, r3⟩ => ?_, fun ⟨r, r1, k, k1, k2, k3⟩ => ?_⟩))
  · obtain ⟨t', -, ⟨k, k1, k2, k3⟩, z⟩ := (mI_b _ hq).mp r3
    exact ⟨r, ⟨r1, r2⟩, k, k1, k2, by rw [k3]; exact z⟩
  · exact ⟨r, r1.1, r1.2, (mI_b _ hq).mpr ⟨_, (gA_r A r1.1).2.2.2 k k2, ⟨k, k1, k2, rfl⟩, k3⟩⟩
theorem en_c (B : eB S g) {i : Nat} (hi : i < S 61 50) (hh : a_HH S (a_al S) a_no i) : fn_Gr_eyesNow (nI i) g = some (mI (a_es S (eg g) (cg g i) i), g) := by
  have A := B.1
  have c := gA_c A
  have hn := (gA_n A).2
  obtain ⟨e1, e2, e3, e4, e5⟩ := gA_s A hi
  obtain ⟨w1, w2, w3, w4, w5⟩ := gA_w A hi
  obtain ⟨-, -, -, l53⟩ := B.2.1.2.2 i hi
  unfold fn_Gr_eyesNow
  simp (disch := omega) only [ni_of, nI_clamp, ib_e, ck_t, bd_s, et_b, nI_add, if_p, ni_eq, ni_lt, ni_le, b_e0, b_e1, io_n, e1, e3, e4, l53, B.2.2.2.1, mI_and, eo_c A, re_c B hi (show S 84 (5 * i + 2) < 2 ^ 31 by omega), mI_1 (show S 84 (5 * i) < 31 by omega)]
  by_cases h0 : S 84 (5 * i + 3) = 0
  · rw [io_t h0]
    refine congrArg some (congrArg (·, g) (mI_c fun q _ => ⟨fun z => ⟨hh, Or.inl ⟨by omega, z⟩⟩, fun z => ?_⟩))
    rcases z.2 with z | z | z
    · exact z.2
    · omega
    · omega
  · rw [io_f h0]
    by_cases h1 : S 84 (5 * i + 3) = 1
    · rw [io_t h1]
      refine congrArg some (congrArg (·, g) (mI_c fun q _ => ⟨fun z => ⟨hh, Or.inl ⟨by omega, z⟩⟩, fun z => ?_⟩))
      rcases z.2 with z | z | z
      · exact z.2
      · omega
      · omega
    · rw [io_f h1]
      by_cases h2 : S 84 (5 * i + 3) = 2
      · rw [io_t h2]
        refine congrArg some (congrArg (·, g) (mI_c fun q _ => ⟨fun ⟨u, u1, u2, u3⟩ => ⟨hh, Or.inr (Or.inl ⟨h2, u, u2.2, u2.1.1, u2.1.2, u3⟩)⟩, fun z => ?_⟩))
        rcases z.2 with z | z | z
        · omega
        · obtain ⟨z0, u, u1, u2, u3, u4⟩ := z
          exact ⟨u, u3.1, ⟨⟨u2, u3⟩, u1⟩, u4⟩
        · omega
      · rw [io_f h2]
        by_cases h3 : S 84 (5 * i + 3) = 3
        · rw [io_t h3]
          refine congrArg some (congrArg (·, g) (mI_c fun q _ => ⟨fun z => ⟨hh, Or.inr (Or.inr ⟨h3, z⟩)⟩, fun z => ?_⟩))
          rcases z.2 with z | z | z
          · omega
          · omega
          · exact z.2
        · rw [io_f h3, mI_n0]
          refine congrArg some (congrArg (·, g) (mI_c fun q _ => ⟨fun z => z.elim, fun z => ?_⟩))
          rcases z.2 with z | z | z
          · omega
          · omega
          · omega
/-- sound, and in by one step more -/
def eJ (S : et_T) (g : et_G) : Prop := (∀ i q, i < S 61 50 → eg g i q → a_EY S i q ∧ a_es S (eg g) (cg g i) i q) ∧ ∀ i t q, i < S 61 50 → t < S 61 5 → tq g (i * 8 + t) q → a_CE S (S 84 (5 * i)) (S 84 (5 * i + 1)) t q
def eP (g : et_G) (c : Nat) : Prop := (c < 120 ∧ eg g (c / 6) (c % 6)) ∨ (120 ≤ c ∧ tq g ((c - 120) / 6) ((c - 120) % 6))
noncomputable def mE' (g : et_G) : Nat := cnt (eP g) 1080
theorem mE_le (g : et_G) : mE' g ≤ 1080 := cnt_le _ _
theorem si_same (g : et_G) (k j : Nat) : et_si g k j (g.1 k j) = g := by
  refine Prod.ext (funext fun a => funext fun b => ?_) rfl
  rw [si_g]
  by_cases h : a = k ∧ b = j
  · rw [if_pos h, h.1, h.2]
  · rw [if_neg h]
theorem a_td_CL {p h t : Nat} (h1 : a_CL S (a_tt S) p h t) : t < S 61 5 := by
  obtain ⟨r, z⟩ := h1
  cases r with
  | zero => exact z.elim
  | succ r => exact z.1
theorem es_s (B : eB S g) (J : eJ S g) {i q : Nat} (hi : i < S 61 50) (z : a_es S (eg g) (cg g i) i q) : a_EY S i q := by
  have hw := B.1.2.2.1
  refine es_cl ⟨z.1, ?_⟩
  rcases z.2 with b | b | b
  · exact Or.inl b
  · obtain ⟨b0, u, b1, b2, b3, b4⟩ := b
    exact Or.inr (Or.inl ⟨b0, u, b1, b2, b3, (J.1 u q b3.1 b4).1⟩)
  · obtain ⟨b0, r, b1, j, b2, b3, b4⟩ := b
    exact Or.inr (Or.inr ⟨b0, r, b1, j, b2, b3, J.2 i _ q hi ((gA_r B.1 b1.1).2.2.2 j b3) b4⟩)
theorem ct_s (B : eB S g) (J : eJ S g) {i t q : Nat} (hi : i < S 61 50) (z : a_ct S (eg g) (fun t q => tq g (i * 8 + t) q) (S 84 (5 * i)) (S 84 (5 * i + 1)) t q) : a_CE S (S 84 (5 * i)) (S 84 (5 * i + 1)) t q := by
  refine ct_cl ⟨z.1, ?_⟩
  rcases z.2 with b | b | b
  · exact Or.inl b
  · obtain ⟨u, b1, b2, b3, b4⟩ := b
    exact Or.inr (Or.inl ⟨u, b1, b2, b3, (J.1 u q b3.1 b4).1⟩)
  · obtain ⟨r, b1, j, b2, b3, b4⟩ := b
    exact Or.inr (Or.inr ⟨r, b1, j, b2, b3, J.2 i _ q hi ((gA_r B.1 b1.1).2.2.2 j b3) b4⟩)
theorem q32 {x : Int32} {q : Nat} (h : bt x q = true) : q < 32 := by
  rcases Nat.lt_or_ge q 32 with z | z
  · exact z
  · rw [bt_big x z] at h; cases h
theorem EY_lt (B : eB S g) {i q : Nat} (h : a_EY S i q) : q < S 61 4 := by
  obtain ⟨r, h⟩ := h
  exact (ey_lt B.1.2.2.2 r).1 i q h
theorem CE_lt (B : eB S g) {p k t q : Nat} (hp : p < S 61 4) (h : a_CE S p k t q) : q < S 61 4 := by
  obtain ⟨r, h⟩ := h
  exact (ey_lt B.1.2.2.2 r).2 p k t q hp h
/-- a thing's eyes set anew -/
theorem up_t (B : eB S g) (J : eJ S g) {i t : Nat} (hi : i < S 61 50) (ht : t < S 61 5) {N : Nat → Prop} (hN : ∀ q, N q ↔ (tq g (i * 8 + t) q ∨ a_ct S (eg g) (fun t q => tq g (i * 8 + t) q) (S 84 (5 * i)) (S 84 (5 * i + 1)) t q)) :
    eJ S (et_si g 58 (i * 8 + t) (mI N)) ∧ mE' g ≤ mE' (et_si g 58 (i * 8 + t) (mI N)) ∧ (¬ mI N = g.1 58 (i * 8 + t) → mE' g < mE' (et_si g 58 (i * 8 + t) (mI N))) := by
  have c := gA_c B.1
  have hn := (gA_n B.1).2
  have hg : eg (et_si g 58 (i * 8 + t) (mI N)) = eg g := funext fun a => by unfold eg; funext b; rw [si_x (by decide)]
  have hj : ∀ j q, tq (et_si g 58 (i * 8 + t) (mI N)) j q ↔ (j = i * 8 + t ∧ q < 32 ∧ N q) ∨ (j ≠ i * 8 + t ∧ tq g j q) := by
    intro j q
    unfold tq
    by_cases e : j = i * 8 + t
    · subst e
      rw [si_e]
      constructor
      · intro z; exact Or.inl ⟨rfl, q32 z, (mI_b N (q32 z)).mp z⟩
      · intro z
        rcases z with z | z
        · exact (mI_b N z.2.1).mpr z.2.2
        · exact absurd rfl z.1
    · rw [si_j e]
      exact ⟨fun z => Or.inr ⟨e, z⟩, fun z => z.elim (fun z => absurd z.1 e) (fun z => z.2)⟩
  have up : ∀ j q, tq g j q → tq (et_si g 58 (i * 8 + t) (mI N)) j q := by
    intro j q z
    rw [hj]
    by_cases e : j = i * 8 + t
    · subst e; exact Or.inl ⟨rfl, q32 z, (hN q).mpr (Or.inl z)⟩
    · exact Or.inr ⟨e, z⟩
  have Ns : ∀ q, N q → a_CE S (S 84 (5 * i)) (S 84 (5 * i + 1)) t q := fun q z => ((hN q).mp z).elim (J.2 i t q hi ht) (ct_s B J hi)
  have mono : ∀ x, x < 1080 → eP g x → eP (et_si g 58 (i * 8 + t) (mI N)) x := by
    intro x _ z
    rcases z with z | z
    · exact Or.inl ⟨z.1, by rw [hg]; exact z.2⟩
    · exact Or.inr ⟨z.1, up _ _ z.2⟩
  refine ⟨⟨fun a q ha z => ?_, fun a b q ha hb z => ?_⟩, cnt_mono 1080 mono, fun hne => cnt_lt 1080 mono ?_⟩
  · rw [hg] at z ⊢
    have := J.1 a q ha z
    exact ⟨this.1, a_es_m (fun _ _ z => z) (fun _ t q z => up _ _ z) this.2⟩
  · rcases (hj _ _).mp z with z | z
    · have e1 : a = i := by omega
      have e2 : b = t := by omega
      subst e1; subst e2
      exact Ns q z.2.2
    · exact J.2 a b q ha hb z.2
  · have : ∃ q, q < 32 ∧ N q ∧ ¬ tq g (i * 8 + t) q := Classical.byContradiction fun no => hne (mI_eq (x := g.1 58 (i * 8 + t)) fun q hq => ⟨fun z => (hN q).mpr (Or.inl z), fun z => Classical.byContradiction fun y => no ⟨q, hq, z, y⟩⟩).symm
    obtain ⟨q, q1, q2, q3⟩ := this
    have l := CE_lt B (gA_w B.1 hi).1 (Ns q q2)
    have e1 : (120 + 6 * (i * 8 + t) + q - 120) / 6 = i * 8 + t := by omega
    have e2 : (120 + 6 * (i * 8 + t) + q - 120) % 6 = q := by omega
    refine ⟨120 + 6 * (i * 8 + t) + q, by omega, Or.inr ⟨by omega, ?_⟩, fun z => ?_⟩
    · rw [e1, e2, hj]; exact Or.inl ⟨rfl, q1, q2⟩
    · rcases z with z | z
      · omega
      · rw [e1, e2] at z; exact q3 z.2
/-- a saying's eyes set anew -/
theorem up_e (B : eB S g) (J : eJ S g) {i : Nat} (hi : i < S 61 50) :
    eJ S (et_si g 57 i (mI (a_es S (eg g) (cg g i) i))) ∧ mE' g ≤ mE' (et_si g 57 i (mI (a_es S (eg g) (cg g i) i))) ∧ (¬ mI (a_es S (eg g) (cg g i) i) = g.1 57 i → mE' g < mE' (et_si g 57 i (mI (a_es S (eg g) (cg g i) i)))) := by
  have c := gA_c B.1
  have hn := (gA_n B.1).2
  generalize hN : a_es S (eg g) (cg g i) i = N
  have ht : tq (et_si g 57 i (mI N)) = tq g := funext fun a => by unfold tq; funext b; rw [si_x (by decide)]
  have hj : ∀ j q, eg (et_si g 57 i (mI N)) j q ↔ (j = i ∧ q < 32 ∧ N q) ∨ (j ≠ i ∧ eg g j q) := by
    intro j q
    unfold eg
    by_cases e : j = i
    · subst e
      rw [si_e]
      constructor
      · intro z; exact Or.inl ⟨rfl, q32 z, (mI_b N (q32 z)).mp z⟩
      · intro z
        rcases z with z | z
        · exact (mI_b N z.2.1).mpr z.2.2
        · exact absurd rfl z.1
    · rw [si_j e]
      exact ⟨fun z => Or.inr ⟨e, z⟩, fun z => z.elim (fun z => absurd z.1 e) (fun z => z.2)⟩
  have up : ∀ j q, eg g j q → eg (et_si g 57 i (mI N)) j q := by
    intro j q z
    rw [hj]
    by_cases e : j = i
    · subst e; exact Or.inl ⟨rfl, q32 z, by rw [← hN]; exact (J.1 j q hi z).2⟩
    · exact Or.inr ⟨e, z⟩
  have cgs : ∀ j, cg (et_si g 57 i (mI N)) j = cg g j := fun j => by unfold cg; rw [ht]
  have Ns : ∀ q, N q → a_EY S i q := fun q z => es_s B J hi (by rw [hN]; exact z)
  have mono : ∀ x, x < 1080 → eP g x → eP (et_si g 57 i (mI N)) x := by
    intro x _ z
    rcases z with z | z
    · exact Or.inl ⟨z.1, up _ _ z.2⟩
    · exact Or.inr ⟨z.1, by rw [ht]; exact z.2⟩
  refine ⟨⟨fun a q ha z => ?_, fun a b q ha hb z => ?_⟩, cnt_mono 1080 mono, fun hne => cnt_lt 1080 mono ?_⟩
  · rw [cgs]
    rcases (hj _ _).mp z with z | z
    · obtain ⟨rfl, -, z⟩ := z
      exact ⟨Ns q z, a_es_m up (fun _ _ _ z => z) (by rw [hN]; exact z)⟩
    · have := J.1 a q ha z.2
      exact ⟨this.1, a_es_m up (fun _ _ _ z => z) this.2⟩
  · rw [ht] at z; exact J.2 a b q ha hb z
  · have : ∃ q, q < 32 ∧ N q ∧ ¬ eg g i q := Classical.byContradiction fun no => hne (mI_eq (x := g.1 57 i) fun q hq => ⟨fun z => by rw [← hN]; exact (J.1 i q hi z).2, fun z => Classical.byContradiction fun y => no ⟨q, hq, z, y⟩⟩).symm
    obtain ⟨q, q1, q2, q3⟩ := this
    have l := EY_lt B (Ns q q2)
    have e1 : (6 * i + q) / 6 = i := by omega
    have e2 : (6 * i + q) % 6 = q := by omega
    refine ⟨6 * i + q, by omega, Or.inl ⟨by omega, ?_⟩, fun z => ?_⟩
    · rw [e1, e2, hj]; exact Or.inl ⟨rfl, q1, q2⟩
    · rcases z with z | z
      · rw [e1, e2] at z; exact q3 z.2
      · omega
def sq (M : Nat) (C : et_G → Prop) (x : Int32) (g : et_G) : Prop := (x = nI 1 ∧ M < mE' g) ∨ (x = nI 0 ∧ M ≤ mE' g ∧ C g)
def c_e (S : et_T) (g : et_G) (i : Nat) : Prop := ∀ q, q < 32 → a_es S (eg g) (cg g i) i q → eg g i q
def c_t (S : et_T) (g : et_G) (i t : Nat) : Prop := ∀ q, q < 32 → a_ct S (eg g) (fun t q => tq g (i * 8 + t) q) (S 84 (5 * i)) (S 84 (5 * i + 1)) t q → tq g (i * 8 + t) q
end EC
