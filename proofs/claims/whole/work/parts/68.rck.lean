/-! whom the model asks of; the rounds reckoned -/
def w_pr (k j : Nat) : Bool := k == 88 || k == 89 || (k == 61 && j == 59)
def w_as (k j : Nat) : Bool := k == 88 || k == 89 || k == 90 || (k == 61 && j == 59)
def w_rk (k j : Nat) : Bool := k == 86 || k == 87 || k == 91 || (k == 61 && (j == 60 || j == 61 || j == 62))
theorem w_pr_a {g g' : et_G} (h : fq w_pr g g') : fq w_as g g' := fq_w h (fun k j h => by simp [w_as, w_pr] at h ⊢; omega)
theorem mq_c {k j : Nat} (h : mq k j = true) : (62 ≤ k ∧ k ≤ 72) ∨ k = 83 ∨ k = 84 ∨ k = 94 ∨ k = 95 ∨ (k = 61 ∧ (1 ≤ j ∧ j ≤ 6 ∨ j = 17 ∨ j = 49 ∨ j = 50 ∨ 67 ≤ j ∧ j ≤ 72 ∨ j = 19 ∨ j = 65)) := by
  unfold mq mp at h
  simp only [Bool.or_eq_true, Bool.and_eq_true, beq_iff_eq, Nat.ble_eq] at h
  omega
theorem w_as_m : ∀ k j, mq k j = true → w_as k j = false := by
  intro k j h
  have := mq_c h
  simp [w_as]
  omega
theorem w_rk_m : ∀ k j, mq k j = true → w_rk k j = false := by
  intro k j h
  have := mq_c h
  simp [w_rk]
  omega
def mP (S : et_T) (np : Nat) (g : et_G) : Prop := g.1 61 59 = nI np ∧ ∀ k, k < np → ∃ p h, g.1 88 k = nI p ∧ g.1 89 k = nI h ∧ p < S 61 4 ∧ h < 24
def mA (S : et_T) (np : Nat) (P H O : Nat → Nat) (g : et_G) : Prop := g.1 61 59 = nI np ∧ np ≤ 21 ∧ (∀ k, k < np → g.1 88 k = nI (P k) ∧ g.1 89 k = nI (H k) ∧ P k < S 61 4 ∧ H k < 24) ∧
  ∀ s, s < S 61 50 → g.1 90 s = nI (O s) ∧ O s < np ∧ P (O s) = S 84 (5 * s) ∧ H (O s) = S 84 (5 * s + 1)
section PA
variable {S : et_T}
theorem pa_m {g : et_G} {np p h : Nat} (hP6 : S 61 4 ≤ 6) (M : mP S np g) (hnp : np ≤ 20) (hp : p < S 61 4) (hh : h < 24) : ∃ k np' g', fn_Mo_pairAt (nI p) (nI h) g = some (nI k, g') ∧ k < np' ∧ np ≤ np' ∧ np' ≤ np + 1 ∧ mP S np' g' ∧ g'.1 88 k = nI p ∧ g'.1 89 k = nI h ∧ fq w_pr g g' ∧ (∀ j, j < np → g'.1 88 j = g.1 88 j ∧ g'.1 89 j = g.1 89 j) := by
  obtain ⟨M1, M2⟩ := M
  unfold fn_Mo_pairAt
  refine lp0 (fun m i (_ : Unit) => fn_Mo_pairAt_2 (nI p) (nI h) m i g) (fun o => ∃ k np' g', o = some (nI k, g') ∧ k < np' ∧ np ≤ np' ∧ np' ≤ np + 1 ∧ mP S np' g' ∧ g'.1 88 k = nI p ∧ g'.1 89 k = nI h ∧ fq w_pr g g' ∧ (∀ j, j < np → g'.1 88 j = g.1 88 j ∧ g'.1 89 j = g.1 89 j)) np (by omega) (fun _ _ => True) () trivial ?_ ?_
  · intro m _ _
    have e : fn_Mo_pairAt_2 (nI p) (nI h) (m + 1) (nI np) g = some (nI np, et_si (et_si (et_si g 88 np (nI p)) 89 np (nI h)) 61 59 (nI (np + 1))) := by
      rw [fn_Mo_pairAt_2, M1, if_pos (nI_le (Nat.le_refl _) (by omega))]
      unfold fn_Mo_pairAt_38
      simp (disch := omega) only [ni_of, nI_clamp, ib_e, ck_t, bd_s, et_b, nI_add, if_p, ni_eq, ni_lt, ni_le, b_e0, b_e1, io_n, si_x, si_e, si_j, M1]
      rw [pk_sub (by omega)]; rfl
    refine ⟨np, np + 1, _, e, by omega, by omega, Nat.le_refl _, ⟨si_e, fun k hk => ?_⟩, ?_, ?_, fq_s (fq_s (fq_s (fq_r _ _) rfl) rfl) rfl, fun j hj => ⟨?_, ?_⟩⟩
    · by_cases z : k = np
      · subst z
        exact ⟨p, h, by rw [si_x (by decide), si_x (by decide), si_e], by rw [si_x (by decide), si_e], hp, hh⟩
      · obtain ⟨p', h', a, b, c⟩ := M2 k (by omega)
        exact ⟨p', h', by rw [si_x (by decide), si_x (by decide), si_j z]; exact a, by rw [si_x (by decide), si_j z, si_x (by decide)]; exact b, c⟩
    · rw [si_x (by decide), si_x (by decide), si_e]
    · rw [si_x (by decide), si_e]
    · rw [si_x (by decide), si_x (by decide), si_j (by omega)]
    · rw [si_x (by decide), si_j (by omega), si_x (by decide)]
  · intro m k _ hk _ ih
    obtain ⟨p', h', a, b, c, d⟩ := M2 k hk
    have e : fn_Mo_pairAt_2 (nI p) (nI h) (m + 1) (nI k) g = io (p' = p) (io (h' = h) (some (nI k, g)) (fn_Mo_pairAt_2 (nI p) (nI h) m (nI (k + 1)) g)) (fn_Mo_pairAt_2 (nI p) (nI h) m (nI (k + 1)) g) := by
      rw [fn_Mo_pairAt_2, M1, if_neg (nI_ge hk (by omega))]
      simp (disch := omega) only [ni_of, nI_clamp, ib_e, ck_t, bd_s, et_b, nI_add, if_p, ni_eq, ni_lt, ni_le, b_e0, b_e1, io_n, a, b]
    show ∃ k' np' g', fn_Mo_pairAt_2 (nI p) (nI h) (m + 1) (nI k) g = some (nI k', g') ∧ _
    rw [e]
    by_cases h1 : p' = p
    · rw [io_t h1]
      by_cases h2 : h' = h
      · rw [io_t h2]
        exact ⟨k, np, g, rfl, hk, Nat.le_refl _, by omega, ⟨M1, M2⟩, by rw [a, h1], by rw [b, h2], fq_r _ _, fun j _ => ⟨rfl, rfl⟩⟩
      · rw [io_f h2]; exact ih () trivial
    · rw [io_f h1]; exact ih () trivial
theorem pa_y {g : et_G} {np p h : Nat} {P H O : Nat → Nat} (hP6 : S 61 4 ≤ 6) (M : mA S np P H O g) (hp : p < S 61 4) (hh : h < 24) (hy : ∃ k, k < np ∧ P k = p ∧ H k = h) : ∃ k, fn_Mo_pairAt (nI p) (nI h) g = some (nI k, g) ∧ k < np ∧ P k = p ∧ H k = h := by
  obtain ⟨M1, M0, M2, -⟩ := M
  unfold fn_Mo_pairAt
  refine lp0 (fun m i (_ : Unit) => fn_Mo_pairAt_2 (nI p) (nI h) m i g) (fun o => ∃ k, o = some (nI k, g) ∧ k < np ∧ P k = p ∧ H k = h) np (by omega) (fun k _ => ∀ j, j < k → ¬ (P j = p ∧ H j = h)) () (fun j hj => by omega) ?_ ?_
  · intro m _ q
    obtain ⟨k, hk, z⟩ := hy
    exact absurd z (q k hk)
  · intro m k _ hk q ih
    obtain ⟨a, b, c, d⟩ := M2 k hk
    have e : fn_Mo_pairAt_2 (nI p) (nI h) (m + 1) (nI k) g = io (P k = p) (io (H k = h) (some (nI k, g)) (fn_Mo_pairAt_2 (nI p) (nI h) m (nI (k + 1)) g)) (fn_Mo_pairAt_2 (nI p) (nI h) m (nI (k + 1)) g) := by
      rw [fn_Mo_pairAt_2, M1, if_neg (nI_ge hk (by omega))]
      simp (disch := omega) only [ni_of, nI_clamp, ib_e, ck_t, bd_s, et_b, nI_add, if_p, ni_eq, ni_lt, ni_le, b_e0, b_e1, io_n, a, b]
    show ∃ k', fn_Mo_pairAt_2 (nI p) (nI h) (m + 1) (nI k) g = some (nI k', g) ∧ _
    rw [e]
    have q1 : ¬ (P k = p ∧ H k = h) → ∀ j, j < k + 1 → ¬ (P j = p ∧ H j = h) := fun z j hj => by
      by_cases e : j = k
      · subst e; exact z
      · exact q j (by omega)
    by_cases h1 : P k = p
    · rw [io_t h1]
      by_cases h2 : H k = h
      · rw [io_t h2]; exact ⟨k, rfl, hk, h1, h2⟩
      · rw [io_f h2]; exact ih () (q1 (fun z => h2 z.2))
    · rw [io_f h1]; exact ih () (q1 (fun z => h1 z.1))
/-- pairs of the first n sayings -/
def mP2 (S : et_T) (n np : Nat) (g : et_G) : Prop := mP S np g ∧ ∀ s, s < n → ∃ k, k < np ∧ g.1 90 s = nI k ∧ g.1 88 k = nI (S 84 (5 * s)) ∧ g.1 89 k = nI (S 84 (5 * s + 1))
theorem mA_of {g : et_G} {np : Nat} (B : mB S g) (hnp : np ≤ 21) (M : mP2 S (S 61 50) np g) : mA S np (fun k => (g.1 88 k).toNatClampNeg) (fun k => (g.1 89 k).toNatClampNeg) (fun s => (g.1 90 s).toNatClampNeg) g := by
  have c := mB_c B
  obtain ⟨⟨M1, M2⟩, M3⟩ := M
  refine ⟨M1, hnp, fun k hk => ?_, fun s hs => ?_⟩
  · obtain ⟨p, h, a, b, d, e⟩ := M2 k hk
    simp only [a, b]
    rw [nI_clamp (by omega), nI_clamp (by omega)]
    exact ⟨rfl, rfl, d, e⟩
  · obtain ⟨k, hk, a, b, d⟩ := M3 s hs
    have w := mB_s B hs
    simp only [a]
    rw [nI_clamp (by omega)]
    simp only [b, d]
    rw [nI_clamp (by omega), nI_clamp (by omega)]
    exact ⟨trivial, hk, rfl, rfl⟩
theorem as_7 {g : et_G} (B : mB S g) (x y : Int32) (Q : Option (Unit × et_G) → Prop) (kk : ∀ g' np, np ≤ 20 → mP2 S (S 61 50) np g' → fq w_as g g' → Q (fn_Mo_asks_43 x y g')) : Q (fn_Mo_asks x y g) := by
  have c := mB_c B
  unfold fn_Mo_asks
  simp only [et_b]
  refine lp0 (fun m i (s : et_G) => fn_Mo_asks_7 x y m i s) Q (S 61 50) (by omega) (fun k s => fq w_as g s ∧ ∃ np, np ≤ k ∧ mP2 S k np s) (et_si g 61 59 0) ⟨fq_s (fq_r _ _) rfl, 0, Nat.le_refl _, ⟨si_e, fun k hk => by omega⟩, fun s hs => by omega⟩ ?_ ?_
  · intro m s ⟨f, np, h1, h2⟩
    show Q (fn_Mo_asks_7 x y (m + 1) (nI (S 61 50)) s)
    rw [fn_Mo_asks_7, show s.1 61 50 = nI (S 61 50) from by rw [f.1 61 50 rfl]; exact c.1, if_pos (nI_le (Nat.le_refl _) (by omega))]
    exact kk s np (by omega) h2 f
  · intro m k s hk ⟨f, np, h1, h2, h3⟩ ih
    show Q (fn_Mo_asks_7 x y (m + 1) (nI k) s)
    have B' : mB S s := ⟨rc_M_q f w_as_m B.1, B.2⟩
    obtain ⟨w1, w2, -, -, -⟩ := mB_s B hk
    obtain ⟨q, np', g', a1, a2, a3, a4, a5, a6, a7, a8, a9⟩ := pa_m (by omega) h2 (show np ≤ 20 by omega) w1 w2
    rw [fn_Mo_asks_7, (mB_c B').1, if_neg (nI_ge hk (by omega))]
    simp (disch := omega) only [ni_of, nI_clamp, ib_e, ck_t, bd_s, et_b, nI_add, if_p, ni_eq, ni_lt, ni_le, b_e0, b_e1, io_n, Nat.add_zero, of_m B', a1]
    refine ih _ ⟨fq_s (fq_t f (w_pr_a a8)) rfl, np', by omega, ⟨?_, fun j hj => ?_⟩, fun t ht => ?_⟩
    · rw [si_x (by decide)]; exact a5.1
    · rw [si_x (by decide), si_x (by decide)]; exact a5.2 j hj
    · by_cases e : t = k
      · subst e
        exact ⟨q, a2, si_e, by rw [si_x (by decide)]; exact a6, by rw [si_x (by decide)]; exact a7⟩
      · obtain ⟨j, j1, j2, j3, j4⟩ := h3 t (by omega)
        refine ⟨j, by omega, ?_, ?_, ?_⟩
        · rw [si_j e, a8.1 90 t rfl]; exact j2
        · rw [si_x (by decide), (a9 j j1).1]; exact j3
        · rw [si_x (by decide), (a9 j j1).2]; exact j4
theorem as_0 {g : et_G} (B : mB S g) (y : Int32) : ev_Q (fn_Mo_asks (-1) y g) (fun _ g' => fq w_as g g' ∧ mB S g' ∧ ∃ np P H O, mA S np P H O g') := by
  refine as_7 B _ _ (fun o => ev_Q o _) (fun g' np h1 h2 f => ?_)
  unfold fn_Mo_asks_43
  rw [if_pos rfl]
  have B' : mB S g' := ⟨rc_M_q f w_as_m B.1, B.2⟩
  exact ev_r ⟨f, B', np, _, _, _, mA_of B' (by omega) h2⟩
theorem as_1 {g : et_G} (B : mB S g) {p h : Nat} (hp : p < S 61 4) (hh : h < 24) : ev_Q (fn_Mo_asks (nI p) (nI h) g) (fun _ g' => fq w_as g g' ∧ mB S g' ∧ ∃ np P H O, mA S np P H O g' ∧ ∃ k, k < np ∧ P k = p ∧ H k = h) := by
  have c := mB_c B
  refine as_7 B _ _ (fun o => ev_Q o _) (fun g' np h1 h2 f => ?_)
  unfold fn_Mo_asks_43
  rw [if_neg (fun e => nI_pos (show p < 2 ^ 31 by omega) (by rw [e]; decide))]
  obtain ⟨q, np', g2, a1, a2, a3, a4, a5, a6, a7, a8, a9⟩ := pa_m (by omega) h2.1 h1 hp hh
  rw [a1, bd_s]
  have f2 := fq_t f (w_pr_a a8)
  have B' : mB S g2 := ⟨rc_M_q f2 w_as_m B.1, B.2⟩
  have M : mP2 S (S 61 50) np' g2 := ⟨a5, fun t ht => by
    obtain ⟨j, j1, j2, j3, j4⟩ := h2.2 t ht
    exact ⟨j, by omega, by rw [a8.1 90 t rfl]; exact j2, by rw [(a9 j j1).1]; exact j3, by rw [(a9 j j1).2]; exact j4⟩⟩
  refine ev_r ⟨f2, B', np', _, _, _, mA_of B' (by omega) M, q, a2, ?_, ?_⟩
  · show (g2.1 88 q).toNatClampNeg = p
    rw [a6, nI_clamp (by omega)]
  · show (g2.1 89 q).toNatClampNeg = h
    rw [a7, nI_clamp (by omega)]
theorem mA_q {g g' : et_G} {np : Nat} {P H O : Nat → Nat} (f : fq w_rk g g') (M : mA S np P H O g) : mA S np P H O g' := by
  obtain ⟨M1, M0, M2, M3⟩ := M
  refine ⟨by rw [f.1 61 59 rfl]; exact M1, M0, fun k hk => ?_, fun s hs => ?_⟩
  · rw [f.1 88 k rfl, f.1 89 k rfl]; exact M2 k hk
  · rw [f.1 90 s rfl]; exact M3 s hs
end PA
/-! sums -/
def sm (f : Nat → Nat) : Nat → Nat
  | 0 => 0
  | n + 1 => sm f n + f n
theorem sm_le {f h : Nat → Nat} : ∀ n, (∀ i, i < n → f i ≤ h i) → sm f n ≤ sm h n := by
  intro n
  induction n with
  | zero => intro _; exact Nat.le_refl _
  | succ n ih =>
    intro q
    have := ih (fun i hi => q i (by omega))
    have := q n (by omega)
    unfold sm
    omega
theorem sm_lt {f h : Nat → Nat} : ∀ n, (∀ i, i < n → f i ≤ h i) → (∃ i, i < n ∧ f i < h i) → sm f n < sm h n := by
  intro n
  induction n with
  | zero => intro _ ⟨i, hi, _⟩; omega
  | succ n ih =>
    intro q ⟨i, hi, hl⟩
    have a := q n (by omega)
    unfold sm
    by_cases e : i = n
    · subst e
      have := sm_le (f := f) (h := h) i (fun j hj => q j (by omega))
      omega
    · have := ih (fun j hj => q j (by omega)) ⟨i, by omega, hl⟩
      omega
theorem sm_kk {f : Nat → Nat} {c : Nat} : ∀ n, (∀ i, i < n → f i ≤ c) → sm f n ≤ c * n := by
  intro n
  induction n with
  | zero => intro _; exact Nat.le_refl _
  | succ n ih =>
    intro q
    have := ih (fun i hi => q i (by omega))
    have := q n (by omega)
    unfold sm
    rw [Nat.mul_succ]
    omega
def rg (g : et_G) (s : Nat) : Nat := (g.1 86 s).toNatClampNeg
def kg (g : et_G) (j : Nat) : Nat := (g.1 91 j).toNatClampNeg
def mz (S : et_T) (np : Nat) (g : et_G) : Nat := sm (rg g) (S 61 50) + sm (kg g) (8 * np)
/-- all that stands while the rounds are reckoned -/
def mJ (S : et_T) (X Y : Nat → Prop) (np : Nat) (P H : Nat → Nat) (g0 g : et_G) : Prop :=
  fq w_rk g0 g ∧ g.1 61 60 = mI X ∧ g.1 61 61 = mI Y ∧ (∀ s, s < S 61 50 → g.1 86 s = nI (rg g s) ∧ rg g s ≤ 1000 ∧ (rg g s < 1000 → a_H S X Y (rg g s) s)) ∧
  ∀ j, j < 8 * np → g.1 91 j = nI (kg g j) ∧ kg g j ≤ 1000 ∧ (kg g j < 1000 → j % 8 < S 61 5 → a_C S X Y (kg g j) (P (j / 8)) (H (j / 8)) (j % 8))
section RK
variable {S : et_T} {X Y : Nat → Prop} {np : Nat} {P H O : Nat → Nat} {g0 : et_G}
theorem mJ_E (B : mB S g0) (A : mA S np P H O g0) {g : et_G} (J : mJ S X Y np P H g0 g) : mE S X Y (rg g) (kg g) np g ∧ mA S np P H O g := by
  obtain ⟨f, hX, hY, hR, hK⟩ := J
  exact ⟨⟨⟨rc_M_q f w_rk_m B.1, B.2⟩, hX, hY, fun s hs => ⟨(hR s hs).1, (hR s hs).2.1⟩, A.2.1, fun j hj => ⟨(hK j hj).1, (hK j hj).2.1⟩⟩, mA_q f A⟩
theorem rg_62 (g : et_G) (x : Int32) : rg (et_si g 61 62 x) = rg g := funext fun s => by unfold rg; rw [si_x (by decide)]
theorem kg_62 (g : et_G) (x : Int32) : kg (et_si g 61 62 x) = kg g := funext fun s => by unfold kg; rw [si_x (by decide)]
theorem mJ_62 {g : et_G} (x : Int32) (J : mJ S X Y np P H g0 g) : mJ S X Y np P H g0 (et_si g 61 62 x) := by
  obtain ⟨f, hX, hY, hR, hK⟩ := J
  refine ⟨fq_s f rfl, by rw [si_j (by decide)]; exact hX, by rw [si_j (by decide)]; exact hY, fun s hs => ?_, fun j hj => ?_⟩
  · rw [rg_62, si_x (by decide)]; exact hR s hs
  · rw [kg_62, si_x (by decide)]; exact hK j hj
theorem mz_62 (g : et_G) (x : Int32) : mz S np (et_si g 61 62 x) = mz S np g := by unfold mz; rw [rg_62, kg_62]
/-- from above: what is reckoned is so -/
theorem mT_a {g : et_G} (J : mJ S X Y np P H g0 g) {r : Nat} (hr : r < 1000) : ∀ s, m_T S X Y (rg g) r s → a_T S X Y r s := fun s ⟨h1, h2, h3, h4⟩ => ⟨a_Hm h3 ((J.2.2.2.1 s h1).2.2 (by omega)), h4⟩
theorem mC_a {g : et_G} (J : mJ S X Y np P H g0 g) (h8 : S 61 5 ≤ 8) {k r : Nat} (hk : k < np) (hr : r < 1000) : ∀ u, m_C S (kg g) k r u → a_C S X Y r (P k) (H k) u := fun u ⟨h1, h2⟩ => by
  have := (J.2.2.2.2 (8 * k + u) (by omega)).2.2 (by omega) (by omega)
  rw [show (8 * k + u) / 8 = k from by omega, show (8 * k + u) % 8 = u from by omega] at this
  exact a_Cm h2 this
theorem rg_86 {g : et_G} {s v : Nat} (hv : v < 2 ^ 31) (q : Nat) : rg (et_si g 86 s (nI v)) q = if q = s then v else rg g q := by
  unfold rg
  by_cases e : q = s
  · rw [e, si_e, if_pos rfl, nI_clamp hv]
  · rw [si_j e, if_neg e]
theorem kg_86 {g : et_G} {s : Nat} {x : Int32} : kg (et_si g 86 s x) = kg g := funext fun j => by unfold kg; rw [si_x (by decide)]
theorem rg_91 {g : et_G} {s : Nat} {x : Int32} : rg (et_si g 91 s x) = rg g := funext fun j => by unfold rg; rw [si_x (by decide)]
theorem kg_91 {g : et_G} {s v : Nat} (hv : v < 2 ^ 31) (q : Nat) : kg (et_si g 91 s (nI v)) q = if q = s then v else kg g q := by
  unfold kg
  by_cases e : q = s
  · rw [e, si_e, if_pos rfl, nI_clamp hv]
  · rw [si_j e, if_neg e]
theorem mJ_91 {g : et_G} (J : mJ S X Y np P H g0 g) {k t v : Nat} (ht : t < 8) (hv : v < kg g (8 * k + t)) (hk : k < np) (ha : v < 1000 → a_C S X Y v (P k) (H k) t) : mJ S X Y np P H g0 (et_si g 91 (8 * k + t) (nI v)) ∧ mz S np (et_si g 91 (8 * k + t) (nI v)) < mz S np g := by
  obtain ⟨f, hX, hY, hR, hK⟩ := J
  have h0 := (hK (8 * k + t) (by omega)).2.1
  have e1 : (8 * k + t) / 8 = k := by omega
  have e2 : (8 * k + t) % 8 = t := by omega
  refine ⟨⟨fq_s f rfl, by rw [si_x (by decide)]; exact hX, by rw [si_x (by decide)]; exact hY, fun s hs => ?_, fun j hj => ?_⟩, ?_⟩
  · rw [rg_91, si_x (by decide)]; exact hR s hs
  · rw [kg_91 (by omega)]
    by_cases e : j = 8 * k + t
    · rw [if_pos e, e, si_e, e1, e2]; exact ⟨rfl, by omega, fun z _ => ha z⟩
    · rw [if_neg e, si_j e]; exact hK j hj
  · unfold mz
    rw [rg_91]
    have := sm_lt (f := kg (et_si g 91 (8 * k + t) (nI v))) (h := kg g) (8 * np) (fun i hi => by
      rw [kg_91 (by omega)]
      by_cases e : i = 8 * k + t
      · rw [if_pos e, e]; omega
      · rw [if_neg e]; exact Nat.le_refl _) ⟨8 * k + t, by omega, by rw [kg_91 (by omega), if_pos rfl]; exact hv⟩
    omega
theorem mJ_86 {g : et_G} (J : mJ S X Y np P H g0 g) {s v : Nat} (hs : s < S 61 50) (hv : v < rg g s) (ha : v < 1000 → a_H S X Y v s) : mJ S X Y np P H g0 (et_si g 86 s (nI v)) ∧ mz S np (et_si g 86 s (nI v)) < mz S np g := by
  obtain ⟨f, hX, hY, hR, hK⟩ := J
  have h0 := (hR s hs).2.1
  refine ⟨⟨fq_s f rfl, by rw [si_x (by decide)]; exact hX, by rw [si_x (by decide)]; exact hY, fun q hq => ?_, fun j hj => ?_⟩, ?_⟩
  · rw [rg_86 (by omega)]
    by_cases e : q = s
    · rw [if_pos e, e, si_e]; exact ⟨rfl, by omega, ha⟩
    · rw [if_neg e, si_j e]; exact hR q hq
  · rw [kg_86, si_x (by decide)]; exact hK j hj
  · unfold mz
    rw [kg_86]
    have := sm_lt (f := rg (et_si g 86 s (nI v))) (h := rg g) (S 61 50) (fun i hi => by
      rw [rg_86 (by omega)]
      by_cases e : i = s
      · rw [if_pos e, e]; omega
      · rw [if_neg e]; exact Nat.le_refl _) ⟨s, hs, by rw [rg_86 (by omega), if_pos rfl]; exact hv⟩
    omega
/-- nothing is left to do at a thing; at a saying -/
def cC (S : et_T) (X Y : Nat → Prop) (P H : Nat → Nat) (g : et_G) (k t : Nat) : Prop := ∀ r w, w < 4 → a_sh S (m_T S X Y (rg g) r) (m_C S (kg g) k r) (P k) (H k) t 0 w → kg g (8 * k + t) ≤ r + 1
def cS (S : et_T) (X Y : Nat → Prop) (O : Nat → Nat) (g : et_G) (s : Nat) : Prop := X s → ∀ r, (Y s → ∀ w, w < 4 → a_sh S (m_T S X Y (rg g) r) (m_C S (kg g) (O s) r) (S 84 (5 * s)) (S 84 (5 * s + 1)) (S 84 (5 * s + 2)) (S 84 (5 * s + 4)) w → rg g s ≤ r + 1) ∧
  (¬ Y s → a_sh S (m_T S X Y (rg g) r) (m_C S (kg g) (O s) r) (S 84 (5 * s)) (S 84 (5 * s + 1)) (S 84 (5 * s + 2)) (S 84 (5 * s + 4)) (S 84 (5 * s + 3)) → rg g s ≤ r + 1)
theorem cC_62 {g : et_G} (x : Int32) {k t : Nat} (h : cC S X Y P H g k t) : cC S X Y P H (et_si g 61 62 x) k t := by
  unfold cC; rw [rg_62, kg_62]; exact h
theorem cS_62 {g : et_G} (x : Int32) {s : Nat} (h : cS S X Y O g s) : cS S X Y O (et_si g 61 62 x) s := by
  unfold cS; rw [rg_62, kg_62]; exact h
def sw (S : et_T) (np M : Nat) (C : et_G → Prop) (x : Int32) (g : et_G) : Prop := (x = nI 1 ∧ mz S np g < M) ∨ (x = nI 0 ∧ mz S np g ≤ M ∧ C g)
theorem lf_62 {g f : et_G} {C : et_G → Prop} (h : f = g ∨ ∃ x, f = et_si g 61 62 x) (h1 : C g) (h2 : ∀ x, C (et_si g 61 62 x)) : C f := by
  rcases h with h | ⟨x, h⟩
  · rw [h]; exact h1
  · rw [h]; exact h2 x
theorem rk_86 (B : mB S g0) (A : mA S np P H O g0) {k M : Nat} (hk : k < np) (r65 : Int32 → et_G → Option (Unit × et_G)) (r74 : Int32 → Int32 → et_G → Option (Unit × et_G)) (Q : Option (Unit × et_G) → Prop)
    (kk : ∀ x g, mJ S X Y np P H g0 g → sw S np M (fun g => ∀ j u, j < k + 1 → u < S 61 5 → cC S X Y P H g j u) x g → Q (r74 x (nI (k + 1)) g))
    (x : Int32) (g : et_G) (J : mJ S X Y np P H g0 g) (W : sw S np M (fun g => ∀ j u, j < k → u < S 61 5 → cC S X Y P H g j u) x g) : Q (fn_Mo_reckons_86 r65 r74 (mI X) (mI Y) (nI k) 1000000 x 0 g) := by
  have c := mB_c B
  refine lp0 (fun m i (q : Int32 × et_G) => fn_Mo_reckons_86 r65 r74 (mI X) (mI Y) (nI k) m q.1 i q.2) Q (S 61 5) (by omega) (fun t q => mJ S X Y np P H g0 q.2 ∧ sw S np M (fun g => (∀ j u, j < k → u < S 61 5 → cC S X Y P H g j u) ∧ ∀ u, u < t → cC S X Y P H g k u) q.1 q.2) (x, g) ⟨J, ?_⟩ ?_ ?_
  · rcases W with W | W
    · exact Or.inl W
    · exact Or.inr ⟨W.1, W.2.1, W.2.2, fun u hu => by omega⟩
  · intro m q ⟨J, W⟩
    show Q (fn_Mo_reckons_86 r65 r74 (mI X) (mI Y) (nI k) (m + 1) q.1 (nI (S 61 5)) q.2)
    rw [fn_Mo_reckons_86, show q.2.1 61 5 = nI (S 61 5) from by rw [J.1.1 61 5 rfl]; exact c.2.2.1, if_pos (nI_le (Nat.le_refl _) (by omega))]
    simp only [ni_of, et_b, nI_add]
    refine kk q.1 q.2 J ?_
    rcases W with W | W
    · exact Or.inl W
    · refine Or.inr ⟨W.1, W.2.1, fun j u hj hu => ?_⟩
      by_cases e : j = k
      · subst e; exact W.2.2.2 u hu
      · exact W.2.2.1 j u (by omega) hu
  · intro m t q ht ⟨J, W⟩ ih
    show Q (fn_Mo_reckons_86 r65 r74 (mI X) (mI Y) (nI k) (m + 1) q.1 (nI t) q.2)
    obtain ⟨E, A'⟩ := mJ_E B A J
    obtain ⟨p1, p2, p3, p4⟩ := A'.2.2.1 k hk
    have hnp := A'.2.1
    obtain ⟨v, f, f1, f2, v1, v2, v3, v4⟩ := le_m E hk p1 p2 p3 p4 ht (show 0 ≤ 1 by omega)
    have Jf : mJ S X Y np P H g0 f := lf_62 f1 J (fun x => mJ_62 x J)
    have hz : mz S np f = mz S np q.2 := lf_62 (C := fun f => mz S np f = mz S np q.2) f1 rfl (fun x => mz_62 _ x)
    have hkf : kg f = kg q.2 := lf_62 (C := fun f => kg f = kg q.2) f1 rfl (fun x => kg_62 _ x)
    obtain ⟨b1, b2, -⟩ := Jf.2.2.2.2 (8 * k + t) (by omega)
    have e : fn_Mo_reckons_86 r65 r74 (mI X) (mI Y) (nI k) (m + 1) q.1 (nI t) q.2 = io (v < kg f (8 * k + t)) (fn_Mo_reckons_86 r65 r74 (mI X) (mI Y) (nI k) m (nI 1) (nI (t + 1)) (et_si f 91 (8 * k + t) (nI v))) (fn_Mo_reckons_86 r65 r74 (mI X) (mI Y) (nI k) m q.1 (nI (t + 1)) f) := by
      rw [fn_Mo_reckons_86, show q.2.1 61 5 = nI (S 61 5) from by rw [J.1.1 61 5 rfl]; exact c.2.2.1, if_neg (nI_ge ht (by omega))]
      simp (disch := omega) only [ni_of, nI_clamp, ib_e, ck_t, bd_s, et_b, nI_add, if_p, ni_eq, ni_lt, ni_le, b_e0, b_e1, io_n, f2, pk_mul, b1]
    rw [e]
    by_cases h1 : v < kg f (8 * k + t)
    · rw [io_t h1]
      obtain ⟨J2, z2⟩ := mJ_91 Jf (by omega) h1 hk (fun hv => by
        obtain ⟨w0, w, w1, -, w2, -⟩ := v3 hv
        obtain ⟨n, rfl⟩ : ∃ n, v = n + 1 := ⟨v - 1, by omega⟩
        rw [a_Cs]
        exact ⟨ht, w, w1, a_sh_m (mT_a J (by omega)) (mC_a J (by omega) hk (by omega)) w2⟩)
      refine ih (nI 1, _) ⟨J2, Or.inl ⟨rfl, ?_⟩⟩
      show mz S np (et_si f 91 (8 * k + t) (nI v)) < M
      rcases W with W | W
      · omega
      · omega
    · rw [io_f h1]
      refine ih (q.1, f) ⟨Jf, ?_⟩
      rcases W with W | W
      · exact Or.inl ⟨W.1, by show mz S np f < M; omega⟩
      · refine Or.inr ⟨W.1, by show mz S np f ≤ M; omega, fun j u hj hu => ?_, fun u hu => ?_⟩
        · exact lf_62 (C := fun f => cC S X Y P H f j u) f1 (W.2.2.1 j u hj hu) (fun x => cC_62 x (W.2.2.1 j u hj hu))
        · have hc : cC S X Y P H q.2 k u := by
            by_cases e : u = t
            · subst e
              intro r w hw z
              have := v4 r w hw z
              rw [hkf] at h1
              omega
            · exact W.2.2.2 u (by omega)
          exact lf_62 (C := fun f => cC S X Y P H f k u) f1 hc (fun x => cC_62 x hc)
theorem rk_74 (B : mB S g0) (A : mA S np P H O g0) {M : Nat} (r65 : Int32 → et_G → Option (Unit × et_G)) (Q : Option (Unit × et_G) → Prop)
    (kk : ∀ x g, mJ S X Y np P H g0 g → sw S np M (fun g => ∀ j u, j < np → u < S 61 5 → cC S X Y P H g j u) x g → Q (fn_Mo_reckons_159 r65 (mI X) (mI Y) 1000000 x 0 g))
    (g : et_G) (J : mJ S X Y np P H g0 g) (hM : mz S np g ≤ M) : Q (fn_Mo_reckons_74 r65 (mI X) (mI Y) 1000000 0 0 g) := by
  have hnp := A.2.1
  refine lp0 (fun m i (q : Int32 × et_G) => fn_Mo_reckons_74 r65 (mI X) (mI Y) m q.1 i q.2) Q np (by omega) (fun k q => mJ S X Y np P H g0 q.2 ∧ sw S np M (fun g => ∀ j u, j < k → u < S 61 5 → cC S X Y P H g j u) q.1 q.2) (0, g) ⟨J, Or.inr ⟨rfl, hM, fun j u hj => by omega⟩⟩ ?_ ?_
  · intro m q ⟨J, W⟩
    show Q (fn_Mo_reckons_74 r65 (mI X) (mI Y) (m + 1) q.1 (nI np) q.2)
    rw [fn_Mo_reckons_74, (mA_q J.1 A).1, if_pos (nI_le (Nat.le_refl _) (by omega))]
    exact kk q.1 q.2 J W
  · intro m k q hk ⟨J, W⟩ ih
    show Q (fn_Mo_reckons_74 r65 (mI X) (mI Y) (m + 1) q.1 (nI k) q.2)
    rw [fn_Mo_reckons_74, (mA_q J.1 A).1, if_neg (nI_ge hk (by omega))]
    exact rk_86 B A hk r65 _ Q (fun x g J W => ih (x, g) ⟨J, W⟩) q.1 q.2 J W
theorem rk_267 (B : mB S g0) (A : mA S np P H O g0) {s M v : Nat} (hs : s < S 61 50) (r65 : Int32 → et_G → Option (Unit × et_G)) (r159 : Int32 → Int32 → et_G → Option (Unit × et_G)) (Q : Option (Unit × et_G) → Prop) (x : Int32) {C : et_G → Prop} (g : et_G)
    (J : mJ S X Y np P H g0 g) (hx : X s) (W : sw S np M C x g) (hv : v ≤ 1000) (ha : v < 1000 → a_H S X Y v s)
    (k1 : ∀ g, mJ S X Y np P H g0 g → mz S np g < M → Q (r159 (nI 1) (nI (s + 1)) g)) (k2 : rg g s ≤ v → Q (r159 x (nI (s + 1)) g)) : Q (fn_Mo_reckons_267 r65 r159 (mI X) (mI Y) x (nI s) (nI v) g) := by
  have c := mB_c B
  obtain ⟨b1, b2, -⟩ := J.2.2.2.1 s hs
  unfold fn_Mo_reckons_267
  simp (disch := omega) only [ni_of, nI_clamp, ib_e, ck_t, bd_s, et_b, nI_add, if_p, ni_eq, ni_lt, ni_le, b_e0, b_e1, io_n, b1]
  by_cases h1 : v < rg g s
  · rw [io_t h1]
    obtain ⟨J2, z2⟩ := mJ_86 J hs h1 ha
    refine k1 _ J2 ?_
    rcases W with W | W
    · omega
    · omega
  · rw [io_f h1]; exact k2 (by omega)
theorem rk_159 (B : mB S g0) (A : mA S np P H O g0) {M : Nat} (r65 : Int32 → et_G → Option (Unit × et_G)) (Q : Option (Unit × et_G) → Prop)
    (kk : ∀ x g, mJ S X Y np P H g0 g → sw S np M (fun g => (∀ j u, j < np → u < S 61 5 → cC S X Y P H g j u) ∧ ∀ s, s < S 61 50 → cS S X Y O g s) x g → Q (r65 x g))
    (x : Int32) (g : et_G) (J : mJ S X Y np P H g0 g) (W : sw S np M (fun g => ∀ j u, j < np → u < S 61 5 → cC S X Y P H g j u) x g) : Q (fn_Mo_reckons_159 r65 (mI X) (mI Y) 1000000 x 0 g) := by
  have c := mB_c B
  refine lp0 (fun m i (q : Int32 × et_G) => fn_Mo_reckons_159 r65 (mI X) (mI Y) m q.1 i q.2) Q (S 61 50) (by omega) (fun k q => mJ S X Y np P H g0 q.2 ∧ sw S np M (fun g => (∀ j u, j < np → u < S 61 5 → cC S X Y P H g j u) ∧ ∀ s, s < k → cS S X Y O g s) q.1 q.2) (x, g) ⟨J, ?_⟩ ?_ ?_
  · rcases W with W | W
    · exact Or.inl W
    · exact Or.inr ⟨W.1, W.2.1, W.2.2, fun s hs => by omega⟩
  · intro m q ⟨J, W⟩
    show Q (fn_Mo_reckons_159 r65 (mI X) (mI Y) (m + 1) q.1 (nI (S 61 50)) q.2)
    rw [fn_Mo_reckons_159, show q.2.1 61 50 = nI (S 61 50) from by rw [J.1.1 61 50 rfl]; exact c.1, if_pos (nI_le (Nat.le_refl _) (by omega))]
    exact kk q.1 q.2 J W
  · intro m s q hs ⟨J, W⟩ ih
    show Q (fn_Mo_reckons_159 r65 (mI X) (mI Y) (m + 1) q.1 (nI s) q.2)
    rw [fn_Mo_reckons_159, show q.2.1 61 50 = nI (S 61 50) from by rw [J.1.1 61 50 rfl]; exact c.1, if_neg (nI_ge hs (by omega))]
    have add : ∀ f, mJ S X Y np P H g0 f → (f = q.2 ∨ ∃ x, f = et_si q.2 61 62 x) → cS S X Y O q.2 s → Q (fn_Mo_reckons_159 r65 (mI X) (mI Y) m q.1 (nI (s + 1)) f) := by
      intro f Jf f1 hc
      refine ih (q.1, f) ⟨Jf, ?_⟩
      have hz : mz S np f = mz S np q.2 := lf_62 (C := fun f => mz S np f = mz S np q.2) f1 rfl (fun x => mz_62 _ x)
      rcases W with W | W
      · exact Or.inl ⟨W.1, by show mz S np f < M; omega⟩
      · refine Or.inr ⟨W.1, by show mz S np f ≤ M; omega, fun j u hj hu => ?_, fun u hu => ?_⟩
        · exact lf_62 (C := fun f => cC S X Y P H f j u) f1 (W.2.2.1 j u hj hu) (fun x => cC_62 x (W.2.2.1 j u hj hu))
        · have hc : cS S X Y O q.2 u := by
            by_cases e : u = s
            · subst e; exact hc
            · exact W.2.2.2 u (by omega)
          exact lf_62 (C := fun f => cS S X Y O f u) f1 hc (fun x => cS_62 x hc)
    simp (disch := omega) only [ni_of, nI_clamp, ib_e, ck_t, bd_s, et_b, nI_add, if_p, ni_eq, ni_lt, ni_le, b_e0, b_e1, io_n, mb_m]
    by_cases hx : X s
    · rw [io_t hx]
      have J1 : mJ S X Y np P H g0 (et_si q.2 61 62 (nI 4)) := mJ_62 _ J
      obtain ⟨E, A'⟩ := mJ_E B A J1
      obtain ⟨o1, o2, o3, o4⟩ := A'.2.2.2 s hs
      obtain ⟨p1, p2, p3, p4⟩ := A'.2.2.1 (O s) o2
      obtain ⟨w1, w2, w3, w4, w5⟩ := mB_s B hs
      have hnp := A'.2.1
      have f62 : ∀ f, (f = et_si q.2 61 62 (nI 4) ∨ ∃ x, f = et_si (et_si q.2 61 62 (nI 4)) 61 62 x) → (f = q.2 ∨ ∃ x, f = et_si q.2 61 62 x) := fun f h => Or.inr (h.elim (fun h => ⟨_, h⟩) (fun ⟨x, h⟩ => ⟨x, by rw [h, si_si]⟩))
      have Wf : ∀ f, (f = q.2 ∨ ∃ x, f = et_si q.2 61 62 x) → sw S np M (fun _ => True) q.1 f := fun f h => by
        have hz : mz S np f = mz S np q.2 := lf_62 (C := fun f => mz S np f = mz S np q.2) h rfl (fun x => mz_62 _ x)
        rcases W with W | W
        · exact Or.inl ⟨W.1, by omega⟩
        · exact Or.inr ⟨W.1, by omega, trivial⟩
      by_cases hy : Y s
      · rw [io_t hy]
        obtain ⟨v, f, f1, f2, v1, v2, v3, v4⟩ := le_m E o2 p1 p2 p3 p4 w3 w5
        have f1' := f62 f f1
        have Jf : mJ S X Y np P H g0 f := lf_62 f1' J (fun x => mJ_62 x J)
        unfold fn_Mo_reckons_200
        simp (disch := omega) only [ni_of, nI_clamp, ib_e, ck_t, bd_s, et_b, nI_add, if_p, ni_eq, ni_lt, ni_le, b_e0, b_e1, io_n, o1, of_m E.1, f2]
        rw [io_f (by decide)]
        rw [o3, o4, rg_62, kg_62] at v3 v4
        refine rk_267 B A hs r65 _ Q q.1 f Jf hx (Wf f f1') v1 (fun hv => ?_) (fun g2 J2 z2 => ih (nI 1, g2) ⟨J2, Or.inl ⟨rfl, z2⟩⟩) (fun hle => add f Jf f1' (fun _ r => ⟨fun _ w hw z => ?_, fun n => absurd hy n⟩))
        · obtain ⟨w0, w, w1, -, w2, -⟩ := v3 hv
          obtain ⟨n, rfl⟩ : ∃ n, v = n + 1 := ⟨v - 1, by omega⟩
          rw [a_Hs]
          refine ⟨hs, hx, fun _ => ⟨w, w1, ?_⟩, fun n => absurd hy n⟩
          have := mC_a J (by omega) o2 (r := n) (by omega)
          rw [o3, o4] at this
          exact a_sh_m (mT_a J (by omega)) this w2
        · have := v4 r w hw z
          have hr : rg f = rg q.2 := lf_62 (C := fun f => rg f = rg q.2) f1' rfl (fun x => rg_62 _ x)
          rw [hr] at hle
          omega
      · rw [io_f hy]
        obtain ⟨v, v0, v1, v2, v3⟩ := bh_m E o2 p1 p2 p3 p4 w3 w5 w4
        unfold fn_Mo_reckons_200
        simp (disch := omega) only [ni_of, nI_clamp, ib_e, ck_t, bd_s, et_b, nI_add, if_p, ni_eq, ni_lt, ni_le, b_e0, b_e1, io_n, o1, of_m E.1, v0]
        rw [io_t trivial]
        rw [o3, o4, rg_62, kg_62] at v2 v3
        refine rk_267 B A hs r65 _ Q q.1 _ J1 hx (Wf _ (f62 _ (Or.inl rfl))) v1 (fun hv => ?_) (fun g2 J2 z2 => ih (nI 1, g2) ⟨J2, Or.inl ⟨rfl, z2⟩⟩) (fun hle => add _ J1 (f62 _ (Or.inl rfl)) (fun _ r => ⟨fun n => absurd n hy, fun _ z => ?_⟩))
        · obtain ⟨w0, w2⟩ := v2 hv
          obtain ⟨n, rfl⟩ : ∃ n, v = n + 1 := ⟨v - 1, by omega⟩
          rw [a_Hs]
          refine ⟨hs, hx, fun n => absurd n hy, fun _ => ?_⟩
          have := mC_a J (by omega) o2 (r := n) (by omega)
          rw [o3, o4] at this
          exact a_sh_m (mT_a J (by omega)) this w2
        · have := v3 r z
          rw [rg_62] at hle
          omega
    · rw [io_f hx]
      exact add q.2 J (Or.inl rfl) (fun z => absurd z hx)
/-- all reckoned: what is so is reckoned -/
def mF (S : et_T) (X Y : Nat → Prop) (np : Nat) (P H : Nat → Nat) (g : et_G) : Prop := (∀ s r, a_H S X Y r s → rg g s ≤ r) ∧ ∀ k r t, k < np → a_C S X Y r (P k) (H k) t → kg g (8 * k + t) ≤ r
theorem a_C_t' {r p h t : Nat} (k : a_C S X Y r p h t) : t < S 61 5 := by
  cases r with
  | zero => exact k.elim
  | succ r => exact k.1
theorem mF_of (A : mA S np P H O g0) {g : et_G} (h1 : ∀ j u, j < np → u < S 61 5 → cC S X Y P H g j u) (h2 : ∀ s, s < S 61 50 → cS S X Y O g s) : mF S X Y np P H g := by
  have key : ∀ r, (∀ s, a_H S X Y r s → rg g s ≤ r) ∧ ∀ k t, k < np → a_C S X Y r (P k) (H k) t → kg g (8 * k + t) ≤ r := by
    intro r
    induction r with
    | zero => exact ⟨fun s h => h.elim, fun k t _ h => h.elim⟩
    | succ r ih =>
      have hT : ∀ s, a_T S X Y r s → m_T S X Y (rg g) r s := fun s z => by
        have h := z.1
        cases r with
        | zero => exact h.elim
        | succ r => exact ⟨h.1, h.2.1, ih.1 s h, z.2⟩
      have hC : ∀ k, k < np → ∀ u, a_C S X Y r (P k) (H k) u → m_C S (kg g) k r u := fun k hk u z => ⟨a_C_t' z, ih.2 k u hk z⟩
      refine ⟨fun s h => ?_, fun k t hk h => ?_⟩
      · obtain ⟨a, b, d⟩ := (a_Hs S X Y r s).mp h
        obtain ⟨-, o2, o3, o4⟩ := A.2.2.2 s a
        have hc := hC (O s) o2
        rw [o3, o4] at hc
        have := h2 s a b r
        by_cases hy : Y s
        · obtain ⟨w, w4, z⟩ := d.1 hy
          exact this.1 hy w w4 (a_sh_m hT hc z)
        · exact this.2 hy (a_sh_m hT hc (d.2 hy))
      · obtain ⟨a, w, w4, z⟩ := (a_Cs S X Y r _ _ _).mp h
        exact h1 k t hk a r w w4 (a_sh_m hT (hC k hk) z)
  exact ⟨fun s r h => (key r).1 s h, fun k r t hk h => (key r).2 k t hk h⟩
theorem rk_65 (B : mB S g0) (A : mA S np P H O g0) (Q : Option (Unit × et_G) → Prop)
    (kk : ∀ g, mJ S X Y np P H g0 g → mF S X Y np P H g → Q (fn_Mo_reckons_307 (mI Y) 1000000 0 g)) :
    ∀ n g, mJ S X Y np P H g0 g → mz S np g + 1 < n → Q (fn_Mo_reckons_65 (mI X) (mI Y) n 1 g) := by
  intro n
  induction n with
  | zero => intro g _ h; omega
  | succ n ih =>
    intro g J hn
    rw [fn_Mo_reckons_65, if_neg (by decide)]
    refine rk_74 B A (M := mz S np g) _ Q (fun x g1 J1 W1 => rk_159 B A _ Q (fun x g2 J2 W2 => ?_) x g1 J1 W1) g J (Nat.le_refl _)
    rcases W2 with ⟨a, b⟩ | ⟨a, b, d, e⟩
    · rw [a]
      exact ih g2 J2 (by omega)
    · rw [a]
      show Q (fn_Mo_reckons_65 (mI X) (mI Y) n (nI 0) g2)
      obtain ⟨n, rfl⟩ : ∃ m, n = m + 1 := ⟨n - 1, by omega⟩
      rw [fn_Mo_reckons_65, if_pos nI_0]
      exact kk g2 J2 (mF_of A d e)
theorem mz_le {g : et_G} (A : mA S np P H O g0) (hn : S 61 50 ≤ 20) (J : mJ S X Y np P H g0 g) : mz S np g ≤ 188000 := by
  have hnp := A.2.1
  have a := sm_kk (f := rg g) (c := 1000) (S 61 50) (fun i hi => (J.2.2.2.1 i hi).2.1)
  have b := sm_kk (f := kg g) (c := 1000) (8 * np) (fun i hi => (J.2.2.2.2 i hi).2.1)
  unfold mz
  omega
theorem rk_s {X Y : Nat → Prop} (B : mB S g0) (A : mA S np P H O g0) (Q : Option (Unit × et_G) → Prop)
    (kk : ∀ g, mJ S X Y np P H g0 g → mF S X Y np P H g → Q (fn_Mo_reckons_307 (mI Y) 1000000 0 g)) : Q (fn_Mo_reckons (mI X) (mI Y) g0) := by
  have c := mB_c B
  have hnp := A.2.1
  unfold fn_Mo_reckons
  simp only [et_b]
  refine lp0 (fun m i (s : et_G) => fn_Mo_reckons_12 (mI X) (mI Y) m i s) Q (S 61 50) (by omega) (fun k s => fq w_rk g0 s ∧ s.1 61 60 = mI X ∧ s.1 61 61 = mI Y ∧ ∀ i, i < k → s.1 86 i = nI 1000) _ ⟨fq_s (fq_s (fq_r _ _) rfl) rfl, by rw [si_j (by decide), si_e], si_e, fun i hi => by omega⟩ ?_ ?_
  · intro m s ⟨f, h1, h2, h3⟩
    show Q (fn_Mo_reckons_12 (mI X) (mI Y) (m + 1) (nI (S 61 50)) s)
    rw [fn_Mo_reckons_12, show s.1 61 50 = nI (S 61 50) from by rw [f.1 61 50 rfl]; exact c.1, if_pos (nI_le (Nat.le_refl _) (by omega))]
    refine lp0 (fun m i (s : et_G) => fn_Mo_reckons_37 (mI X) (mI Y) m i s) Q (8 * np) (by omega) (fun k s => fq w_rk g0 s ∧ s.1 61 60 = mI X ∧ s.1 61 61 = mI Y ∧ (∀ i, i < S 61 50 → s.1 86 i = nI 1000) ∧ ∀ i, i < k → s.1 91 i = nI 1000) s ⟨f, h1, h2, h3, fun i hi => by omega⟩ ?_ ?_
    · intro m s ⟨f, h1, h2, h3, h4⟩
      show Q (fn_Mo_reckons_37 (mI X) (mI Y) (m + 1) (nI (8 * np)) s)
      rw [fn_Mo_reckons_37, (mA_q f A).1]
      simp (disch := omega) only [ni_of, pk_mul, ni_le, Nat.le_refl, if_true]
      have J : mJ S X Y np P H g0 s := by
        refine ⟨f, h1, h2, fun i hi => ?_, fun j hj => ?_⟩
        · unfold rg
          rw [h3 i hi, nI_clamp (by decide)]
          exact ⟨rfl, Nat.le_refl _, fun z => by omega⟩
        · unfold kg
          rw [h4 j hj, nI_clamp (by decide)]
          exact ⟨rfl, Nat.le_refl _, fun z => by omega⟩
      have := mz_le A c.2.1 J
      exact rk_65 B A Q kk 1000000 s J (by omega)
    · intro m k s hk ⟨f, h1, h2, h3, h4⟩ ih
      show Q (fn_Mo_reckons_37 (mI X) (mI Y) (m + 1) (nI k) s)
      rw [fn_Mo_reckons_37, (mA_q f A).1]
      simp (disch := omega) only [ni_of, nI_clamp, ib_e, ck_t, bd_s, et_b, nI_add, if_p, ni_eq, ni_lt, ni_le, b_e0, b_e1, io_n, pk_mul]
      rw [io_f (by omega)]
      refine ih _ ⟨fq_s f rfl, by rw [si_x (by decide)]; exact h1, by rw [si_x (by decide)]; exact h2, fun i hi => by rw [si_x (by decide)]; exact h3 i hi, fun i hi => ?_⟩
      by_cases e : i = k
      · rw [e, si_e]
      · rw [si_j e]; exact h4 i (by omega)
  · intro m k s hk ⟨f, h1, h2, h3⟩ ih
    show Q (fn_Mo_reckons_12 (mI X) (mI Y) (m + 1) (nI k) s)
    rw [fn_Mo_reckons_12, show s.1 61 50 = nI (S 61 50) from by rw [f.1 61 50 rfl]; exact c.1, if_neg (nI_ge hk (by omega))]
    simp (disch := omega) only [ni_of, nI_clamp, ib_e, ck_t, bd_s, et_b, nI_add, if_p, ni_eq, ni_lt, ni_le, b_e0, b_e1, io_n]
    refine ih _ ⟨fq_s f rfl, by rw [si_x (by decide)]; exact h1, by rw [si_x (by decide)]; exact h2, fun i hi => ?_⟩
    by_cases e : i = k
    · rw [e, si_e]
    · rw [si_j e]; exact h3 i (by omega)
end RK
