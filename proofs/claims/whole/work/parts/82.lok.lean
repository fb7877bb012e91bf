/-! eyes: the model -/
def eM (g : et_G) (i q : Nat) : Prop := bt (g.1 92 i) q = true
def tM (g : et_G) (j q : Nat) : Prop := bt (g.1 93 j) q = true
def nB (S : et_T) (np : Nat) (P H O : Nat → Nat) (g : et_G) : Prop := mE S (a_al S) a_no (rg g) (kg g) np g ∧ mA S np P H O g ∧ (∀ s, s < S 61 50 → (rg g s < 1000 ↔ a_HH S (a_al S) a_no s)) ∧ ∀ k t, k < np → t < S 61 5 → (kg g (8 * k + t) < 1000 ↔ a_CL S (a_tt S) (P k) (H k) t)
def w_l (k _j : Nat) : Bool := k == 92 || k == 93
section LK
variable {S : et_T} {np : Nat} {P H O : Nat → Nat} {g : et_G}
theorem w_l_m : ∀ k j, mq k j = true → w_l k j = false := by
  intro k j h
  have := mq_c h
  simp [w_l]
  omega
theorem nB_q {g' : et_G} (f : fq w_l g g') (B : nB S np P H O g) : nB S np P H O g' := by
  obtain ⟨⟨b1, b2, b3, b4, b5, b6⟩, ⟨c1, c2, c3, c4⟩, d, e⟩ := B
  have hr : rg g' = rg g := funext fun s => by unfold rg; rw [f.1 86 s rfl]
  have hk : kg g' = kg g := funext fun s => by unfold kg; rw [f.1 91 s rfl]
  refine ⟨⟨⟨rc_M_q f w_l_m b1.1, b1.2⟩, by rw [f.1 61 60 rfl]; exact b2, by rw [f.1 61 61 rfl]; exact b3, fun s hs => ?_, b5, fun j hj => ?_⟩, ⟨by rw [f.1 61 59 rfl]; exact c1, c2, fun k hk => ?_, fun s hs => ?_⟩, ?_, ?_⟩
  · rw [hr, f.1 86 s rfl]; exact b4 s hs
  · rw [hk, f.1 91 j rfl]; exact b6 j hj
  · rw [f.1 88 k rfl, f.1 89 k rfl]; exact c3 k hk
  · rw [f.1 90 s rfl]; exact c4 s hs
  · rw [hr]; exact d
  · rw [hk]; exact e
theorem nB_of {g0 : et_G} (B : mB S g0) (A : mA S np P H O g0) (J : mJ S (a_al S) a_no np P H g0 g) (F : mF S (a_al S) a_no np P H g) : nB S np P H O g := by
  obtain ⟨E, A'⟩ := mJ_E B A J
  exact ⟨E, A', fun s hs => (rg_f B J F hs).1, fun k t hk ht => kg_f B J F hk ht⟩
theorem tde_m (B : nB S np P H O g) {p h t nt : Nat} (hp : p < S 61 4) (hh : h < 24) (ht : t < S 61 5) (hn : nt ≤ 1) : fn_Mo_toldEyes (nI p) (nI h) (nI t) (nI nt) g = some (mI (a_te S (eM g) p h t nt), g) := by
  have c := mB_c B.1.1
  obtain ⟨E1, E2, E3, E4, E5, E6⟩ := B.1
  unfold fn_Mo_toldEyes
  have := sc_o (F := fn_Mo_toldEyes_6 (nI p) (nI h) (nI t) (nI nt)) (g := g) (N := S 61 50) (P := fun s => ¬ 1000 ≤ rg g s ∧ tl_P S (a_al S) a_no p h t nt s) (v := fun s => g.1 92 s) (by omega) (fun m x => by
    rw [fn_Mo_toldEyes_6, c.1, if_pos (nI_le (Nat.le_refl _) (by omega))]) (fun m x k hk => by
    obtain ⟨r1, r2⟩ := E4 k hk
    rw [fn_Mo_toldEyes_6, c.1, if_neg (nI_ge hk (by omega))]
    simp (disch := omega) only [ni_of, nI_clamp, ib_e, ck_t, bd_s, et_b, nI_add, if_p, ni_eq, ni_lt, ni_le, b_e0, b_e1, io_n, r1, ito_m E1 E2 E3 hk hp hh ht hn]
    by_cases h1 : 1000 ≤ rg g k
    · rw [io_t h1, io_f (fun z => z.1 h1)]
    · rw [io_f h1]
      exact io_c ⟨fun z => ⟨h1, z⟩, fun z => z.2⟩)
  rw [this]
  refine congrArg some (congrArg (·, g) (mI_c fun q _ => ⟨fun ⟨u, u1, u2, u3⟩ => ?_, fun ⟨u, u1, u2, u3, u4⟩ => ?_⟩))
  · exact ⟨u, ⟨(B.2.2.1 u u1).mp (by omega), u2.2.2.2.2⟩, u2.2.2.1, u2.2.2.2.1, u3⟩
  · have := (B.2.2.1 u u3.1).mpr u1.1
    exact ⟨u, u3.1, ⟨by omega, u3.1, u2, u3, u1.2⟩, u4⟩
theorem re_41 (B : nB S np P H O g) {k t r : Nat} (hk : k < np) (hr : r < S 61 6) (f : Int32 → Int32 → et_G → Option (Int32 × et_G)) (x : Int32) (Q : Option (Int32 × et_G) → Prop)
    (kk : ∀ i w, i = mI (fun q => ∃ j, 1 ≤ j ∧ j < S 67 (5 * r) ∧ tM g (8 * k + S 67 (5 * r + 1 + j)) q) → w = bI (∀ j, 1 ≤ j → j < S 67 (5 * r) → a_CL S (a_tt S) (P k) (H k) (S 67 (5 * r + 1 + j))) → Q (fn_Mo_ruleEyes_132 f (nI k) (nI t) x (nI r) i w g)) :
    Q (fn_Mo_ruleEyes_41 f (nI k) (nI t) x (nI r) 1000000 0 1 1 g) := by
  obtain ⟨E1, E2, E3, E4, E5, E6⟩ := B.1
  have c := mB_c E1
  obtain ⟨l1, l2, l3⟩ := mB_r E1 hr
  have r67 : ∀ j, g.1 67 j = nI (S 67 j) := fun j => E1.1.1 67 j rfl
  refine lp (fun m i (s : Int32 × Int32) => fn_Mo_ruleEyes_41 f (nI k) (nI t) x (nI r) m s.1 s.2 i g) Q (S 67 (5 * r)) (fun q s => 1 ≤ q ∧ s.1 = mI (fun b => ∃ j, 1 ≤ j ∧ j < q ∧ tM g (8 * k + S 67 (5 * r + 1 + j)) b) ∧ s.2 = bI (∀ j, 1 ≤ j → j < q → a_CL S (a_tt S) (P k) (H k) (S 67 (5 * r + 1 + j)))) ?_ ?_ (S 67 (5 * r) - 1) 1000000 1 (0, 1) (by omega) (by omega) ⟨Nat.le_refl _, ?_, ?_⟩
  · intro m s ⟨_, a1, a2⟩
    show Q (fn_Mo_ruleEyes_41 f (nI k) (nI t) x (nI r) (m + 1) s.1 s.2 (nI (S 67 (5 * r))) g)
    rw [fn_Mo_ruleEyes_41]
    simp (disch := omega) only [ni_of, pk_mul, nI_clamp, ib_e, ck_t, r67, ni_le, Nat.le_refl, if_true]
    exact kk s.1 s.2 a1 a2
  · intro m q s hq ⟨a0, a1, a2⟩ ih
    have b1 := l3 q hq
    obtain ⟨k1, k2⟩ := E6 (8 * k + S 67 (5 * r + 1 + q)) (by omega)
    have kc := B.2.2.2 k (S 67 (5 * r + 1 + q)) hk b1
    show Q (fn_Mo_ruleEyes_41 f (nI k) (nI t) x (nI r) (m + 1) s.1 s.2 (nI q) g)
    have h93 : g.1 93 (8 * k + S 67 (5 * r + 1 + q)) = mI (tM g (8 * k + S 67 (5 * r + 1 + q))) := mI_s _
    have nx : mI (fun b => ∃ j, 1 ≤ j ∧ j < q ∧ tM g (8 * k + S 67 (5 * r + 1 + j)) b) ||| mI (tM g (8 * k + S 67 (5 * r + 1 + q))) = mI (fun b => ∃ j, 1 ≤ j ∧ j < q + 1 ∧ tM g (8 * k + S 67 (5 * r + 1 + j)) b) := by
      rw [mI_or]
      refine mI_c fun b _ => ⟨fun z => ?_, fun ⟨j, j1, j2, j3⟩ => ?_⟩
      · rcases z with ⟨j, j1, j2, j3⟩ | z
        · exact ⟨j, j1, by omega, j3⟩
        · exact ⟨q, a0, by omega, z⟩
      · by_cases e : j = q
        · subst e; exact Or.inr j3
        · exact Or.inl ⟨j, j1, by omega, j3⟩
    rw [fn_Mo_ruleEyes_41, a1, a2]
    unfold fn_Mo_ruleEyes_94 fn_Mo_ruleEyes_95
    simp (disch := omega) only [ni_of, nI_clamp, ib_e, ck_t, bd_s, et_b, nI_add, if_p, ni_eq, ni_lt, ni_le, b_e0, b_e1, io_n, pk_mul, r67, k1, h93, nx]
    rw [io_f (by omega)]
    have no : ¬ (∀ j, 1 ≤ j → j < q + 1 → a_CL S (a_tt S) (P k) (H k) (S 67 (5 * r + 1 + j))) → Q (fn_Mo_ruleEyes_41 f (nI k) (nI t) x (nI r) m (mI (fun b => ∃ j, 1 ≤ j ∧ j < q + 1 ∧ tM g (8 * k + S 67 (5 * r + 1 + j)) b)) (nI 0) (nI (q + 1)) g) := fun z => ih (_, nI 0) ⟨by omega, rfl, (bI_f z).symm⟩
    by_cases h1 : ∀ j, 1 ≤ j → j < q → a_CL S (a_tt S) (P k) (H k) (S 67 (5 * r + 1 + j))
    · rw [io_t h1]
      by_cases h2 : 1000 ≤ kg g (8 * k + S 67 (5 * r + 1 + q))
      · rw [io_t h2]
        exact no (fun z => by have := kc.mpr (z q a0 (by omega)); omega)
      · rw [io_f h2]
        refine ih (_, nI 1) ⟨by omega, rfl, (bI_t fun j j1 j2 => ?_).symm⟩
        by_cases e : j = q
        · subst e; exact kc.mp (by omega)
        · exact h1 j j1 (by omega)
    · rw [io_f h1]
      exact no (fun z => h1 fun j j1 j2 => z j j1 (by omega))
  · show (0 : Int32) = _
    rw [mI_0]; exact mI_c fun b _ => ⟨fun z => z.elim, fun ⟨j, j1, j2, _⟩ => by omega⟩
  · show (1 : Int32) = _
    rw [bI_t (fun j j1 j2 => by omega)]; rfl
theorem ru_m (B : nB S np P H O g) {k t : Nat} (hk : k < np) (ht : t < S 61 5) : fn_Mo_ruleEyes (nI k) (nI t) g = some (mI (a_re S (fun t q => tM g (8 * k + t) q) (P k) (H k) t), g) := by
  obtain ⟨E1, E2, E3, E4, E5, E6⟩ := B.1
  have c := mB_c E1
  have r67 : ∀ j, g.1 67 j = nI (S 67 j) := fun j => E1.1.1 67 j rfl
  unfold fn_Mo_ruleEyes
  have := sc_o (F := fn_Mo_ruleEyes_5 (nI k) (nI t)) (g := g) (N := S 61 6) (P := fun r => S 67 (5 * r + 1) = t ∧ ∀ j, 1 ≤ j → j < S 67 (5 * r) → a_CL S (a_tt S) (P k) (H k) (S 67 (5 * r + 1 + j))) (v := fun r => mI (fun q => ∃ j, 1 ≤ j ∧ j < S 67 (5 * r) ∧ tM g (8 * k + S 67 (5 * r + 1 + j)) q)) (by omega) (fun m x => by
    rw [fn_Mo_ruleEyes_5, c.2.2.2.2.1, if_pos (nI_le (Nat.le_refl _) (by omega))]) (fun m x r hr => by
    obtain ⟨l1, l2, l3⟩ := mB_r E1 hr
    have b1 := l3 0 (by omega)
    rw [Nat.add_zero] at b1
    have e : fn_Mo_ruleEyes_5 (nI k) (nI t) (m + 1) x (nI r) g = io (S 67 (5 * r + 1) = t) (fn_Mo_ruleEyes_41 (fun z3 z4 g => fn_Mo_ruleEyes_5 (nI k) (nI t) m z3 z4 g) (nI k) (nI t) x (nI r) 1000000 0 1 1 g) (fn_Mo_ruleEyes_5 (nI k) (nI t) m x (nI (r + 1)) g) := by
      rw [fn_Mo_ruleEyes_5, c.2.2.2.2.1, if_neg (nI_ge hr (by omega))]
      simp (disch := omega) only [ni_of, nI_clamp, ib_e, ck_t, bd_s, et_b, nI_add, if_p, ni_eq, ni_lt, ni_le, b_e0, b_e1, io_n, pk_mul, r67]
    rw [e]
    by_cases h1 : S 67 (5 * r + 1) = t
    · rw [io_t h1]
      refine re_41 B hk hr _ x (fun o => o = _) (fun i w hi hw => ?_)
      unfold fn_Mo_ruleEyes_132
      rw [hi, hw]
      simp (disch := omega) only [ni_of, nI_clamp, ib_e, ck_t, bd_s, et_b, nI_add, if_p, ni_eq, ni_lt, ni_le, b_e0, b_e1, io_n, or_n0]
      exact io_c ⟨fun z => ⟨h1, z⟩, fun z => z.2⟩
    · rw [io_f h1, io_f (fun z => h1 z.1)])
  rw [this]
  refine congrArg some (congrArg (·, g) (mI_c fun q hq => ⟨fun ⟨r, r1, r2, r3⟩ => ?_, fun ⟨r, r1, j, j1, j2, j3⟩ => ?_⟩))
  · obtain ⟨j, j1, j2, j3⟩ := (mI_b _ hq).mp r3
    exact ⟨r, ⟨r1, r2⟩, j, j1, j2, j3⟩
  · exact ⟨r, r1.1, r1.2, (mI_b _ hq).mpr ⟨j, j1, j2, j3⟩⟩
def a_eb (S : et_T) (g : et_G) (k p h t nt w q : Nat) : Prop := (w ≤ 1 ∧ a_oh S p h t nt w ∧ q = p) ∨ (w = 2 ∧ a_te S (eM g) p h t nt q) ∨ (w = 3 ∧ nt = 0 ∧ a_re S (fun t q => tM g (8 * k + t) q) p h t q)
theorem eb_m (B : nB S np P H O g) {k t nt w : Nat} (hk : k < np) (ht : t < S 61 5) (hn : nt ≤ 1) (hw : w < 5) : fn_Mo_eyesBy (nI k) (nI t) (nI nt) (nI w) g = some (mI (a_eb S g k (P k) (H k) t nt w), g) := by
  obtain ⟨E1, E2, E3, E4, E5, E6⟩ := B.1
  have c := mB_c E1
  obtain ⟨p1, p2, p3, p4⟩ := B.2.1.2.2.1 k hk
  unfold fn_Mo_eyesBy
  simp (disch := omega) only [ni_of, nI_clamp, ib_e, ck_t, bd_s, et_b, nI_add, if_p, ni_eq, ni_lt, ni_le, b_e0, b_e1, io_n, p1, p2, tde_m B p3 p4 ht hn, ru_m B hk ht, mI_1 (show P k < 31 by omega)]
  by_cases h4 : w = 4
  · rw [io_t h4, mI_n0]
    refine congrArg some (congrArg (·, g) (mI_c fun q _ => ⟨fun z => z.elim, fun z => ?_⟩))
    rcases z with z | z | z
    · omega
    · omega
    · omega
  · rw [io_f h4]
    by_cases h2 : w = 2
    · rw [io_t h2]
      refine congrArg some (congrArg (·, g) (mI_c fun q _ => ⟨fun z => Or.inr (Or.inl ⟨h2, z⟩), fun z => ?_⟩))
      rcases z with z | z | z
      · omega
      · exact z.2
      · omega
    · rw [io_f h2]
      by_cases h3 : w = 3
      · rw [io_t h3]
        by_cases hn1 : nt = 1
        · rw [io_t hn1, mI_n0]
          refine congrArg some (congrArg (·, g) (mI_c fun q _ => ⟨fun z => z.elim, fun z => ?_⟩))
          rcases z with z | z | z
          · omega
          · omega
          · omega
        · rw [io_f hn1]
          refine congrArg some (congrArg (·, g) (mI_c fun q _ => ⟨fun z => Or.inr (Or.inr ⟨h3, by omega, z⟩), fun z => ?_⟩))
          rcases z with z | z | z
          · omega
          · omega
          · exact z.2.2
      · rw [io_f h3, iby_m E1 p3 p4 ht hn (show w ≤ 1 by omega), bd_s]
        simp only [b_e0, io_n]
        by_cases hb : a_oh S (P k) (H k) t nt w
        · rw [io_t hb]
          refine congrArg some (congrArg (·, g) (mI_c fun q _ => ⟨fun z => Or.inl ⟨by omega, hb, z⟩, fun z => ?_⟩))
          rcases z with z | z | z
          · exact z.2.2
          · omega
          · omega
        · rw [io_f hb, mI_n0]
          refine congrArg some (congrArg (·, g) (mI_c fun q _ => ⟨fun z => z.elim, fun z => ?_⟩))
          rcases z with z | z | z
          · exact hb z.2.1
          · omega
          · omega
/-- what the model has reckoned is so -/
def lJ (S : et_T) (np : Nat) (P H : Nat → Nat) (g : et_G) : Prop := (∀ i q, i < S 61 50 → eM g i q → a_EY S i q) ∧ ∀ k t q, k < np → t < S 61 5 → tM g (8 * k + t) q → a_CE S (P k) (H k) t q
def lP (g : et_G) (c : Nat) : Prop := (c < 640 ∧ eM g (c / 32) (c % 32)) ∨ (640 ≤ c ∧ tM g ((c - 640) / 32) ((c - 640) % 32))
noncomputable def lE (g : et_G) : Nat := cnt (lP g) 6016
theorem l_cts (B : nB S np P H O g) (J : lJ S np P H g) {k t q : Nat} (hk : k < np) (z : a_ct S (eM g) (fun t q => tM g (8 * k + t) q) (P k) (H k) t q) : a_CE S (P k) (H k) t q := by
  refine ct_cl ⟨z.1, ?_⟩
  rcases z.2 with b | b | b
  · exact Or.inl b
  · obtain ⟨u, b1, b2, b3, b4⟩ := b
    exact Or.inr (Or.inl ⟨u, b1, b2, b3, J.1 u q b3.1 b4⟩)
  · obtain ⟨r, b1, j, b2, b3, b4⟩ := b
    exact Or.inr (Or.inr ⟨r, b1, j, b2, b3, J.2 k _ q hk ((mB_r B.1.1 b1.1).2.2 j b3) b4⟩)
def l_es (S : et_T) (g : et_G) (k s q : Nat) : Prop := a_es S (eM g) (fun _ _ t q => tM g (8 * k + t) q) s q
theorem l_ess (B : nB S np P H O g) (J : lJ S np P H g) {s q : Nat} (hs : s < S 61 50) (z : l_es S g (O s) s q) : a_EY S s q := by
  obtain ⟨o1, o2, o3, o4⟩ := B.2.1.2.2.2 s hs
  refine es_cl ⟨z.1, ?_⟩
  rcases z.2 with b | b | b
  · exact Or.inl b
  · obtain ⟨b0, u, b1, b2, b3, b4⟩ := b
    exact Or.inr (Or.inl ⟨b0, u, b1, b2, b3, J.1 u q b3.1 b4⟩)
  · obtain ⟨b0, r, b1, j, b2, b3, b4⟩ := b
    have := J.2 (O s) _ q o2 ((mB_r B.1.1 b1.1).2.2 j b3) b4
    rw [o3, o4] at this
    exact Or.inr (Or.inr ⟨b0, r, b1, j, b2, b3, this⟩)
theorem lu_t (B : nB S np P H O g) (J : lJ S np P H g) {k t : Nat} (hk : k < np) (ht : t < S 61 5) {N : Nat → Prop} (hN : ∀ q, N q ↔ (tM g (8 * k + t) q ∨ a_ct S (eM g) (fun t q => tM g (8 * k + t) q) (P k) (H k) t q)) :
    lJ S np P H (et_si g 93 (8 * k + t) (mI N)) ∧ lE g ≤ lE (et_si g 93 (8 * k + t) (mI N)) ∧ (¬ mI N = g.1 93 (8 * k + t) → lE g < lE (et_si g 93 (8 * k + t) (mI N))) := by
  have c := mB_c B.1.1
  have hnp := B.2.1.2.1
  have hg : eM (et_si g 93 (8 * k + t) (mI N)) = eM g := funext fun a => by unfold eM; funext b; rw [si_x (by decide)]
  have hj : ∀ j q, tM (et_si g 93 (8 * k + t) (mI N)) j q ↔ (j = 8 * k + t ∧ q < 32 ∧ N q) ∨ (j ≠ 8 * k + t ∧ tM g j q) := by
    intro j q
    unfold tM
    by_cases e : j = 8 * k + t
    · subst e
      rw [si_e]
      constructor
      · intro z; exact Or.inl ⟨rfl, q32 z, (mI_b N (q32 z)).mp z⟩
      · intro z
        rcases z with z | z
        · exact (mI_b N z.2.1).mpr z.2.2
        · exact absurd rfl z.1
    · rw [si_j e]
      exact ⟨fun z => Or.inr ⟨e, z⟩, fun z => z.elim (fun z => absurd z.1 e) (fun z => z.2)⟩
  have up : ∀ j q, tM g j q → tM (et_si g 93 (8 * k + t) (mI N)) j q := by
    intro j q z
    rw [hj]
    by_cases e : j = 8 * k + t
    · subst e; exact Or.inl ⟨rfl, q32 z, (hN q).mpr (Or.inl z)⟩
    · exact Or.inr ⟨e, z⟩
  have mono : ∀ x, x < 6016 → lP g x → lP (et_si g 93 (8 * k + t) (mI N)) x := by
    intro x _ z
    rcases z with z | z
    · exact Or.inl ⟨z.1, by rw [hg]; exact z.2⟩
    · exact Or.inr ⟨z.1, up _ _ z.2⟩
  refine ⟨⟨fun a q ha z => ?_, fun a b q ha hb z => ?_⟩, cnt_mono 6016 mono, fun hne => cnt_lt 6016 mono ?_⟩
  · rw [hg] at z
    exact J.1 a q ha z
  · rcases (hj _ _).mp z with z | z
    · have e1 : a = k := by omega
      have e2 : b = t := by omega
      subst e1; subst e2
      exact ((hN q).mp z.2.2).elim (J.2 a b q ha hb) (l_cts B J ha)
    · exact J.2 a b q ha hb z.2
  · have : ∃ q, q < 32 ∧ N q ∧ ¬ tM g (8 * k + t) q := Classical.byContradiction fun no => hne (mI_eq (x := g.1 93 (8 * k + t)) fun q hq => ⟨fun z => (hN q).mpr (Or.inl z), fun z => Classical.byContradiction fun y => no ⟨q, hq, z, y⟩⟩).symm
    obtain ⟨q, q1, q2, q3⟩ := this
    have e1 : (640 + 32 * (8 * k + t) + q - 640) / 32 = 8 * k + t := by omega
    have e2 : (640 + 32 * (8 * k + t) + q - 640) % 32 = q := by omega
    refine ⟨640 + 32 * (8 * k + t) + q, by omega, Or.inr ⟨by omega, ?_⟩, fun z => ?_⟩
    · rw [e1, e2, hj]; exact Or.inl ⟨rfl, q1, q2⟩
    · rcases z with z | z
      · omega
      · rw [e1, e2] at z; exact q3 z.2
theorem lu_e (B : nB S np P H O g) (J : lJ S np P H g) {s : Nat} (hs : s < S 61 50) {N : Nat → Prop} (hN : ∀ q, N q ↔ (eM g s q ∨ l_es S g (O s) s q)) :
    lJ S np P H (et_si g 92 s (mI N)) ∧ lE g ≤ lE (et_si g 92 s (mI N)) ∧ (¬ mI N = g.1 92 s → lE g < lE (et_si g 92 s (mI N))) := by
  have c := mB_c B.1.1
  have hg : tM (et_si g 92 s (mI N)) = tM g := funext fun a => by unfold tM; funext b; rw [si_x (by decide)]
  have hj : ∀ j q, eM (et_si g 92 s (mI N)) j q ↔ (j = s ∧ q < 32 ∧ N q) ∨ (j ≠ s ∧ eM g j q) := by
    intro j q
    unfold eM
    by_cases e : j = s
    · subst e
      rw [si_e]
      constructor
      · intro z; exact Or.inl ⟨rfl, q32 z, (mI_b N (q32 z)).mp z⟩
      · intro z
        rcases z with z | z
        · exact (mI_b N z.2.1).mpr z.2.2
        · exact absurd rfl z.1
    · rw [si_j e]
      exact ⟨fun z => Or.inr ⟨e, z⟩, fun z => z.elim (fun z => absurd z.1 e) (fun z => z.2)⟩
  have up : ∀ j q, eM g j q → eM (et_si g 92 s (mI N)) j q := by
    intro j q z
    rw [hj]
    by_cases e : j = s
    · subst e; exact Or.inl ⟨rfl, q32 z, (hN q).mpr (Or.inl z)⟩
    · exact Or.inr ⟨e, z⟩
  have mono : ∀ x, x < 6016 → lP g x → lP (et_si g 92 s (mI N)) x := by
    intro x _ z
    rcases z with z | z
    · exact Or.inl ⟨z.1, up _ _ z.2⟩
    · exact Or.inr ⟨z.1, by rw [hg]; exact z.2⟩
  refine ⟨⟨fun a q ha z => ?_, fun a b q ha hb z => ?_⟩, cnt_mono 6016 mono, fun hne => cnt_lt 6016 mono ?_⟩
  · rcases (hj _ _).mp z with z | z
    · obtain ⟨rfl, -, z⟩ := z
      exact ((hN q).mp z).elim (J.1 a q ha) (l_ess B J ha)
    · exact J.1 a q ha z.2
  · rw [hg] at z
    exact J.2 a b q ha hb z
  · have : ∃ q, q < 32 ∧ N q ∧ ¬ eM g s q := Classical.byContradiction fun no => hne (mI_eq (x := g.1 92 s) fun q hq => ⟨fun z => (hN q).mpr (Or.inl z), fun z => Classical.byContradiction fun y => no ⟨q, hq, z, y⟩⟩).symm
    obtain ⟨q, q1, q2, q3⟩ := this
    have e1 : (32 * s + q) / 32 = s := by omega
    have e2 : (32 * s + q) % 32 = q := by omega
    refine ⟨32 * s + q, by omega, Or.inl ⟨by omega, ?_⟩, fun z => ?_⟩
    · rw [e1, e2, hj]; exact Or.inl ⟨rfl, q1, q2⟩
    · rcases z with z | z
      · rw [e1, e2] at z; exact q3 z.2
      · omega
def lq (M : Nat) (C : et_G → Prop) (x : Int32) (g : et_G) : Prop := (x = nI 1 ∧ M < lE g) ∨ (x = nI 0 ∧ M ≤ lE g ∧ C g)
def d_t (S : et_T) (P H : Nat → Nat) (g : et_G) (k t : Nat) : Prop := ∀ q, q < 32 → a_ct S (eM g) (fun t q => tM g (8 * k + t) q) (P k) (H k) t q → tM g (8 * k + t) q
def d_e (S : et_T) (O : Nat → Nat) (g : et_G) (s : Nat) : Prop := ∀ q, q < 32 → l_es S g (O s) s q → eM g s q
end LK
