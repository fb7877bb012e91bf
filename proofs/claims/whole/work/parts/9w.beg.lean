/-! village: where reading begins -/
theorem fil_18 (x : Int32) (g : et_G) : ev_Q (fn_Ja_fill_18 x g) (fun _ g' => fq (fun k _ => k == 18) g g' ∧ ∀ i, i < 46 → g'.1 18 i = x) := by
  unfold fn_Ja_fill_18
  refine lp0 (fun m i (s : et_G) => fn_Ja_fill_18_5 x 46 m i s) (fun o => ev_Q o (fun _ g' => fq (fun k _ => k == 18) g g' ∧ ∀ i, i < 46 → g'.1 18 i = x)) 46 (by omega) (fun k s => fq (fun k _ => k == 18) g s ∧ ∀ i, i < k → s.1 18 i = x) g ⟨fq_r _ _, fun i hi => by omega⟩ ?_ ?_
  · intro m s h
    show ev_Q (fn_Ja_fill_18_5 x 46 (m + 1) (nI 46) s) _
    rw [fn_Ja_fill_18_5, if_pos (by decide)]
    exact ev_r h
  · intro m k s hk ⟨h1, h2⟩ ih
    show ev_Q (fn_Ja_fill_18_5 x 46 (m + 1) (nI k) s) _
    rw [fn_Ja_fill_18_5]
    simp (disch := omega) only [ni_of, ni_le, nI_clamp, ib_e, ck_t, et_b, nI_add]
    rw [if_neg (by omega)]
    refine ih _ ⟨fq_s h1 rfl, fun i hi => ?_⟩
    rw [si_g]
    by_cases e : i = k
    · rw [if_pos ⟨rfl, e⟩]
    · rw [if_neg (fun z => e z.2)]; exact h2 i (by omega)
theorem fil_20 (x : Int32) (g : et_G) : ev_Q (fn_Ja_fill_20 x g) (fun _ g' => fq (fun k _ => k == 20) g g' ∧ ∀ i, i < 6 → g'.1 20 i = x) := by
  unfold fn_Ja_fill_20
  refine lp0 (fun m i (s : et_G) => fn_Ja_fill_20_5 x 6 m i s) (fun o => ev_Q o (fun _ g' => fq (fun k _ => k == 20) g g' ∧ ∀ i, i < 6 → g'.1 20 i = x)) 6 (by omega) (fun k s => fq (fun k _ => k == 20) g s ∧ ∀ i, i < k → s.1 20 i = x) g ⟨fq_r _ _, fun i hi => by omega⟩ ?_ ?_
  · intro m s h
    show ev_Q (fn_Ja_fill_20_5 x 6 (m + 1) (nI 6) s) _
    rw [fn_Ja_fill_20_5, if_pos (by decide)]
    exact ev_r h
  · intro m k s hk ⟨h1, h2⟩ ih
    show ev_Q (fn_Ja_fill_20_5 x 6 (m + 1) (nI k) s) _
    rw [fn_Ja_fill_20_5]
    simp (disch := omega) only [ni_of, ni_le, nI_clamp, ib_e, ck_t, et_b, nI_add]
    rw [if_neg (by omega)]
    refine ih _ ⟨fq_s h1 rfl, fun i hi => ?_⟩
    rw [si_g]
    by_cases e : i = k
    · rw [if_pos ⟨rfl, e⟩]
    · rw [if_neg (fun z => e z.2)]; exact h2 i (by omega)
theorem fil_21 (x : Int32) (g : et_G) : ev_Q (fn_Ja_fill_21 x g) (fun _ g' => fq (fun k _ => k == 21) g g' ∧ ∀ i, i < 144 → g'.1 21 i = x) := by
  unfold fn_Ja_fill_21
  refine lp0 (fun m i (s : et_G) => fn_Ja_fill_21_5 x 144 m i s) (fun o => ev_Q o (fun _ g' => fq (fun k _ => k == 21) g g' ∧ ∀ i, i < 144 → g'.1 21 i = x)) 144 (by omega) (fun k s => fq (fun k _ => k == 21) g s ∧ ∀ i, i < k → s.1 21 i = x) g ⟨fq_r _ _, fun i hi => by omega⟩ ?_ ?_
  · intro m s h
    show ev_Q (fn_Ja_fill_21_5 x 144 (m + 1) (nI 144) s) _
    rw [fn_Ja_fill_21_5, if_pos (by decide)]
    exact ev_r h
  · intro m k s hk ⟨h1, h2⟩ ih
    show ev_Q (fn_Ja_fill_21_5 x 144 (m + 1) (nI k) s) _
    rw [fn_Ja_fill_21_5]
    simp (disch := omega) only [ni_of, ni_le, nI_clamp, ib_e, ck_t, et_b, nI_add]
    rw [if_neg (by omega)]
    refine ih _ ⟨fq_s h1 rfl, fun i hi => ?_⟩
    rw [si_g]
    by_cases e : i = k
    · rw [if_pos ⟨rfl, e⟩]
    · rw [if_neg (fun z => e z.2)]; exact h2 i (by omega)
theorem fil_27 (x : Int32) (g : et_G) : ev_Q (fn_Ja_fill_27 x g) (fun _ g' => fq (fun k _ => k == 27) g g' ∧ ∀ i, i < 10 → g'.1 27 i = x) := by
  unfold fn_Ja_fill_27
  refine lp0 (fun m i (s : et_G) => fn_Ja_fill_27_5 x 10 m i s) (fun o => ev_Q o (fun _ g' => fq (fun k _ => k == 27) g g' ∧ ∀ i, i < 10 → g'.1 27 i = x)) 10 (by omega) (fun k s => fq (fun k _ => k == 27) g s ∧ ∀ i, i < k → s.1 27 i = x) g ⟨fq_r _ _, fun i hi => by omega⟩ ?_ ?_
  · intro m s h
    show ev_Q (fn_Ja_fill_27_5 x 10 (m + 1) (nI 10) s) _
    rw [fn_Ja_fill_27_5, if_pos (by decide)]
    exact ev_r h
  · intro m k s hk ⟨h1, h2⟩ ih
    show ev_Q (fn_Ja_fill_27_5 x 10 (m + 1) (nI k) s) _
    rw [fn_Ja_fill_27_5]
    simp (disch := omega) only [ni_of, ni_le, nI_clamp, ib_e, ck_t, et_b, nI_add]
    rw [if_neg (by omega)]
    refine ih _ ⟨fq_s h1 rfl, fun i hi => ?_⟩
    rw [si_g]
    by_cases e : i = k
    · rw [if_pos ⟨rfl, e⟩]
    · rw [if_neg (fun z => e z.2)]; exact h2 i (by omega)
theorem eb_eq {α β : Type} (x : α) (f : α → β) : et_b x f = f x := rfl
def dC (g : et_G) : Prop := (∀ s, s < 46 → g.1 18 s = nI 0) ∧ g.1 16 2 = nI 0 ∧ g.1 16 3 = nI 0 ∧ g.1 15 1 = nI 1 ∧ g.1 15 3 = nI 0 ∧ g.1 15 5 = nI 0 ∧ g.1 15 11 = nI 0 ∧ g.1 15 9 = nI 0 ∧ g.1 15 10 = nI 0 ∧ (∀ i, i < 6 → g.1 20 i = nI 0) ∧ (∀ i, i < 144 → g.1 21 i = -1) ∧ (∀ i, i < 10 → g.1 27 i = nI 500) ∧ g.1 28 7 = nI 0 ∧ g.1 28 8 = nI 0
def D_0 (j : Nat) : Nat := if j = 30 then 1 else 0
def dM (h : et_G) : Prop := (∀ j, j < 9 → h.1 61 (28 + j) = nI (D_0 (28 + j))) ∧ h.1 76 0 = nI 0 ∧ (∀ i, i < 135 → h.1 74 i = nI 0) ∧ (∀ i, i < 6 → h.1 79 i = nI 0) ∧ (∀ i, i < 144 → h.1 80 i = -1) ∧ (∀ i, i < 10 → h.1 81 i = nI 500)
theorem vV_0 {g h : et_G} (c : dC g) (m : dM h) : vV D_0 g h := by
  obtain ⟨c1, c2, c3, c4, c5, c6, c7, c8, c9, c10, c11, c12, c13, c14⟩ := c
  obtain ⟨m1, m2, m3, m4, m5, m6⟩ := m
  refine ⟨fun j hj => ⟨m1 j hj, fun z => ?_⟩, ⟨by decide, by decide, by decide, by decide, by decide, by decide, by decide, by decide, by decide⟩, ⟨fun s hs p => ⟨0, c1 s hs, ?_, by decide, fun i hi => by omega⟩, 0, by decide, c1 45 (by decide), by decide⟩, fun i hi => ⟨0, by decide, c10 i hi, m4 i hi⟩, fun i hi => Or.inl ⟨c11 i hi, m5 i hi⟩, fun i hi => ⟨500, by decide, c12 i hi, m6 i hi⟩, ⟨fun _ => rfl, fun t ht => absurd (show t < 0 from ht) (Nat.not_lt_zero _), fun t _ => ⟨by rw [c8]; exact bt_n0 t, by rw [c9]; exact bt_n0 t⟩⟩, fun r hr => absurd (show r < 0 from hr) (Nat.not_lt_zero _)⟩
  · match j, hj with
    | 0, _ => exact c2
    | 1, _ => exact c3
    | 2, _ => exact c4
    | 3, _ => exact c5
    | 4, _ => exact c6
    | 5, _ => exact c7
    | 6, _ => exact absurd rfl z
    | 7, _ => exact c13
    | 8, _ => exact c14
    | j + 9, hj => omega
  · have p : s < 0 ∨ (12 ≤ s ∧ s < 27) ∨ (27 ≤ s ∧ s < 27 + 3 * 0) ∨ s = 45 := p
    rcases sKO s hs with ⟨z, k1, k2⟩ | ⟨z, z', k1, k2⟩ | ⟨z, z', k1, k2⟩ | ⟨z, k1, k2⟩
    · omega
    · rw [k1, k2]; exact m3 _ (by omega)
    · omega
    · rw [k1, k2]; exact m2
section BE
variable {S : et_T} {n : Nat}
theorem rd_b {g : et_G} (hn : n ≤ 800) (ht : ∀ j, j < 800 → g.1 1 j = c8 (S 71 j)) (J : Jb g) : ∃ g', fn_Re_read_15 (nI n) g = fn_Re_read_15_47 1000000 1 (nI 0) g' ∧ kC S n 0 g g' ∧ dC g' := by
  unfold fn_Re_read_15
  rw [if_neg (show ¬ (800 : Int32) < nI n from nI_nlt (a := 800) hn (by decide))]
  have f0 : fq (fun k j => k == 28) g (et_si (et_si (et_si (et_si (et_si (et_si g 28 1 (nI n)) 28 2 0) 28 7 0) 28 8 0) 28 9 0) 28 10 (-1)) := fq_s (fq_s (fq_s (fq_s (fq_s (fq_s (fq_r _ _) rfl) rfl) rfl) rfl) rfl) rfl
  have k1 : (et_si (et_si (et_si (et_si (et_si (et_si g 28 1 (nI n)) 28 2 0) 28 7 0) 28 8 0) 28 9 0) 28 10 (-1)).1 28 1 = nI n := by rw [si_j (by decide), si_j (by decide), si_j (by decide), si_j (by decide), si_j (by decide), si_e]
  have k2 : (et_si (et_si (et_si (et_si (et_si (et_si g 28 1 (nI n)) 28 2 0) 28 7 0) 28 8 0) 28 9 0) 28 10 (-1)).1 28 2 = nI 0 := by rw [si_j (by decide), si_j (by decide), si_j (by decide), si_j (by decide), si_e]; rfl
  have k7 : (et_si (et_si (et_si (et_si (et_si (et_si g 28 1 (nI n)) 28 2 0) 28 7 0) 28 8 0) 28 9 0) 28 10 (-1)).1 28 7 = nI 0 := by rw [si_j (by decide), si_j (by decide), si_j (by decide), si_e]; rfl
  have k8 : (et_si (et_si (et_si (et_si (et_si (et_si g 28 1 (nI n)) 28 2 0) 28 7 0) 28 8 0) 28 9 0) 28 10 (-1)).1 28 8 = nI 0 := by rw [si_j (by decide), si_j (by decide), si_e]; rfl
  have k9 : (et_si (et_si (et_si (et_si (et_si (et_si g 28 1 (nI n)) 28 2 0) 28 7 0) 28 8 0) 28 9 0) 28 10 (-1)).1 28 9 = nI 0 := by rw [si_j (by decide), si_e]; rfl
  have k10 : (et_si (et_si (et_si (et_si (et_si (et_si g 28 1 (nI n)) 28 2 0) 28 7 0) 28 8 0) 28 9 0) 28 10 (-1)).1 28 10 = -1 := si_e
  rw [eb_eq, eb_eq, eb_eq, eb_eq, eb_eq, eb_eq]
  generalize et_si (et_si (et_si (et_si (et_si (et_si g 28 1 (nI n)) 28 2 0) 28 7 0) 28 8 0) 28 9 0) 28 10 (-1) = ga at f0 k1 k2 k7 k8 k9 k10
  unfold fn_Tw_clear_15 fn_To_clear_16
  obtain ⟨x1, g1, E1, f1, v1⟩ := fil_18 0 ga
  rw [E1, bd_s, eb_eq, eb_eq, bd_s, eb_eq, eb_eq, eb_eq, eb_eq, eb_eq, eb_eq]
  have w0 : fq (fun k j => (k == 16 && (j == 2 || j == 3)) || (k == 15 && (j == 1 || j == 3 || j == 5 || j == 9 || j == 10 || j == 11))) g1 (et_si (et_si (et_si (et_si (et_si (et_si (et_si (et_si g1 16 2 0) 16 3 0) 15 1 1) 15 3 0) 15 5 0) 15 11 0) 15 9 0) 15 10 0) := fq_s (fq_s (fq_s (fq_s (fq_s (fq_s (fq_s (fq_s (fq_r _ _) rfl) rfl) rfl) rfl) rfl) rfl) rfl) rfl
  have a1 : (et_si (et_si (et_si (et_si (et_si (et_si (et_si (et_si g1 16 2 0) 16 3 0) 15 1 1) 15 3 0) 15 5 0) 15 11 0) 15 9 0) 15 10 0).1 16 2 = nI 0 := by rw [si_x (by decide), si_x (by decide), si_x (by decide), si_x (by decide), si_x (by decide), si_x (by decide), si_j (by decide), si_e]; rfl
  have a2 : (et_si (et_si (et_si (et_si (et_si (et_si (et_si (et_si g1 16 2 0) 16 3 0) 15 1 1) 15 3 0) 15 5 0) 15 11 0) 15 9 0) 15 10 0).1 16 3 = nI 0 := by rw [si_x (by decide), si_x (by decide), si_x (by decide), si_x (by decide), si_x (by decide), si_x (by decide), si_e]; rfl
  have a3 : (et_si (et_si (et_si (et_si (et_si (et_si (et_si (et_si g1 16 2 0) 16 3 0) 15 1 1) 15 3 0) 15 5 0) 15 11 0) 15 9 0) 15 10 0).1 15 1 = nI 1 := by rw [si_j (by decide), si_j (by decide), si_j (by decide), si_j (by decide), si_j (by decide), si_e]; rfl
  have a4 : (et_si (et_si (et_si (et_si (et_si (et_si (et_si (et_si g1 16 2 0) 16 3 0) 15 1 1) 15 3 0) 15 5 0) 15 11 0) 15 9 0) 15 10 0).1 15 3 = nI 0 := by rw [si_j (by decide), si_j (by decide), si_j (by decide), si_j (by decide), si_e]; rfl
  have a5 : (et_si (et_si (et_si (et_si (et_si (et_si (et_si (et_si g1 16 2 0) 16 3 0) 15 1 1) 15 3 0) 15 5 0) 15 11 0) 15 9 0) 15 10 0).1 15 5 = nI 0 := by rw [si_j (by decide), si_j (by decide), si_j (by decide), si_e]; rfl
  have a6 : (et_si (et_si (et_si (et_si (et_si (et_si (et_si (et_si g1 16 2 0) 16 3 0) 15 1 1) 15 3 0) 15 5 0) 15 11 0) 15 9 0) 15 10 0).1 15 11 = nI 0 := by rw [si_j (by decide), si_j (by decide), si_e]; rfl
  have a7 : (et_si (et_si (et_si (et_si (et_si (et_si (et_si (et_si g1 16 2 0) 16 3 0) 15 1 1) 15 3 0) 15 5 0) 15 11 0) 15 9 0) 15 10 0).1 15 9 = nI 0 := by rw [si_j (by decide), si_e]; rfl
  have a8 : (et_si (et_si (et_si (et_si (et_si (et_si (et_si (et_si g1 16 2 0) 16 3 0) 15 1 1) 15 3 0) 15 5 0) 15 11 0) 15 9 0) 15 10 0).1 15 10 = nI 0 := by rw [si_e]; rfl
  generalize et_si (et_si (et_si (et_si (et_si (et_si (et_si (et_si g1 16 2 0) 16 3 0) 15 1 1) 15 3 0) 15 5 0) 15 11 0) 15 9 0) 15 10 0 = gb at w0 a1 a2 a3 a4 a5 a6 a7 a8
  obtain ⟨x2, g2, E2, f2, v2⟩ := fil_20 0 gb
  obtain ⟨x3, g3, E3, f3, v3⟩ := fil_21 (-1) g2
  obtain ⟨x4, g4, E4, f4, v4⟩ := fil_27 500 g3
  rw [E2, bd_s, E3, bd_s, E4, bd_s, bd_s]
  have O : ∀ k j, (k == 28 || k == 18 || k == 16 || k == 15 || k == 20 || k == 21 || k == 27) = false → g4.1 k j = g.1 k j := fun k j hk => by
    simp only [Bool.or_eq_false_iff] at hk
    obtain ⟨⟨⟨⟨⟨⟨z1, z2⟩, z3⟩, z4⟩, z5⟩, z6⟩, z7⟩ := hk
    rw [f4.1 k j z7, f3.1 k j z6, f2.1 k j z5, w0.1 k j (by simp only [z3, z4, Bool.false_and, Bool.or_self]), f1.1 k j z2, f0.1 k j z1]
  have P : ∀ k j, (k == 15 || k == 16) = true → g4.1 k j = gb.1 k j := fun k j hk => by
    simp only [Bool.or_eq_true, beq_iff_eq] at hk
    rcases hk with rfl | rfl
    · rw [f4.1 15 j rfl, f3.1 15 j rfl, f2.1 15 j rfl]
    · rw [f4.1 16 j rfl, f3.1 16 j rfl, f2.1 16 j rfl]
  have Q : ∀ j, g4.1 28 j = ga.1 28 j := fun j => by rw [f4.1 28 j rfl, f3.1 28 j rfl, f2.1 28 j rfl, w0.1 28 j rfl, f1.1 28 j rfl]
  refine ⟨g4, rfl, ⟨⟨fun k j hk => ?_, ?_⟩, fun j hj => by rw [O 1 j rfl]; exact ht j hj, by rw [Q]; exact k1, by rw [Q]; exact k2, Nat.zero_le _, by rw [Q]; exact k9, by rw [Q]; exact k10, ⟨0, by decide, by rw [P 15 3 rfl]; exact a4⟩, fun j hj => by rw [O 17 j rfl]; exact J j hj⟩, fun s hs => ?_, ?_, ?_, ?_, ?_, ?_, ?_, ?_, ?_, fun i hi => ?_, fun i hi => ?_, fun i hi => ?_, ?_, ?_⟩
  · refine O k j ?_
    cases z : (k == 28 || k == 18 || k == 16 || k == 15 || k == 20 || k == 21 || k == 27) with
    | false => rfl
    | true =>
      simp only [Bool.or_eq_true, beq_iff_eq] at z
      unfold w_rd at hk
      rcases z with (((((z | z) | z) | z) | z) | z) | z <;> rw [z] at hk <;> cases hk
  · rw [f4.2, f3.2, f2.2, w0.2, f1.2, f0.2]
  · rw [f4.1 18 s rfl, f3.1 18 s rfl, f2.1 18 s rfl, w0.1 18 s rfl]; exact v1 s hs
  · rw [P 16 2 rfl]; exact a1
  · rw [P 16 3 rfl]; exact a2
  · rw [P 15 1 rfl]; exact a3
  · rw [P 15 3 rfl]; exact a4
  · rw [P 15 5 rfl]; exact a5
  · rw [P 15 11 rfl]; exact a6
  · rw [P 15 9 rfl]; exact a7
  · rw [P 15 10 rfl]; exact a8
  · rw [f4.1 20 i rfl, f3.1 20 i rfl]; exact v2 i hi
  · rw [f4.1 21 i rfl]; exact v3 i hi
  · exact v4 i hi
  · rw [Q]; exact k7
  · rw [Q]; exact k8
theorem em_119 (h : et_G) : ev_Q (fn_Mo_empties_119 1000000 0 h) (fun _ h' => fq (fun k _ => k == 81) h h' ∧ ∀ i, i < 10 → h'.1 81 i = nI 500) := by
  refine lp0 (fun m i (s : et_G) => fn_Mo_empties_119 m i s) (fun o => ev_Q o (fun _ h' => fq (fun k _ => k == 81) h h' ∧ ∀ i, i < 10 → h'.1 81 i = nI 500)) 10 (by omega) (fun k s => fq (fun k _ => k == 81) h s ∧ ∀ i, i < k → s.1 81 i = nI 500) h ⟨fq_r _ _, fun i hi => by omega⟩ ?_ ?_
  · intro m s p
    show ev_Q (fn_Mo_empties_119 (m + 1) (nI 10) s) _
    rw [fn_Mo_empties_119, if_pos (by decide)]
    exact ev_r p
  · intro m k s hk ⟨h1, h2⟩ ih
    show ev_Q (fn_Mo_empties_119 (m + 1) (nI k) s) _
    rw [fn_Mo_empties_119, if_neg (show ¬ (10 : Int32) ≤ nI k from nI_ge (b := 10) hk (by decide)), ib_e k 10 hk (by decide), ck_t, nI_clamp (by omega), show nI k + (1 : Int32) = nI (k + 1) from nI_add _ 1]
    refine ih _ ⟨fq_s h1 rfl, fun i hi => ?_⟩
    by_cases e : i = k
    · rw [e, si_e]; rfl
    · rw [si_j e]; exact h2 i (by omega)
theorem em_97 (h : et_G) : ev_Q (fn_Mo_empties_97 1000000 0 h) (fun _ h' => fq (fun k _ => k == 80 || k == 81) h h' ∧ (∀ i, i < 144 → h'.1 80 i = -1) ∧ ∀ i, i < 10 → h'.1 81 i = nI 500) := by
  refine lp0 (fun m i (s : et_G) => fn_Mo_empties_97 m i s) (fun o => ev_Q o (fun _ h' => fq (fun k _ => k == 80 || k == 81) h h' ∧ (∀ i, i < 144 → h'.1 80 i = -1) ∧ ∀ i, i < 10 → h'.1 81 i = nI 500)) 144 (by omega) (fun k s => fq (fun k _ => k == 80) h s ∧ ∀ i, i < k → s.1 80 i = -1) h ⟨fq_r _ _, fun i hi => by omega⟩ ?_ ?_
  · intro m s ⟨p1, p2⟩
    show ev_Q (fn_Mo_empties_97 (m + 1) (nI 144) s) _
    rw [fn_Mo_empties_97, if_pos (by decide)]
    refine ev_w (em_119 s) (fun _ h' ⟨w1, w2⟩ => ⟨fq_t (fq_w p1 (fun k j e => (Bool.or_eq_false_iff.mp e).1)) (fq_w w1 (fun k j e => (Bool.or_eq_false_iff.mp e).2)), fun i hi => ?_, w2⟩)
    rw [w1.1 80 i rfl]; exact p2 i hi
  · intro m k s hk ⟨h1, h2⟩ ih
    show ev_Q (fn_Mo_empties_97 (m + 1) (nI k) s) _
    rw [fn_Mo_empties_97, if_neg (show ¬ (144 : Int32) ≤ nI k from nI_ge (b := 144) hk (by decide)), ib_e k 144 hk (by decide), ck_t, nI_clamp (by omega), show nI k + (1 : Int32) = nI (k + 1) from nI_add _ 1]
    refine ih _ ⟨fq_s h1 rfl, fun i hi => ?_⟩
    by_cases e : i = k
    · rw [e, si_e]
    · rw [si_j e]; exact h2 i (by omega)
theorem em_76 (h : et_G) : ev_Q (fn_Mo_empties_76 1000000 0 h) (fun _ h' => fq (fun k _ => k == 79 || (k == 80 || k == 81)) h h' ∧ (∀ i, i < 6 → h'.1 79 i = nI 0) ∧ (∀ i, i < 144 → h'.1 80 i = -1) ∧ ∀ i, i < 10 → h'.1 81 i = nI 500) := by
  refine lp0 (fun m i (s : et_G) => fn_Mo_empties_76 m i s) (fun o => ev_Q o (fun _ h' => fq (fun k _ => k == 79 || (k == 80 || k == 81)) h h' ∧ (∀ i, i < 6 → h'.1 79 i = nI 0) ∧ (∀ i, i < 144 → h'.1 80 i = -1) ∧ ∀ i, i < 10 → h'.1 81 i = nI 500)) 6 (by omega) (fun k s => fq (fun k _ => k == 79) h s ∧ ∀ i, i < k → s.1 79 i = nI 0) h ⟨fq_r _ _, fun i hi => by omega⟩ ?_ ?_
  · intro m s ⟨p1, p2⟩
    show ev_Q (fn_Mo_empties_76 (m + 1) (nI 6) s) _
    rw [fn_Mo_empties_76, if_pos (by decide)]
    refine ev_w (em_97 s) (fun _ h' ⟨w1, w2⟩ => ⟨fq_t (fq_w p1 (fun k j e => (Bool.or_eq_false_iff.mp e).1)) (fq_w w1 (fun k j e => (Bool.or_eq_false_iff.mp e).2)), fun i hi => ?_, w2⟩)
    rw [w1.1 79 i rfl]; exact p2 i hi
  · intro m k s hk ⟨h1, h2⟩ ih
    show ev_Q (fn_Mo_empties_76 (m + 1) (nI k) s) _
    rw [fn_Mo_empties_76, if_neg (show ¬ (6 : Int32) ≤ nI k from nI_ge (b := 6) hk (by decide)), ib_e k 6 hk (by decide), ck_t, nI_clamp (by omega), show nI k + (1 : Int32) = nI (k + 1) from nI_add _ 1]
    refine ih _ ⟨fq_s h1 rfl, fun i hi => ?_⟩
    by_cases e : i = k
    · rw [e, si_e]; rfl
    · rw [si_j e]; exact h2 i (by omega)
theorem em_54 (h : et_G) : ev_Q (fn_Mo_empties_54 1000000 0 h) (fun _ h' => fq (fun k _ => k == 74 || (k == 79 || (k == 80 || k == 81))) h h' ∧ (∀ i, i < 135 → h'.1 74 i = nI 0) ∧ (∀ i, i < 6 → h'.1 79 i = nI 0) ∧ (∀ i, i < 144 → h'.1 80 i = -1) ∧ ∀ i, i < 10 → h'.1 81 i = nI 500) := by
  refine lp0 (fun m i (s : et_G) => fn_Mo_empties_54 m i s) (fun o => ev_Q o (fun _ h' => fq (fun k _ => k == 74 || (k == 79 || (k == 80 || k == 81))) h h' ∧ (∀ i, i < 135 → h'.1 74 i = nI 0) ∧ (∀ i, i < 6 → h'.1 79 i = nI 0) ∧ (∀ i, i < 144 → h'.1 80 i = -1) ∧ ∀ i, i < 10 → h'.1 81 i = nI 500)) 135 (by omega) (fun k s => fq (fun k _ => k == 74) h s ∧ ∀ i, i < k → s.1 74 i = nI 0) h ⟨fq_r _ _, fun i hi => by omega⟩ ?_ ?_
  · intro m s ⟨p1, p2⟩
    show ev_Q (fn_Mo_empties_54 (m + 1) (nI 135) s) _
    rw [fn_Mo_empties_54, if_pos (by decide)]
    refine ev_w (em_76 s) (fun _ h' ⟨w1, w2⟩ => ⟨fq_t (fq_w p1 (fun k j e => (Bool.or_eq_false_iff.mp e).1)) (fq_w w1 (fun k j e => (Bool.or_eq_false_iff.mp e).2)), fun i hi => ?_, w2⟩)
    rw [w1.1 74 i rfl]; exact p2 i hi
  · intro m k s hk ⟨h1, h2⟩ ih
    show ev_Q (fn_Mo_empties_54 (m + 1) (nI k) s) _
    rw [fn_Mo_empties_54, if_neg (show ¬ (135 : Int32) ≤ nI k from nI_ge (b := 135) hk (by decide)), ib_e k 135 hk (by decide), ck_t, nI_clamp (by omega), show nI k + (1 : Int32) = nI (k + 1) from nI_add _ 1]
    refine ih _ ⟨fq_s h1 rfl, fun i hi => ?_⟩
    by_cases e : i = k
    · rw [e, si_e]; rfl
    · rw [si_j e]; exact h2 i (by omega)
def w_em (k j : Nat) : Bool := (k == 61 && (Nat.ble 28 j && Nat.ble j 36)) || (Nat.ble 74 k && Nat.ble k 81)
theorem em_c (h : et_G) : ev_Q (fn_Mo_empties h) (fun _ h' => fq w_em h h' ∧ dM h') := by
  unfold fn_Mo_empties
  have f0 : fq w_em h (et_si (et_si (et_si (et_si (et_si (et_si (et_si (et_si (et_si (et_si h 61 28 0) 61 29 0) 61 30 1) 61 31 0) 61 32 0) 61 33 0) 61 34 0) 61 35 0) 61 36 0) 76 0 0) := fq_s (fq_s (fq_s (fq_s (fq_s (fq_s (fq_s (fq_s (fq_s (fq_s (fq_r _ _) rfl) rfl) rfl) rfl) rfl) rfl) rfl) rfl) rfl) rfl
  have d0 : ∀ j, j < 9 → (et_si (et_si (et_si (et_si (et_si (et_si (et_si (et_si (et_si (et_si h 61 28 0) 61 29 0) 61 30 1) 61 31 0) 61 32 0) 61 33 0) 61 34 0) 61 35 0) 61 36 0) 76 0 0).1 61 (28 + j) = nI (D_0 (28 + j)) := fun j hj => by
    match j, hj with
    | 0, _ => rfl
    | 1, _ => rfl
    | 2, _ => rfl
    | 3, _ => rfl
    | 4, _ => rfl
    | 5, _ => rfl
    | 6, _ => rfl
    | 7, _ => rfl
    | 8, _ => rfl
    | j + 9, hj => omega
  have d1 : (et_si (et_si (et_si (et_si (et_si (et_si (et_si (et_si (et_si (et_si h 61 28 0) 61 29 0) 61 30 1) 61 31 0) 61 32 0) 61 33 0) 61 34 0) 61 35 0) 61 36 0) 76 0 0).1 76 0 = nI 0 := by rw [si_e]; rfl
  rw [eb_eq, eb_eq, eb_eq, eb_eq, eb_eq, eb_eq, eb_eq, eb_eq, eb_eq, show et_ib (0 : Int32) 9 = true from rfl, ck_t, eb_eq, show (0 : Int32).toNatClampNeg = 0 from rfl]
  generalize et_si (et_si (et_si (et_si (et_si (et_si (et_si (et_si (et_si (et_si h 61 28 0) 61 29 0) 61 30 1) 61 31 0) 61 32 0) 61 33 0) 61 34 0) 61 35 0) 61 36 0) 76 0 0 = ha at f0 d0 d1
  refine ev_w (em_54 ha) (fun _ h' ⟨w, v1, v2, v3, v4⟩ => ⟨fq_t f0 (fq_w w (fun k j e => ?_)), fun j hj => ?_, ?_, v1, v2, v3, v4⟩)
  · cases z : (k == 74 || (k == 79 || (k == 80 || k == 81))) with
    | false => rfl
    | true =>
      simp only [Bool.or_eq_true, beq_iff_eq] at z
      unfold w_em at e
      rcases z with z | z | z | z <;> rw [z] at e <;> cases e
  · rw [w.1 61 _ rfl]; exact d0 j hj
  · rw [w.1 76 0 rfl]; exact d1
end BE
