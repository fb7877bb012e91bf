/-! village: the hours filled, the rows copied -/
def pl (A : Nat → Int32) (p : Nat) : Nat → Int32
  | 0 => nI 0
  | j + 1 => if A (24 * p + j) = -1 then pl A p j else A (24 * p + j)
theorem pl_c {A B : Nat → Int32} {p : Nat} (hp : p < 6) (h : ∀ i, i < 144 → A i = B i) : ∀ j, j ≤ 24 → pl A p j = pl B p j := by
  intro j
  induction j with
  | zero => intro _; rfl
  | succ j ih => intro hj; unfold pl; rw [ih (by omega), h _ (by omega)]
theorem pl_b {A : Nat → Int32} {p m : Nat} (hp : p < 6) (hm : 1 ≤ m) (h : ∀ i, i < 144 → A i = -1 ∨ ∃ x, x < m ∧ A i = nI x) : ∀ j, j ≤ 24 → ∃ x, x < m ∧ pl A p j = nI x := by
  intro j
  induction j with
  | zero => intro _; exact ⟨0, by omega, rfl⟩
  | succ j ih =>
    intro hj
    unfold pl
    by_cases e : A (24 * p + j) = -1
    · rw [if_pos e]; exact ih (by omega)
    · rw [if_neg e]
      exact (h _ (by omega)).elim (fun z => absurd z e) id
section FH
theorem fh_14 {A : Nat → Int32} {p : Nat} (hp : p < 6) (R : Int32 → et_G → Option (Unit × et_G)) : ∀ d m j (g : et_G), j + d = 24 → d < m → (∀ i, 24 * p + j ≤ i → i < 144 → g.1 21 i = A i) → ∃ g', fn_Tw_fillHours_15_14 R (nI p) m (pl A p j) (nI j) g = R (nI (p + 1)) g' ∧ fq (fun k _ => k == 21) g g' ∧ (∀ i, j ≤ i → i < 24 → g'.1 21 (24 * p + i) = pl A p (i + 1)) ∧ (∀ i, (i < 24 * p + j ∨ 24 * p + 24 ≤ i) → g'.1 21 i = g.1 21 i) := by
  intro d
  induction d with
  | zero =>
    intro m j g hj hm hA
    obtain ⟨m, rfl⟩ : ∃ q, m = q + 1 := ⟨m - 1, by omega⟩
    rw [fn_Tw_fillHours_15_14, if_pos (show (24 : Int32) ≤ nI j from nI_le (a := 24) (by omega) (by omega)), eb_eq, show nI p + (1 : Int32) = nI (p + 1) from nI_add _ 1]
    exact ⟨g, rfl, fq_r _ _, fun i h1 h2 => by omega, fun i _ => rfl⟩
  | succ d ih =>
    intro m j g hj hm hA
    obtain ⟨m, rfl⟩ : ∃ q, m = q + 1 := ⟨m - 1, by omega⟩
    rw [fn_Tw_fillHours_15_14, if_neg (show ¬ (24 : Int32) ≤ nI j from nI_ge (b := 24) (by omega) (by decide)), eb_eq, show nI p * (24 : Int32) + nI j = nI (24 * p + j) from by rw [show (24 : Int32) = nI 24 from rfl, pk_mul, nI_add, Nat.mul_comm], ib_e (24 * p + j) 144 (by omega) (by decide), ck_t, ck_t, nI_clamp (by omega), hA _ (Nat.le_refl _) (by omega)]
    unfold fn_Tw_fillHours_15_47
    rw [ib_e (24 * p + j) 144 (by omega) (by decide), ck_t, nI_clamp (by omega), show nI j + (1 : Int32) = nI (j + 1) from nI_add _ 1]
    by_cases e : A (24 * p + j) = -1
    · rw [if_pos e, eb_eq, ck_t, eb_eq, eb_eq, si_e]
      obtain ⟨g', E, f, v, o⟩ := ih m (j + 1) (et_si g 21 (24 * p + j) (pl A p j)) (by omega) (by omega) (fun i h1 h2 => by rw [si_j (by omega)]; exact hA i (by omega) h2)
      have ep : pl A p (j + 1) = pl A p j := by rw [pl, if_pos e]
      rw [ep] at E
      refine ⟨g', E, fq_t (fq_s (fq_r _ _) rfl) f, fun i h1 h2 => ?_, fun i hi => ?_⟩
      · by_cases z : i = j
        · subst z; rw [o _ (by omega), si_e, ep]
        · exact v i (by omega) h2
      · rw [o i (by omega), si_j (by omega)]
    · rw [if_neg e, eb_eq, eb_eq, hA _ (Nat.le_refl _) (by omega)]
      obtain ⟨g', E, f, v, o⟩ := ih m (j + 1) g (by omega) (by omega) (fun i h1 h2 => hA i (by omega) h2)
      have ep : pl A p (j + 1) = A (24 * p + j) := by rw [pl, if_neg e]
      rw [ep] at E
      refine ⟨g', E, f, fun i h1 h2 => ?_, fun i hi => ?_⟩
      · by_cases z : i = j
        · subst z; rw [o _ (by omega), ep]; exact hA _ (Nat.le_refl _) (by omega)
        · exact v i (by omega) h2
      · rw [o i (by omega)]
theorem fh_2 {A : Nat → Int32} {q : Nat} (hq : q ≤ 6) : ∀ d m p (g : et_G), p + d = q → d < m → g.1 15 3 = nI q → (∀ i, 24 * p ≤ i → i < 144 → g.1 21 i = A i) → ev_Q (fn_Tw_fillHours_15_2 m (nI p) g) (fun _ g' => fq (fun k _ => k == 21) g g' ∧ (∀ p', p ≤ p' → p' < q → ∀ j, j < 24 → g'.1 21 (24 * p' + j) = pl A p' (j + 1)) ∧ ∀ i, i < 24 * p → g'.1 21 i = g.1 21 i) := by
  intro d
  induction d with
  | zero =>
    intro m p g hp hm h3 hA
    obtain ⟨m, rfl⟩ : ∃ q, m = q + 1 := ⟨m - 1, by omega⟩
    rw [fn_Tw_fillHours_15_2, h3, if_pos (nI_le (by omega) (by omega))]
    exact ev_r ⟨fq_r _ _, fun p' h1 h2 => by omega, fun _ _ => rfl⟩
  | succ d ih =>
    intro m p g hp hm h3 hA
    obtain ⟨m, rfl⟩ : ∃ q, m = q + 1 := ⟨m - 1, by omega⟩
    rw [fn_Tw_fillHours_15_2, h3, if_neg (nI_ge (by omega) (by omega))]
    obtain ⟨g1, E, f, v, o⟩ := fh_14 (A := A) (p := p) (by omega) (fun z1 g => fn_Tw_fillHours_15_2 m z1 g) 24 1000000 0 g rfl (by omega) (fun i h1 h2 => hA i (by omega) h2)
    rw [show fn_Tw_fillHours_15_14 (fun z1 g => fn_Tw_fillHours_15_2 m z1 g) (nI p) 1000000 0 0 g = _ from E]
    refine ev_w (ih m (p + 1) g1 (by omega) (by omega) ((f.1 15 3 rfl).trans h3) (fun i h1 h2 => by rw [o i (by omega)]; exact hA i (by omega) h2)) (fun _ g' ⟨w1, w2, w3⟩ => ⟨fq_t f w1, fun p' h1 h2 j hj => ?_, fun i hi => ?_⟩)
    · by_cases z : p' = p
      · subst z; rw [w3 _ (by omega)]; exact v j (by omega) hj
      · exact w2 p' (by omega) h2 j hj
    · rw [w3 i (by omega), o i (by omega)]
theorem fh_c {q : Nat} {g : et_G} (hq : q ≤ 6) (h3 : g.1 15 3 = nI q) : ev_Q (fn_Tw_fillHours_15 g) (fun _ g' => fq (fun k _ => k == 21) g g' ∧ ∀ p, p < q → ∀ j, j < 24 → g'.1 21 (24 * p + j) = pl (g.1 21) p (j + 1)) := by
  unfold fn_Tw_fillHours_15
  exact ev_w (fh_2 (A := g.1 21) hq q 1000000 0 g (by omega) (by omega) h3 (fun _ _ _ => rfl)) (fun _ g' ⟨w1, w2, _⟩ => ⟨w1, fun p hp => w2 p (by omega) hp⟩)
theorem vm_265 {A : Nat → Int32} {p : Nat} (hp : p < 6) (R : Int32 → et_G → Option (Int32 × et_G)) : ∀ d m j (g : et_G), j + d = 24 → d < m → g.1 80 = A → ∃ g', fn_Mo_village_265 R (nI p) m (pl A p j) (nI j) g = R (nI (p + 1)) g' ∧ fq (fun k _ => k == 69) g g' ∧ (∀ i, j ≤ i → i < 24 → g'.1 69 (24 * p + i) = pl A p (i + 1)) ∧ (∀ i, (i < 24 * p + j ∨ 24 * p + 24 ≤ i) → g'.1 69 i = g.1 69 i) := by
  intro d
  induction d with
  | zero =>
    intro m j g hj hm hA
    obtain ⟨m, rfl⟩ : ∃ q, m = q + 1 := ⟨m - 1, by omega⟩
    rw [fn_Mo_village_265, if_pos (show (24 : Int32) ≤ nI j from nI_le (a := 24) (by omega) (by omega)), eb_eq, show nI p + (1 : Int32) = nI (p + 1) from nI_add _ 1]
    exact ⟨g, rfl, fq_r _ _, fun i h1 h2 => by omega, fun i _ => rfl⟩
  | succ d ih =>
    intro m j g hj hm hA
    obtain ⟨m, rfl⟩ : ∃ q, m = q + 1 := ⟨m - 1, by omega⟩
    have X : ∀ x, x = pl A p (j + 1) → ∃ g', fn_Mo_village_304 R (fun z3 z4 g => fn_Mo_village_265 R (nI p) m z3 z4 g) (nI p) (nI j) x g = R (nI (p + 1)) g' ∧ fq (fun k _ => k == 69) g g' ∧ (∀ i, j ≤ i → i < 24 → g'.1 69 (24 * p + i) = pl A p (i + 1)) ∧ (∀ i, (i < 24 * p + j ∨ 24 * p + 24 ≤ i) → g'.1 69 i = g.1 69 i) := fun x hx => by
      subst hx
      unfold fn_Mo_village_304
      rw [show (24 : Int32) * nI p + nI j = nI (24 * p + j) from by rw [show (24 : Int32) = nI 24 from rfl, pk_mul, nI_add], ib_e (24 * p + j) 144 (by omega) (by decide), ck_t, nI_clamp (by omega), eb_eq, eb_eq, show nI j + (1 : Int32) = nI (j + 1) from nI_add _ 1]
      obtain ⟨g', E, f, v, o⟩ := ih m (j + 1) (et_si g 69 (24 * p + j) (pl A p (j + 1))) (by omega) (by omega) (by rw [← hA]; funext i; rw [si_x (by decide)])
      refine ⟨g', E, fq_t (fq_s (fq_r _ _) rfl) f, fun i h1 h2 => ?_, fun i hi => ?_⟩
      · by_cases z : i = j
        · subst z; rw [o _ (by omega), si_e]
        · exact v i (by omega) h2
      · rw [o i (by omega), si_j (by omega)]
    rw [fn_Mo_village_265, if_neg (show ¬ (24 : Int32) ≤ nI j from nI_ge (b := 24) (by omega) (by decide)), show (24 : Int32) * nI p + nI j = nI (24 * p + j) from by rw [show (24 : Int32) = nI 24 from rfl, pk_mul, nI_add], ib_e (24 * p + j) 144 (by omega) (by decide), ck_t, ck_t, nI_clamp (by omega), hA]
    by_cases e : A (24 * p + j) = -1
    · rw [if_pos e]; exact X _ (by rw [pl, if_pos e])
    · rw [if_neg e]; exact X _ (by rw [pl, if_neg e])
theorem vm_254 {A : Nat → Int32} : ∀ d m p (g : et_G), p + d = 6 → d < m → g.1 80 = A → ∃ g', fn_Mo_village_254 m (nI p) g = fn_Mo_village_330 g' ∧ fq (fun k _ => k == 69) g g' ∧ (∀ p', p ≤ p' → p' < 6 → ∀ j, j < 24 → g'.1 69 (24 * p' + j) = pl A p' (j + 1)) ∧ ∀ i, i < 24 * p → g'.1 69 i = g.1 69 i := by
  intro d
  induction d with
  | zero =>
    intro m p g hp hm hA
    obtain ⟨m, rfl⟩ : ∃ q, m = q + 1 := ⟨m - 1, by omega⟩
    rw [fn_Mo_village_254, if_pos (show (6 : Int32) ≤ nI p from nI_le (a := 6) (by omega) (by omega))]
    exact ⟨g, rfl, fq_r _ _, fun p' h1 h2 => by omega, fun _ _ => rfl⟩
  | succ d ih =>
    intro m p g hp hm hA
    obtain ⟨m, rfl⟩ : ∃ q, m = q + 1 := ⟨m - 1, by omega⟩
    rw [fn_Mo_village_254, if_neg (show ¬ (6 : Int32) ≤ nI p from nI_ge (b := 6) (by omega) (by decide))]
    obtain ⟨g1, E, f, v, o⟩ := vm_265 (A := A) (p := p) (by omega) (fun z2 g => fn_Mo_village_254 m z2 g) 24 1000000 0 g rfl (by omega) hA
    rw [show fn_Mo_village_265 (fun z2 g => fn_Mo_village_254 m z2 g) (nI p) 1000000 0 0 g = _ from E]
    obtain ⟨g', E2, w1, w2, w3⟩ := ih m (p + 1) g1 (by omega) (by omega) ((fq_row f (fun _ => rfl)).trans hA)
    refine ⟨g', E2, fq_t f w1, fun p' h1 h2 j hj => ?_, fun i hi => ?_⟩
    · by_cases z : p' = p
      · subst z; rw [w3 _ (by omega)]; exact v j (by omega) hj
      · exact w2 p' (by omega) h2 j hj
    · rw [w3 i (by omega), o i (by omega)]
theorem cy_73 (h : et_G) : ev_Q (fn_Mo_copies_73_62 h) (fun _ h' => fq (fun k _ => k == 62) h h' ∧ ∀ i, i < 108 → h'.1 62 i = h.1 73 i) := by
  unfold fn_Mo_copies_73_62
  refine lp0 (fun m i (s : et_G) => fn_Mo_copies_73_62_2 m i s) (fun o => ev_Q o (fun _ h' => fq (fun k _ => k == 62) h h' ∧ ∀ i, i < 108 → h'.1 62 i = h.1 73 i)) 108 (by omega) (fun k s => fq (fun k _ => k == 62) h s ∧ ∀ i, i < k → s.1 62 i = h.1 73 i) h ⟨fq_r _ _, fun i hi => by omega⟩ ?_ ?_
  · intro m s p
    show ev_Q (fn_Mo_copies_73_62_2 (m + 1) (nI 108) s) _
    rw [fn_Mo_copies_73_62_2, if_pos (by decide)]
    exact ev_r p
  · intro m k s hk ⟨h1, h2⟩ ih
    show ev_Q (fn_Mo_copies_73_62_2 (m + 1) (nI k) s) _
    rw [fn_Mo_copies_73_62_2, if_neg (show ¬ (108 : Int32) ≤ nI k from nI_ge (b := 108) hk (by decide)), ib_e k 108 hk (by decide), ck_t, ck_t, nI_clamp (by omega), eb_eq, eb_eq, show nI k + (1 : Int32) = nI (k + 1) from nI_add _ 1]
    refine ih _ ⟨fq_s h1 rfl, fun i hi => ?_⟩
    by_cases e : i = k
    · rw [e, si_e, h1.1 73 k rfl]
    · rw [si_j e]; exact h2 i (by omega)
theorem cy_74 (h : et_G) : ev_Q (fn_Mo_copies_74_63 h) (fun _ h' => fq (fun k _ => k == 63) h h' ∧ ∀ i, i < 135 → h'.1 63 i = h.1 74 i) := by
  unfold fn_Mo_copies_74_63
  refine lp0 (fun m i (s : et_G) => fn_Mo_copies_74_63_2 m i s) (fun o => ev_Q o (fun _ h' => fq (fun k _ => k == 63) h h' ∧ ∀ i, i < 135 → h'.1 63 i = h.1 74 i)) 135 (by omega) (fun k s => fq (fun k _ => k == 63) h s ∧ ∀ i, i < k → s.1 63 i = h.1 74 i) h ⟨fq_r _ _, fun i hi => by omega⟩ ?_ ?_
  · intro m s p
    show ev_Q (fn_Mo_copies_74_63_2 (m + 1) (nI 135) s) _
    rw [fn_Mo_copies_74_63_2, if_pos (by decide)]
    exact ev_r p
  · intro m k s hk ⟨h1, h2⟩ ih
    show ev_Q (fn_Mo_copies_74_63_2 (m + 1) (nI k) s) _
    rw [fn_Mo_copies_74_63_2, if_neg (show ¬ (135 : Int32) ≤ nI k from nI_ge (b := 135) hk (by decide)), ib_e k 135 hk (by decide), ck_t, ck_t, nI_clamp (by omega), eb_eq, eb_eq, show nI k + (1 : Int32) = nI (k + 1) from nI_add _ 1]
    refine ih _ ⟨fq_s h1 rfl, fun i hi => ?_⟩
    by_cases e : i = k
    · rw [e, si_e, h1.1 74 k rfl]
    · rw [si_j e]; exact h2 i (by omega)
theorem cy_75 (h : et_G) : ev_Q (fn_Mo_copies_75_64 h) (fun _ h' => fq (fun k _ => k == 64) h h' ∧ ∀ i, i < 162 → h'.1 64 i = h.1 75 i) := by
  unfold fn_Mo_copies_75_64
  refine lp0 (fun m i (s : et_G) => fn_Mo_copies_75_64_2 m i s) (fun o => ev_Q o (fun _ h' => fq (fun k _ => k == 64) h h' ∧ ∀ i, i < 162 → h'.1 64 i = h.1 75 i)) 162 (by omega) (fun k s => fq (fun k _ => k == 64) h s ∧ ∀ i, i < k → s.1 64 i = h.1 75 i) h ⟨fq_r _ _, fun i hi => by omega⟩ ?_ ?_
  · intro m s p
    show ev_Q (fn_Mo_copies_75_64_2 (m + 1) (nI 162) s) _
    rw [fn_Mo_copies_75_64_2, if_pos (by decide)]
    exact ev_r p
  · intro m k s hk ⟨h1, h2⟩ ih
    show ev_Q (fn_Mo_copies_75_64_2 (m + 1) (nI k) s) _
    rw [fn_Mo_copies_75_64_2, if_neg (show ¬ (162 : Int32) ≤ nI k from nI_ge (b := 162) hk (by decide)), ib_e k 162 hk (by decide), ck_t, ck_t, nI_clamp (by omega), eb_eq, eb_eq, show nI k + (1 : Int32) = nI (k + 1) from nI_add _ 1]
    refine ih _ ⟨fq_s h1 rfl, fun i hi => ?_⟩
    by_cases e : i = k
    · rw [e, si_e, h1.1 75 k rfl]
    · rw [si_j e]; exact h2 i (by omega)
theorem cy_76 (h : et_G) : ev_Q (fn_Mo_copies_76_65 h) (fun _ h' => fq (fun k _ => k == 65) h h' ∧ ∀ i, i < 9 → h'.1 65 i = h.1 76 i) := by
  unfold fn_Mo_copies_76_65
  refine lp0 (fun m i (s : et_G) => fn_Mo_copies_76_65_2 m i s) (fun o => ev_Q o (fun _ h' => fq (fun k _ => k == 65) h h' ∧ ∀ i, i < 9 → h'.1 65 i = h.1 76 i)) 9 (by omega) (fun k s => fq (fun k _ => k == 65) h s ∧ ∀ i, i < k → s.1 65 i = h.1 76 i) h ⟨fq_r _ _, fun i hi => by omega⟩ ?_ ?_
  · intro m s p
    show ev_Q (fn_Mo_copies_76_65_2 (m + 1) (nI 9) s) _
    rw [fn_Mo_copies_76_65_2, if_pos (by decide)]
    exact ev_r p
  · intro m k s hk ⟨h1, h2⟩ ih
    show ev_Q (fn_Mo_copies_76_65_2 (m + 1) (nI k) s) _
    rw [fn_Mo_copies_76_65_2, if_neg (show ¬ (9 : Int32) ≤ nI k from nI_ge (b := 9) hk (by decide)), ib_e k 9 hk (by decide), ck_t, ck_t, nI_clamp (by omega), eb_eq, eb_eq, show nI k + (1 : Int32) = nI (k + 1) from nI_add _ 1]
    refine ih _ ⟨fq_s h1 rfl, fun i hi => ?_⟩
    by_cases e : i = k
    · rw [e, si_e, h1.1 76 k rfl]
    · rw [si_j e]; exact h2 i (by omega)
theorem cy_77 (h : et_G) : ev_Q (fn_Mo_copies_77_66 h) (fun _ h' => fq (fun k _ => k == 66) h h' ∧ ∀ i, i < 40 → h'.1 66 i = h.1 77 i) := by
  unfold fn_Mo_copies_77_66
  refine lp0 (fun m i (s : et_G) => fn_Mo_copies_77_66_2 m i s) (fun o => ev_Q o (fun _ h' => fq (fun k _ => k == 66) h h' ∧ ∀ i, i < 40 → h'.1 66 i = h.1 77 i)) 40 (by omega) (fun k s => fq (fun k _ => k == 66) h s ∧ ∀ i, i < k → s.1 66 i = h.1 77 i) h ⟨fq_r _ _, fun i hi => by omega⟩ ?_ ?_
  · intro m s p
    show ev_Q (fn_Mo_copies_77_66_2 (m + 1) (nI 40) s) _
    rw [fn_Mo_copies_77_66_2, if_pos (by decide)]
    exact ev_r p
  · intro m k s hk ⟨h1, h2⟩ ih
    show ev_Q (fn_Mo_copies_77_66_2 (m + 1) (nI k) s) _
    rw [fn_Mo_copies_77_66_2, if_neg (show ¬ (40 : Int32) ≤ nI k from nI_ge (b := 40) hk (by decide)), ib_e k 40 hk (by decide), ck_t, ck_t, nI_clamp (by omega), eb_eq, eb_eq, show nI k + (1 : Int32) = nI (k + 1) from nI_add _ 1]
    refine ih _ ⟨fq_s h1 rfl, fun i hi => ?_⟩
    by_cases e : i = k
    · rw [e, si_e, h1.1 77 k rfl]
    · rw [si_j e]; exact h2 i (by omega)
theorem cy_78 (h : et_G) : ev_Q (fn_Mo_copies_78_67 h) (fun _ h' => fq (fun k _ => k == 67) h h' ∧ ∀ i, i < 30 → h'.1 67 i = h.1 78 i) := by
  unfold fn_Mo_copies_78_67
  refine lp0 (fun m i (s : et_G) => fn_Mo_copies_78_67_2 m i s) (fun o => ev_Q o (fun _ h' => fq (fun k _ => k == 67) h h' ∧ ∀ i, i < 30 → h'.1 67 i = h.1 78 i)) 30 (by omega) (fun k s => fq (fun k _ => k == 67) h s ∧ ∀ i, i < k → s.1 67 i = h.1 78 i) h ⟨fq_r _ _, fun i hi => by omega⟩ ?_ ?_
  · intro m s p
    show ev_Q (fn_Mo_copies_78_67_2 (m + 1) (nI 30) s) _
    rw [fn_Mo_copies_78_67_2, if_pos (by decide)]
    exact ev_r p
  · intro m k s hk ⟨h1, h2⟩ ih
    show ev_Q (fn_Mo_copies_78_67_2 (m + 1) (nI k) s) _
    rw [fn_Mo_copies_78_67_2, if_neg (show ¬ (30 : Int32) ≤ nI k from nI_ge (b := 30) hk (by decide)), ib_e k 30 hk (by decide), ck_t, ck_t, nI_clamp (by omega), eb_eq, eb_eq, show nI k + (1 : Int32) = nI (k + 1) from nI_add _ 1]
    refine ih _ ⟨fq_s h1 rfl, fun i hi => ?_⟩
    by_cases e : i = k
    · rw [e, si_e, h1.1 78 k rfl]
    · rw [si_j e]; exact h2 i (by omega)
theorem cy_79 (h : et_G) : ev_Q (fn_Mo_copies_79_68 h) (fun _ h' => fq (fun k _ => k == 68) h h' ∧ ∀ i, i < 6 → h'.1 68 i = h.1 79 i) := by
  unfold fn_Mo_copies_79_68
  refine lp0 (fun m i (s : et_G) => fn_Mo_copies_79_68_2 m i s) (fun o => ev_Q o (fun _ h' => fq (fun k _ => k == 68) h h' ∧ ∀ i, i < 6 → h'.1 68 i = h.1 79 i)) 6 (by omega) (fun k s => fq (fun k _ => k == 68) h s ∧ ∀ i, i < k → s.1 68 i = h.1 79 i) h ⟨fq_r _ _, fun i hi => by omega⟩ ?_ ?_
  · intro m s p
    show ev_Q (fn_Mo_copies_79_68_2 (m + 1) (nI 6) s) _
    rw [fn_Mo_copies_79_68_2, if_pos (by decide)]
    exact ev_r p
  · intro m k s hk ⟨h1, h2⟩ ih
    show ev_Q (fn_Mo_copies_79_68_2 (m + 1) (nI k) s) _
    rw [fn_Mo_copies_79_68_2, if_neg (show ¬ (6 : Int32) ≤ nI k from nI_ge (b := 6) hk (by decide)), ib_e k 6 hk (by decide), ck_t, ck_t, nI_clamp (by omega), eb_eq, eb_eq, show nI k + (1 : Int32) = nI (k + 1) from nI_add _ 1]
    refine ih _ ⟨fq_s h1 rfl, fun i hi => ?_⟩
    by_cases e : i = k
    · rw [e, si_e, h1.1 79 k rfl]
    · rw [si_j e]; exact h2 i (by omega)
theorem cy_81 (h : et_G) : ev_Q (fn_Mo_copies_81_70 h) (fun _ h' => fq (fun k _ => k == 70) h h' ∧ ∀ i, i < 10 → h'.1 70 i = h.1 81 i) := by
  unfold fn_Mo_copies_81_70
  refine lp0 (fun m i (s : et_G) => fn_Mo_copies_81_70_2 m i s) (fun o => ev_Q o (fun _ h' => fq (fun k _ => k == 70) h h' ∧ ∀ i, i < 10 → h'.1 70 i = h.1 81 i)) 10 (by omega) (fun k s => fq (fun k _ => k == 70) h s ∧ ∀ i, i < k → s.1 70 i = h.1 81 i) h ⟨fq_r _ _, fun i hi => by omega⟩ ?_ ?_
  · intro m s p
    show ev_Q (fn_Mo_copies_81_70_2 (m + 1) (nI 10) s) _
    rw [fn_Mo_copies_81_70_2, if_pos (by decide)]
    exact ev_r p
  · intro m k s hk ⟨h1, h2⟩ ih
    show ev_Q (fn_Mo_copies_81_70_2 (m + 1) (nI k) s) _
    rw [fn_Mo_copies_81_70_2, if_neg (show ¬ (10 : Int32) ≤ nI k from nI_ge (b := 10) hk (by decide)), ib_e k 10 hk (by decide), ck_t, ck_t, nI_clamp (by omega), eb_eq, eb_eq, show nI k + (1 : Int32) = nI (k + 1) from nI_add _ 1]
    refine ih _ ⟨fq_s h1 rfl, fun i hi => ?_⟩
    by_cases e : i = k
    · rw [e, si_e, h1.1 81 k rfl]
    · rw [si_j e]; exact h2 i (by omega)
end FH
