/-! village: the model's step, from the blanks on -/
section SZ
variable {S : et_T}
theorem sm_0 {n : Nat} (hn : n ≤ 800) (hb8 : ∀ i, i < 800 → S 71 i < 256) : ∀ d m i (g : et_G), i + d = n → d < m → (∀ j, j < 800 → g.1 71 j = nI (S 71 j)) → g.1 61 21 = nI n → g.1 61 22 = nI i → ev_Q (fn_Mo_steps_0 m g) (fun _ g' => tkM S n (skp (blP S) d i) g' ∧ fq w_ms g g') := by
  intro d
  induction d with
  | zero =>
    intro m i g hd hm ht h1 h2
    obtain ⟨m, rfl⟩ : ∃ q, m = q + 1 := ⟨m - 1, by omega⟩
    rw [fn_Mo_steps_0, h1, h2, if_pos (nI_le (by omega) (by omega)), skp]
    exact s50 hn hb8 (by omega) ht h1 h2
  | succ d ih =>
    intro m i g hd hm ht h1 h2
    obtain ⟨m, rfl⟩ : ∃ q, m = q + 1 := ⟨m - 1, by omega⟩
    have hb := hb8 i (by omega)
    have by1 := bya (i := i) hn (by omega) ht h1
    rw [io_f (by omega)] at by1
    have e : blP S i → ev_Q (fn_Mo_steps_37 (fun g => fn_Mo_steps_0 m g) g) (fun _ g' => tkM S n (skp (blP S) d (i + 1)) g' ∧ fq w_ms g g') := fun _ => by
      unfold fn_Mo_steps_37
      rw [h2]
      show ev_Q (fn_Mo_steps_0 m (et_si g 61 22 (nI i + nI 1))) _
      rw [nI_add]
      exact ev_w (ih m (i + 1) _ (by omega) (by omega) (fun j hj => by rw [si_x (by decide)]; exact ht j hj) (by rw [si_j (by decide)]; exact h1) si_e) (fun _ g' h => ⟨h.1, fq_t (fq_s (fq_r _ _) rfl) h.2⟩)
    rw [fn_Mo_steps_0, h1, h2, if_neg (nI_ge (by omega) (by omega)), by1, bd_s, skp]
    by_cases q1 : S 71 i = 32
    · rw [if_pos (show nI (S 71 i) = (32 : Int32) from by rw [q1]; rfl), io_t (show blP S i from Or.inl q1)]
      exact e (Or.inl q1)
    · rw [if_neg (show ¬ nI (S 71 i) = (32 : Int32) from fun z => q1 ((nI_eq (b := 32) (by omega) (by decide)).mp z)), h2, by1, bd_s]
      by_cases q2 : S 71 i = 10
      · rw [if_pos (show nI (S 71 i) = (10 : Int32) from by rw [q2]; rfl), io_t (show blP S i from Or.inr q2)]
        exact e (Or.inr q2)
      · rw [if_neg (show ¬ nI (S 71 i) = (10 : Int32) from fun z => q2 ((nI_eq (b := 10) (by omega) (by decide)).mp z)), io_f (show ¬ blP S i from fun z => z.elim q1 q2)]
        exact s50 hn hb8 (by omega) ht h1 h2
theorem sm_c {n i : Nat} {g : et_G} (hn : n ≤ 800) (hb8 : ∀ i, i < 800 → S 71 i < 256) (hi : i ≤ n) (ht : ∀ j, j < 800 → g.1 71 j = nI (S 71 j)) (h1 : g.1 61 21 = nI n) (h2 : g.1 61 22 = nI i) : ev_Q (fn_Mo_steps g) (fun _ g' => tkM S n (bk S n i) g' ∧ fq w_ms g g') := sm_0 hn hb8 (n - i) 1000000 i g (by omega) (by omega) ht h1 h2
end SZ
