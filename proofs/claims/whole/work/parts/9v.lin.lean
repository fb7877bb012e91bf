/-! village: a line, and all lines -/
section LI
variable {S : et_T} {n : Nat} {g0 h0 : et_G} {D : Nat → Nat}
theorem lin {a : Nat} {g h : et_G} (hn : n ≤ 800) (hb8 : ∀ i, i < 800 → S 71 i < 256) (t : tC S n a g0 g) (t' : uM S n a h0 h) (V : vV D g h) : e2 (fn_Re_readLine_15 g) (fn_Mo_line h) (lQ S n a g0 h0) := by
  have C : ∀ k, k < 13 → fn_Re_is k g = some (bI (wdP S n a k), g) := fun k hk => is_c hk hn hb8 t.1.2.1 t.2.1
  have M : ∀ k, k < 13 → fn_Mo_is (nI k) h = some (bI (wdP S n a k), h) := fun k hk => is_m hk hn t'.2.2.2.1
  unfold fn_Re_readLine_15 fn_Mo_line
  rw [show fn_Re_is_stem g = _ from C 0 (by decide), bd_s, show fn_Mo_is (0 : Int32) h = _ from M 0 (by decide), bd_s]
  by_cases w0 : wdP S n a 0
  · rw [bI_t w0, if_neg (show ¬ nI 1 = 0 by decide), if_neg (show ¬ nI 1 = 0 by decide)]
    exact lq_a (ln_0 hn hb8 t t' V w0.1)
  rw [bI_f w0, if_pos (show nI 0 = 0 from rfl), if_pos (show nI 0 = 0 from rfl)]
  rw [show fn_Re_is_ending g = _ from C 1 (by decide), bd_s, show fn_Mo_is (1 : Int32) h = _ from M 1 (by decide), bd_s]
  by_cases w1 : wdP S n a 1
  · rw [bI_t w1, if_neg (show ¬ nI 1 = 0 by decide), if_neg (show ¬ nI 1 = 0 by decide)]
    exact lq_a (ln_1 hn hb8 t t' V w1.1)
  rw [bI_f w1, if_pos (show nI 0 = 0 from rfl), if_pos (show nI 0 = 0 from rfl)]
  rw [show fn_Re_is_change g = _ from C 2 (by decide), bd_s, show fn_Mo_is (2 : Int32) h = _ from M 2 (by decide), bd_s]
  by_cases w2 : wdP S n a 2
  · rw [bI_t w2, if_neg (show ¬ nI 1 = 0 by decide), if_neg (show ¬ nI 1 = 0 by decide)]
    exact lq_a (ln_2 hn hb8 t t' V w2.1)
  rw [bI_f w2, if_pos (show nI 0 = 0 from rfl), if_pos (show nI 0 = 0 from rfl)]
  rw [show fn_Re_is_not g = _ from C 3 (by decide), bd_s, show fn_Mo_is (3 : Int32) h = _ from M 3 (by decide), bd_s]
  by_cases w3 : wdP S n a 3
  · rw [bI_t w3, if_neg (show ¬ nI 1 = 0 by decide), if_neg (show ¬ nI 1 = 0 by decide)]
    exact lq_a (ln_3 hn hb8 t t' V w3.1)
  rw [bI_f w3, if_pos (show nI 0 = 0 from rfl), if_pos (show nI 0 = 0 from rfl)]
  rw [show fn_Re_is_places g = _ from C 4 (by decide), bd_s, show fn_Mo_is (4 : Int32) h = _ from M 4 (by decide), bd_s]
  by_cases w4 : wdP S n a 4
  · rw [bI_t w4, if_neg (show ¬ nI 1 = 0 by decide), if_neg (show ¬ nI 1 = 0 by decide)]
    exact lq_a (ln_4 hn hb8 t t' V w4.1)
  rw [bI_f w4, if_pos (show nI 0 = 0 from rfl), if_pos (show nI 0 = 0 from rfl)]
  rw [show fn_Re_is_near g = _ from C 5 (by decide), bd_s, show fn_Mo_is (5 : Int32) h = _ from M 5 (by decide), bd_s]
  by_cases w5 : wdP S n a 5
  · rw [bI_t w5, if_neg (show ¬ nI 1 = 0 by decide), if_neg (show ¬ nI 1 = 0 by decide)]
    exact lq_a (ln_5 hn hb8 t t' V w5.1)
  rw [bI_f w5, if_pos (show nI 0 = 0 from rfl), if_pos (show nI 0 = 0 from rfl)]
  rw [show fn_Re_is_person g = _ from C 6 (by decide), bd_s, show fn_Mo_is (6 : Int32) h = _ from M 6 (by decide), bd_s]
  by_cases w6 : wdP S n a 6
  · rw [bI_t w6, if_neg (show ¬ nI 1 = 0 by decide), if_neg (show ¬ nI 1 = 0 by decide)]
    exact lq_a (ln_6 hn hb8 t t' V w6.1)
  rw [bI_f w6, if_pos (show nI 0 = 0 from rfl), if_pos (show nI 0 = 0 from rfl)]
  rw [show fn_Re_is_thing g = _ from C 7 (by decide), bd_s, show fn_Mo_is (7 : Int32) h = _ from M 7 (by decide), bd_s]
  by_cases w7 : wdP S n a 7
  · rw [bI_t w7, if_neg (show ¬ nI 1 = 0 by decide), if_neg (show ¬ nI 1 = 0 by decide)]
    exact lq_a (ln_7 hn hb8 t t' V w7.1)
  rw [bI_f w7, if_pos (show nI 0 = 0 from rfl), if_pos (show nI 0 = 0 from rfl)]
  rw [show fn_Re_is_rule g = _ from C 8 (by decide), bd_s, show fn_Mo_is (8 : Int32) h = _ from M 8 (by decide), bd_s]
  by_cases w8 : wdP S n a 8
  · rw [bI_t w8, if_neg (show ¬ nI 1 = 0 by decide), if_neg (show ¬ nI 1 = 0 by decide)]
    exact lq_a (ln_8 hn hb8 t t' V w8.1)
  rw [bI_f w8, if_pos (show nI 0 = 0 from rfl), if_pos (show nI 0 = 0 from rfl)]
  rw [show fn_Re_is_at g = _ from C 9 (by decide), bd_s, show fn_Mo_is (9 : Int32) h = _ from M 9 (by decide), bd_s]
  by_cases w9 : wdP S n a 9
  · rw [bI_t w9, if_neg (show ¬ nI 1 = 0 by decide), if_neg (show ¬ nI 1 = 0 by decide)]
    exact lq_a (ln_9 hn hb8 t t' V w9.1)
  rw [bI_f w9, if_pos (show nI 0 = 0 from rfl), if_pos (show nI 0 = 0 from rfl)]
  rw [show fn_Re_is_weigh g = _ from C 10 (by decide), bd_s, show fn_Mo_is (10 : Int32) h = _ from M 10 (by decide), bd_s]
  by_cases w10 : wdP S n a 10
  · rw [bI_t w10, if_neg (show ¬ nI 1 = 0 by decide), if_neg (show ¬ nI 1 = 0 by decide)]
    exact lq_a (ln_10 hn hb8 t t' V w10.1)
  rw [bI_f w10, if_pos (show nI 0 = 0 from rfl), if_pos (show nI 0 = 0 from rfl)]
  refine e2_l (ref_c t (f := 1) (by decide)) (fun v g' ⟨e, c⟩ => ?_)
  obtain ⟨x0, h1, E0, c', -⟩ := fau_m t' (f := 1) (by decide)
  rw [e, show fn_Mo_faults (1 : Int32) h = _ from E0, bd_s, l47_0 c']
  exact e2_q (lq_f c c')
/-- where reading ends -/
def rdE (S : et_T) (n : Nat) (g0 h0 g h : et_G) : Prop := (∃ D a, tC S n a g0 g ∧ uM S n a h0 h ∧ vV D g h) ∨ ∃ f a, fC n f a g0 g ∧ fM n f a h0 h
theorem rd_lp (hn : n ≤ 800) (hb8 : ∀ i, i < 800 → S 71 i < 256) : ∀ d m m' c i D (g h : et_G), n ≤ i + d → d + 1 < m → d + 1 < m' → c ≤ i → kC S n i g0 g → uM S n (bk S n i) h0 h → vV D g h → ∃ g' h', fn_Re_read_15_47 m 1 (nI c) g = fn_Re_read_15_91 g' ∧ fn_Mo_village_65 m' h = fn_Mo_village_86 h' ∧ rdE S n g0 h0 g' h' := by
  intro d
  induction d with
  | zero =>
    intro m m' c i D g h hd hm hm' hc k t V
    obtain ⟨m, rfl⟩ : ∃ q, m = q + 2 := ⟨m - 2, by omega⟩
    obtain ⟨m', rfl⟩ : ∃ q, m' = q + 1 := ⟨m' - 1, by omega⟩
    have hi := k.2.2.2.2.1
    have hb := bk_b S hi
    rw [fn_Re_read_15_47, if_neg (show ¬ (1 : Int32) = 0 by decide), k.2.2.1, if_neg (nI_nlt (by omega) (by omega))]
    obtain ⟨x0, g1, E0, u, y⟩ := stp_c hn hb8 k
    have q : tkK S n (bk S n i) = 0 := by unfold tkK; rw [io_t (by omega)]
    refine ⟨g1, h, ?_, ?_, Or.inl ⟨D, _, u, t, vV_s y (fq_r _ _) V⟩⟩
    · rw [E0, bd_s, u.2.1.2.1, q, if_pos (show nI 0 = 0 from rfl)]
      show fn_Re_read_15_47 (m + 1) 0 _ g1 = _
      rw [fn_Re_read_15_47, if_pos rfl]
    · rw [fn_Mo_village_65, gd_1 t, bd_s, if_neg (show ¬ (1 : Int32) = 0 by decide), t.2.2.2.1.2.1, q, if_pos (show nI 0 = 0 from rfl)]
  | succ d ih =>
    intro m m' c i D g h hd hm hm' hc k t V
    obtain ⟨m, rfl⟩ : ∃ q, m = q + 2 := ⟨m - 2, by omega⟩
    obtain ⟨m', rfl⟩ : ∃ q, m' = q + 2 := ⟨m' - 2, by omega⟩
    have hi := k.2.2.2.2.1
    have hb := bk_b S hi
    have k4 := tkK_4 (S := S) n (bk S n i)
    rw [fn_Re_read_15_47, if_neg (show ¬ (1 : Int32) = 0 by decide), k.2.2.1, if_neg (nI_nlt (by omega) (by omega))]
    obtain ⟨x0, g1, E0, u, y⟩ := stp_c hn hb8 k
    have V1 := vV_s y (fq_r _ h) V
    by_cases q : tkK S n (bk S n i) = 0
    · refine ⟨g1, h, ?_, ?_, Or.inl ⟨D, _, u, t, V1⟩⟩
      · rw [E0, bd_s, u.2.1.2.1, q, if_pos (show nI 0 = 0 from rfl)]
        show fn_Re_read_15_47 (m + 1) 0 _ g1 = _
        rw [fn_Re_read_15_47, if_pos rfl]
      · rw [fn_Mo_village_65, gd_1 t, bd_s, if_neg (show ¬ (1 : Int32) = 0 by decide), t.2.2.2.1.2.1, q, if_pos (show nI 0 = 0 from rfl)]
    · obtain ⟨v, g2, w, h2, E1, E2, L⟩ := lin hn hb8 u t V1
      rw [E0, bd_s, u.2.1.2.1, if_neg (nq0 q (by omega)), E1, bd_s, fn_Mo_village_65, gd_1 t, bd_s, if_neg (show ¬ (1 : Int32) = 0 by decide), t.2.2.2.1.2.1, if_neg (nq0 q (by omega)), E2, bd_s]
      rcases L with ⟨rfl, D', j, hj, k2, t2, V2⟩ | ⟨rfl, f, a, c1, c2⟩
      · rw [if_neg (show ¬ (1 : Int32) = 0 by decide), show nI c + (1 : Int32) = nI (c + 1) from nI_add _ 1]
        exact ih (m + 1) (m' + 1) (c + 1) j D' g2 h2 (by omega) (by omega) (by omega) (by omega) k2 t2 V2
      · rw [if_pos rfl]
        refine ⟨g2, h2, ?_, ?_, Or.inr ⟨f, a, c1, c2⟩⟩
        · show fn_Re_read_15_47 (m + 1) 0 _ g2 = _
          rw [fn_Re_read_15_47, if_pos rfl]
        · rw [fn_Mo_village_65, gd_0 c2, bd_s, if_pos rfl]
end LI
