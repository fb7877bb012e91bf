/-! words: the model -/
theorem wb_mq : ∀ k j, mq k j = true → wb_m k j = false := by
  intro k j h
  simp [mq, mp, wb_m] at *
  omega
theorem en_l {S : et_T} {g : et_G} {s c : Nat} (hM : rc_M S g) (hw : wt_S S) (hs : s < S 61 1) (hc : c < S 61 2) (hle : S 64 (27 * c) ≤ S 62 (9 * s)) : ∀ d n k, k + d = S 64 (27 * c) → d < n → fn_Mo_ends_32 (nI s) (nI c) (nI (S 64 (27 * c))) (nI (S 62 (9 * s))) n (nI k) g = some (io (∀ i, k ≤ i → i < S 64 (27 * c) → S 62 (9 * s + 1 + S 62 (9 * s) - S 64 (27 * c) + i) = S 64 (27 * c + 1 + i)) 1 0, g) := by
  obtain ⟨w1, w2, h1, -, h3⟩ := hw
  have a1 := h1 s hs
  have a3 := h3 c hc 0 (by decide)
  rw [Nat.mul_zero, Nat.add_zero] at a3
  intro d
  induction d with
  | zero =>
    intro n k hk hn
    obtain ⟨n, rfl⟩ : ∃ m, n = m + 1 := ⟨n - 1, by omega⟩
    rw [fn_Mo_ends_32, if_pos (nI_le (by omega) (by omega)), io_t (fun i h1 h2 => by omega)]
  | succ d ih =>
    intro n k hk hn
    obtain ⟨n, rfl⟩ : ∃ m, n = m + 1 := ⟨n - 1, by omega⟩
    rw [fn_Mo_ends_32, if_neg (nI_ge (by omega) (by omega))]
    simp (disch := omega) only [ni_of, nI_add, pk_mul, pk_sub, nI_clamp, ib_e, ck_t, et_b]
    rw [hM.1 62 _ rfl, hM.1 64 _ rfl]
    have b1 := a1.2 (S 62 (9 * s) - S 64 (27 * c) + k) (by omega)
    have b3 := a3.2 k (by omega)
    rw [show 9 * s + 1 + (S 62 (9 * s) - S 64 (27 * c) + k) = 9 * s + 1 + S 62 (9 * s) - S 64 (27 * c) + k from by omega] at b1
    by_cases h : S 62 (9 * s + 1 + S 62 (9 * s) - S 64 (27 * c) + k) = S 64 (27 * c + 1 + k)
    · rw [if_pos (by rw [h]), ih n (k + 1) (by omega) (by omega), io_c (all_s (P := fun i => S 62 (9 * s + 1 + S 62 (9 * s) - S 64 (27 * c) + i) = S 64 (27 * c + 1 + i)) h)]; rfl
    · rw [if_neg (by rw [ni_eq (by omega) (by omega)]; exact h), io_f (fun e => h (e k (Nat.le_refl _) (by omega)))]
theorem en_m {S : et_T} {g : et_G} {s c : Nat} (hM : rc_M S g) (hw : wt_S S) (hs : s < S 61 1) (hc : c < S 61 2) : fn_Mo_ends (nI s) (nI c) g = some (io (en_P S s c) 1 0, g) := by
  have hw0 := hw
  obtain ⟨w1, w2, h1, -, h3⟩ := hw
  have a1 := (h1 s hs).1
  have a3 := (h3 c hc 0 (by decide)).1
  rw [Nat.mul_zero, Nat.add_zero] at a3
  unfold fn_Mo_ends
  simp (disch := omega) only [ni_of, nI_add, pk_mul, nI_clamp, ib_e, ck_t, et_b]
  rw [hM.1 62 _ rfl, hM.1 64 _ rfl]
  by_cases hle : S 64 (27 * c) ≤ S 62 (9 * s)
  · rw [if_pos (nI_le hle (by omega)), en_l hM hw0 hs hc hle _ _ 0 (Nat.zero_add _) (by omega)]
    have e : (∀ i, 0 ≤ i → i < S 64 (27 * c) → S 62 (9 * s + 1 + S 62 (9 * s) - S 64 (27 * c) + i) = S 64 (27 * c + 1 + i)) ↔ en_P S s c := ⟨fun h => ⟨hle, fun k hk => h k (Nat.zero_le _) hk⟩, fun h k _ hk => h.2 k hk⟩
    rw [io_c e]; rfl
  · rw [if_neg (nI_ge (by omega) (by omega)), io_f (fun e => hle e.1)]
theorem be_l {S : et_T} {g : et_G} {e c : Nat} (hM : rc_M S g) (hw : wt_S S) (he : e < 15) (hc : c < S 61 2) (hle : S 64 (27 * c + 9) ≤ S 63 (9 * e)) : ∀ d n k, k + d = S 64 (27 * c + 9) → d < n → fn_Mo_begins_31 (nI e) (nI c) (nI (S 64 (27 * c + 9))) n (nI k) g = some (io (∀ i, k ≤ i → i < S 64 (27 * c + 9) → S 63 (9 * e + 1 + i) = S 64 (27 * c + 10 + i)) 1 0, g) := by
  obtain ⟨w1, w2, -, h2, h3⟩ := hw
  have a1 := h2 e he
  have a3 := h3 c hc 1 (by decide)
  rw [show 27 * c + 9 * 1 = 27 * c + 9 from rfl] at a3
  intro d
  induction d with
  | zero =>
    intro n k hk hn
    obtain ⟨n, rfl⟩ : ∃ m, n = m + 1 := ⟨n - 1, by omega⟩
    rw [fn_Mo_begins_31, if_pos (nI_le (by omega) (by omega)), io_t (fun i h1 h2 => by omega)]
  | succ d ih =>
    intro n k hk hn
    obtain ⟨n, rfl⟩ : ∃ m, n = m + 1 := ⟨n - 1, by omega⟩
    rw [fn_Mo_begins_31, if_neg (nI_ge (by omega) (by omega))]
    simp (disch := omega) only [ni_of, nI_add, pk_mul, pk_sub, nI_clamp, ib_e, ck_t, et_b]
    rw [hM.1 63 _ rfl, hM.1 64 _ rfl]
    have b1 := a1.2 k (by omega)
    have b3 := a3.2 k (by omega)
    rw [show 27 * c + 9 + 1 + k = 27 * c + 10 + k from rfl] at b3
    by_cases h : S 63 (9 * e + 1 + k) = S 64 (27 * c + 10 + k)
    · rw [if_pos (by rw [h]), ih n (k + 1) (by omega) (by omega), io_c (all_s (P := fun i => S 63 (9 * e + 1 + i) = S 64 (27 * c + 10 + i)) h)]; rfl
    · rw [if_neg (by rw [ni_eq (by omega) (by omega)]; exact h), io_f (fun e => h (e k (Nat.le_refl _) (by omega)))]
theorem be_m {S : et_T} {g : et_G} {e c : Nat} (hM : rc_M S g) (hw : wt_S S) (he : e < 15) (hc : c < S 61 2) : fn_Mo_begins (nI e) (nI c) g = some (io (be_P S e c) 1 0, g) := by
  have hw0 := hw
  obtain ⟨w1, w2, -, h2, h3⟩ := hw
  have a1 := (h2 e he).1
  have a3 : S 64 (27 * c + 9) ≤ 8 := (h3 c hc 1 (by decide)).1
  unfold fn_Mo_begins
  simp (disch := omega) only [ni_of, nI_add, pk_mul, nI_clamp, ib_e, ck_t, et_b]
  rw [hM.1 63 _ rfl, hM.1 64 _ rfl]
  by_cases hle : S 64 (27 * c + 9) ≤ S 63 (9 * e)
  · rw [if_pos (nI_le hle (by omega)), be_l hM hw0 he hc hle _ _ 0 (Nat.zero_add _) (by omega)]
    have e : (∀ i, 0 ≤ i → i < S 64 (27 * c + 9) → S 63 (9 * e + 1 + i) = S 64 (27 * c + 10 + i)) ↔ be_P S e c := ⟨fun h => ⟨hle, fun k hk => h k (Nat.zero_le _) hk⟩, fun h k _ hk => h.2 k hk⟩
    rw [io_c e]; rfl
  · rw [if_neg (nI_ge (by omega) (by omega)), io_f (fun e => hle e.1)]
theorem sp_202 {S : et_T} {e : Nat} (hw : wt_S S) (he : e < 15) : ∀ d n k (w : List Nat) (g : et_G), k + d = S 63 (9 * e) → d < n → rc_M S g → bf_m g w → w.length + d ≤ 24 → ev_Q (fn_Mo_speaks_202 (nI e) n (nI k) g) (fun _ g' => bf_m g' (w ++ seg (S 63) (9 * e + 1 + k) d) ∧ fq wb_m g g') := by
  have a1 := (hw.2.2.2.1 e he).1
  intro d
  induction d with
  | zero =>
    intro n k w g hk hn hM hb hl
    obtain ⟨n, rfl⟩ : ∃ m, n = m + 1 := ⟨n - 1, by omega⟩
    rw [fn_Mo_speaks_202]
    simp (disch := omega) only [ni_of, nI_add, pk_mul, nI_clamp, ib_e, ck_t, et_b]
    rw [hM.1 63 _ rfl, if_pos (nI_le (by omega) (by omega))]
    exact ev_r ⟨by simpa [seg] using hb, fq_r _ _⟩
  | succ d ih =>
    intro n k w g hk hn hM hb hl
    obtain ⟨n, rfl⟩ : ∃ m, n = m + 1 := ⟨n - 1, by omega⟩
    rw [fn_Mo_speaks_202]
    simp (disch := omega) only [ni_of, nI_add, pk_mul, nI_clamp, ib_e, ck_t, et_b]
    rw [hM.1 63 _ rfl, if_neg (nI_ge (by omega) (by omega)), hM.1 63 _ rfl]
    refine ev_d (am_1 _ hb (by omega)) (fun _ g1 h1 => ?_)
    refine ev_w (ih n (k + 1) _ g1 (by omega) (by omega) (rc_M_q h1.2 wb_mq hM) h1.1 (by simp; omega)) (fun _ g2 h2 => ⟨?_, fq_t h1.2 h2.2⟩)
    rw [seg_c, show 9 * e + 1 + k + 1 = 9 * e + 1 + (k + 1) from by omega]
    simpa using h2.1
theorem sp_148 {S : et_T} {e c f : Nat} (hw : wt_S S) (he : e < 15) (hc : c < S 61 2) (hf : f ≤ S 63 (9 * e)) : ∀ d n k (w : List Nat) (g : et_G), k + d = S 64 (27 * c + 18) → d < n → rc_M S g → bf_m g w → w.length + d + (S 63 (9 * e) - f) ≤ 24 → ev_Q (fn_Mo_speaks_148 (nI e) (nI c) (nI f) n (nI k) g) (fun _ g' => bf_m g' (w ++ seg (S 64) (27 * c + 19 + k) d ++ seg (S 63) (9 * e + 1 + f) (S 63 (9 * e) - f)) ∧ fq wb_m g g') := by
  have a1 := (hw.2.2.2.1 e he).1
  have a2 := hw.2.1
  have a3 : S 64 (27 * c + 18) ≤ 8 := (hw.2.2.2.2 c hc 2 (by decide)).1
  intro d
  induction d with
  | zero =>
    intro n k w g hk hn hM hb hl
    obtain ⟨n, rfl⟩ : ∃ m, n = m + 1 := ⟨n - 1, by omega⟩
    rw [fn_Mo_speaks_148, hM.1 61 2 rfl, if_neg (nI_ge hc (by omega))]
    simp (disch := omega) only [ni_of, nI_add, pk_mul, nI_clamp, ib_e, ck_t, et_b]
    rw [hM.1 64 _ rfl, if_pos (nI_le (by omega) (by omega))]
    have := sp_202 hw he (S 63 (9 * e) - f) 1000000 f w g (by omega) (by omega) hM hb (by omega)
    simpa [seg] using this
  | succ d ih =>
    intro n k w g hk hn hM hb hl
    obtain ⟨n, rfl⟩ : ∃ m, n = m + 1 := ⟨n - 1, by omega⟩
    rw [fn_Mo_speaks_148, hM.1 61 2 rfl, if_neg (nI_ge hc (by omega))]
    simp (disch := omega) only [ni_of, nI_add, pk_mul, nI_clamp, ib_e, ck_t, et_b]
    rw [hM.1 64 _ rfl, if_neg (nI_ge (by omega) (by omega)), hM.1 64 _ rfl]
    refine ev_d (am_1 _ hb (by omega)) (fun _ g1 h1 => ?_)
    refine ev_w (ih n (k + 1) _ g1 (by omega) (by omega) (rc_M_q h1.2 wb_mq hM) h1.1 (by simp; omega)) (fun _ g2 h2 => ⟨?_, fq_t h1.2 h2.2⟩)
    rw [seg_c, show 27 * c + 19 + k + 1 = 27 * c + 19 + (k + 1) from by omega]
    simpa using h2.1
theorem sp_148z {S : et_T} {e : Nat} (hw : wt_S S) (he : e < 15) {w : List Nat} {g : et_G} (n : Nat) (hM : rc_M S g) (hb : bf_m g w) (hl : w.length + S 63 (9 * e) ≤ 24) : ev_Q (fn_Mo_speaks_148 (nI e) (nI (S 61 2)) (nI 0) (n + 1) (nI 0) g) (fun _ g' => bf_m g' (w ++ seg (S 63) (9 * e + 1) (S 63 (9 * e))) ∧ fq wb_m g g') := by
  have a2 := hw.2.1
  have a1 := (hw.2.2.2.1 e he).1
  rw [fn_Mo_speaks_148, hM.1 61 2 rfl, if_pos (nI_le (Nat.le_refl _) (by omega))]
  exact sp_202 hw he (S 63 (9 * e)) 1000000 0 w g (by omega) (by omega) hM hb (by omega)
/-- the first letters, then the rest -/
theorem sp_104 {S : et_T} {s e c u f : Nat} {rest : List Nat} (hw : wt_S S) (hs : s < S 61 1) (hu : u ≤ S 62 (9 * s)) (hr : ∀ (w : List Nat) (g : et_G), rc_M S g → bf_m g w → w.length + rest.length ≤ 24 → ev_Q (fn_Mo_speaks_148 (nI e) (nI c) (nI f) 1000000 (nI 0) g) (fun _ g' => bf_m g' (w ++ rest) ∧ fq wb_m g g')) : ∀ d n k (w : List Nat) (g : et_G), k + d = S 62 (9 * s) - u → d < n → rc_M S g → bf_m g w → w.length + d + rest.length ≤ 24 → ev_Q (fn_Mo_speaks_104 (nI s) (nI e) (nI c) (nI u) (nI f) n (nI k) g) (fun _ g' => bf_m g' (w ++ seg (S 62) (9 * s + 1 + k) d ++ rest) ∧ fq wb_m g g') := by
  have a0 := hw.1
  have a1 := (hw.2.2.1 s hs).1
  intro d
  induction d with
  | zero =>
    intro n k w g hk hn hM hb hl
    obtain ⟨n, rfl⟩ : ∃ m, n = m + 1 := ⟨n - 1, by omega⟩
    rw [fn_Mo_speaks_104]
    simp (disch := omega) only [ni_of, nI_add, pk_mul, nI_clamp, ib_e, ck_t, et_b]
    rw [hM.1 62 _ rfl, pk_sub hu, if_pos (nI_le (by omega) (by omega))]
    have := hr w g hM hb (by omega)
    simpa [seg] using this
  | succ d ih =>
    intro n k w g hk hn hM hb hl
    obtain ⟨n, rfl⟩ : ∃ m, n = m + 1 := ⟨n - 1, by omega⟩
    rw [fn_Mo_speaks_104]
    simp (disch := omega) only [ni_of, nI_add, pk_mul, nI_clamp, ib_e, ck_t, et_b]
    rw [hM.1 62 _ rfl, pk_sub hu, if_neg (nI_ge (by omega) (by omega)), hM.1 62 _ rfl]
    refine ev_d (am_1 _ hb (by omega)) (fun _ g1 h1 => ?_)
    refine ev_w (ih n (k + 1) _ g1 (by omega) (by omega) (rc_M_q h1.2 wb_mq hM) h1.1 (by simp; omega)) (fun _ g2 h2 => ⟨?_, fq_t h1.2 h2.2⟩)
    rw [seg_c, show 9 * s + 1 + k + 1 = 9 * s + 1 + (k + 1) from by omega]
    simpa using h2.1
theorem sp_52 {S : et_T} {s e c : Nat} {g : et_G} (hw : wt_S S) (hs : s < S 61 1) (he : e < 15) (hc : c ≤ S 61 2) (hp : c < S 61 2 → en_P S s c ∧ be_P S e c) (hM : rc_M S g) (hb : bf_m g []) (hz : ¬ S 63 (9 * e) = 0) (hcf : fc S s e = c) : ev_Q (fn_Mo_speaks_52 (nI s) (nI e) (nI c) g) (fun _ g' => bf_m g' (wd S s e) ∧ fq wb_m g g') := by
  have a0 := hw.1
  have a1 := (hw.2.2.1 s hs).1
  have a2 := hw.2.1
  have a4 := (hw.2.2.2.1 e he).1
  unfold fn_Mo_speaks_52 fn_Mo_speaks_73
  rw [hM.1 61 2 rfl]
  by_cases h : c = S 61 2
  · subst h
    rw [if_pos rfl, if_pos rfl]
    have := sp_104 (e := e) (c := S 61 2) (f := 0) hw hs (Nat.zero_le _) (fun w g hM hb hl => sp_148z hw he 999999 hM hb (by rw [seg_l] at hl; exact hl)) (S 62 (9 * s)) 1000000 0 [] g (by omega) (by omega) hM hb (by simp [seg_l]; omega)
    refine ev_w this (fun _ g' h2 => ⟨?_, h2.2⟩)
    unfold wd
    rw [if_neg hz, if_pos hcf]
    simpa using h2.1
  · have hlt : c < S 61 2 := by omega
    obtain ⟨p1, p2⟩ := hp hlt
    have b0 : S 64 (27 * c) ≤ 8 := (hw.2.2.2.2 c hlt 0 (by decide)).1
    have b1 : S 64 (27 * c + 9) ≤ 8 := (hw.2.2.2.2 c hlt 1 (by decide)).1
    have b2 : S 64 (27 * c + 18) ≤ 8 := (hw.2.2.2.2 c hlt 2 (by decide)).1
    have p3 := p1.1
    have p4 := p2.1
    rw [if_neg (by rw [ni_eq (by omega) (by omega)]; exact h), if_neg (by rw [ni_eq (by omega) (by omega)]; exact h)]
    simp (disch := omega) only [ni_of, nI_add, pk_mul, nI_clamp, ib_e, ck_t, et_b]
    rw [hM.1 64 _ rfl, hM.1 64 _ rfl]
    have := sp_104 (e := e) (c := c) (f := S 64 (27 * c + 9)) (rest := seg (S 64) (27 * c + 19) (S 64 (27 * c + 18)) ++ seg (S 63) (9 * e + 1 + S 64 (27 * c + 9)) (S 63 (9 * e) - S 64 (27 * c + 9))) hw hs p1.1 (fun w g hM hb hl => by
      simp only [List.length_append, seg_l] at hl
      have := sp_148 hw he hlt p2.1 (S 64 (27 * c + 18)) 1000000 0 w g (by omega) (by omega) hM hb (by omega)
      simpa using this) (S 62 (9 * s) - S 64 (27 * c)) 1000000 0 [] g (by omega) (by omega) hM hb (by simp [seg_l]; omega)
    refine ev_w this (fun _ g' h2 => ⟨?_, h2.2⟩)
    unfold wd
    rw [if_neg hz, if_neg (by rw [hcf]; exact h), hcf]
    simpa using h2.1
theorem sp_20 {S : et_T} {s e : Nat} {g : et_G} (hw : wt_S S) (hs : s < S 61 1) (he : e < 15) (hM : rc_M S g) (hb : bf_m g []) (hz : ¬ S 63 (9 * e) = 0) : ∀ d n c, c + d = S 61 2 → d < n → fc S s e = fc_n S s e d c → ev_Q (fn_Mo_speaks_20 (nI s) (nI e) n (nI c) g) (fun _ g' => bf_m g' (wd S s e) ∧ fq wb_m g g') := by
  have a2 := hw.2.1
  intro d
  induction d with
  | zero =>
    intro n c hc hn hf
    obtain ⟨n, rfl⟩ : ∃ m, n = m + 1 := ⟨n - 1, by omega⟩
    rw [fn_Mo_speaks_20, hM.1 61 2 rfl, if_pos (nI_le (by omega) (by omega))]
    exact sp_52 hw hs he (by omega) (fun h => by omega) hM hb hz hf
  | succ d ih =>
    intro n c hc hn hf
    obtain ⟨n, rfl⟩ : ∃ m, n = m + 1 := ⟨n - 1, by omega⟩
    rw [fn_Mo_speaks_20, hM.1 61 2 rfl, if_neg (nI_ge (by omega) (by omega)), en_m hM hw hs (by omega), bd_s]
    unfold fc_n at hf
    by_cases h1 : en_P S s c
    · rw [io_t h1, if_neg (by decide), be_m hM hw he (by omega), bd_s]
      by_cases h2 : be_P S e c
      · rw [io_t h2, if_neg (by decide)]
        rw [io_t ⟨h1, h2⟩] at hf
        exact sp_52 hw hs he (by omega) (fun _ => ⟨h1, h2⟩) hM hb hz hf
      · rw [io_f h2, if_pos rfl]
        rw [io_f (fun h => h2 h.2)] at hf
        simp only [et_b, ni_of, nI_add]
        exact ih n (c + 1) (by omega) (by omega) hf
    · rw [io_f h1, if_pos rfl]
      rw [io_f (fun h => h1 h.1)] at hf
      simp only [et_b, ni_of, nI_add]
      exact ih n (c + 1) (by omega) (by omega) hf
theorem sp_m {S : et_T} {s e : Nat} {g : et_G} (hw : wt_S S) (hs : s < S 61 1) (he : e < 15) (hM : rc_M S g) : ev_Q (fn_Mo_speaks (nI s) (nI e) g) (fun _ g' => bf_m g' (wd S s e) ∧ fq wb_m g g') := by
  have a4 := (hw.2.2.2.1 e he).1
  unfold fn_Mo_speaks
  simp (disch := omega) only [ni_of, nI_add, pk_mul, nI_clamp, ib_e, ck_t, et_b]
  have f0 : fq wb_m g (et_si g 61 48 (nI 0)) := fq_s (fq_r _ _) rfl
  have b0 : bf_m (et_si g 61 48 (nI 0)) [] := ⟨by simp [si_g], by simp, fun i hi => by simp at hi⟩
  have m0 := rc_M_q f0 wb_mq hM
  rw [m0.1 63 _ rfl]
  by_cases hz : S 63 (9 * e) = 0
  · rw [if_pos (by rw [hz])]
    refine ev_r ⟨?_, f0⟩
    unfold wd
    rw [if_pos hz]
    exact b0
  · rw [if_neg (by rw [ni_eq (by omega) (by omega)]; exact hz)]
    refine ev_w (sp_20 hw hs he m0 b0 hz (S 61 2) 1000000 0 (by omega) (by have := hw.2.1; omega) rfl) (fun _ g' h => ⟨h.1, fq_t f0 h.2⟩)
