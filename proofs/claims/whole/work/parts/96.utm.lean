/-! utter: the model -/
section UM
variable {S : et_T} {g : et_G}
theorem rf_d (C : rc_C S g) (G : rc_G S g) {q : Nat} (hq : q = 1 ∨ q = 2) : rc_C (su S 72 q (S 72 q + 1)) (et_si g 0 (15 + q) (g.1 0 (15 + q) + 1)) ∧ rc_G (su S 72 q (S 72 q + 1)) (et_si g 0 (15 + q) (g.1 0 (15 + q) + 1)) ∧ fq w_C g (et_si g 0 (15 + q) (g.1 0 (15 + q) + 1)) := by
  have f : fq (fun k j => k == 0 && (j == 16 || j == 17)) g (et_si g 0 (15 + q) (g.1 0 (15 + q) + 1)) := fq_s (fq_r _ _) (by rcases hq with rfl | rfl <;> rfl)
  have a : ag (fun k _ => k == 72) S (su S 72 q (S 72 q + 1)) := su_ag (ag_0 _ _) rfl
  obtain ⟨h0, h1, h2, h3, h4, h5, h6, h7, h8⟩ := C
  refine ⟨⟨(rc_tape_q f a ⟨rfl, fun _ => rfl⟩ ⟨rfl, fun _ => rfl⟩ h0), (rc_tong_q f a ⟨rfl, rfl, fun _ => rfl, fun _ => rfl⟩ ⟨rfl, rfl, fun _ => rfl, fun _ => rfl, fun _ => rfl, fun _ => rfl⟩ h1), (rc_town_q f a ⟨rfl, rfl, rfl, rfl, rfl, rfl, fun _ => rfl, fun _ => rfl, fun _ => rfl, fun _ => rfl, fun _ => rfl, fun _ => rfl, fun _ => rfl, fun _ => rfl⟩ ⟨rfl, rfl, rfl, rfl, fun _ => rfl, fun _ => rfl, fun _ => rfl, fun _ => rfl, fun _ => rfl⟩ h2), (rc_led_q f a ⟨rfl, fun _ => rfl, fun _ => rfl, fun _ => rfl, fun _ => rfl, fun _ => rfl⟩ ⟨rfl, fun _ => rfl⟩ h3), (rc_kept_q f a ⟨rfl, rfl, fun _ => rfl, fun _ => rfl, fun _ => rfl, fun _ => rfl, fun _ => rfl, rfl, rfl⟩ ⟨rfl, rfl, rfl, rfl, fun _ => rfl⟩ h4), (rc_mind_q f a ⟨rfl, rfl⟩ ⟨rfl, rfl⟩ h5), (rc_ways_q f a ⟨rfl, fun _ => rfl⟩ ⟨rfl, fun _ => rfl⟩ h6), (rc_mend_q f a ⟨rfl, fun _ => rfl⟩ ⟨rfl, fun _ => rfl⟩ h7), ?_⟩, rc_G_e (sE_rf q _) (rc_G_q f (fun k j e => ?_) G), w_C_of f (fun k j e => by simp at e; omega)⟩
  · obtain ⟨m0, m1, m2, m3⟩ := h8
    unfold rc_misc
    rcases hq with rfl | rfl
    · rw [si_j (by decide), si_j (by decide), si_e, si_j (by decide), su_x (by decide), su_j (by decide), su_e, su_j (by decide)]
      exact ⟨m0, m1, by rw [m2]; exact nI_add _ 1, m3⟩
    · rw [si_j (by decide), si_j (by decide), si_j (by decide), si_e, su_x (by decide), su_j (by decide), su_j (by decide), su_e]
      exact ⟨m0, m1, m2, by rw [m3]; exact nI_add _ 1⟩
  · unfold w_gr at e
    simp only [Bool.or_eq_true, Bool.and_eq_true, beq_iff_eq, Nat.ble_eq] at e
    simp; omega

theorem mcp_u {g : et_G} : ev_Q (fn_Mo_copies_83_85 g) (fun _ g' => fq (fun k _ => k == 85) g g' ∧ ∀ i, i < 180 → g'.1 85 i = g.1 83 i) := by
  unfold fn_Mo_copies_83_85
  refine lp0 (fun m i (s : et_G) => fn_Mo_copies_83_85_2 m i s) (fun o => ev_Q o (fun _ g' => fq (fun k _ => k == 85) g g' ∧ ∀ i, i < 180 → g'.1 85 i = g.1 83 i)) 180 (by omega) (fun k s => fq (fun k _ => k == 85) g s ∧ ∀ i, i < k → s.1 85 i = g.1 83 i) g ⟨fq_r _ _, fun i hi => by omega⟩ ?_ ?_
  · intro m s h
    show ev_Q (fn_Mo_copies_83_85_2 (m + 1) (nI 180) s) _
    rw [fn_Mo_copies_83_85_2, if_pos (by decide)]
    exact ev_r h
  · intro m k s hk ⟨h1, h2⟩ ih
    show ev_Q (fn_Mo_copies_83_85_2 (m + 1) (nI k) s) _
    rw [fn_Mo_copies_83_85_2]
    simp (disch := omega) only [ni_of, nI_clamp, ib_e, ck_t, bd_s, et_b, nI_add, if_p, ni_eq, ni_lt, ni_le, b_e0, b_e1, io_n]
    rw [io_f (by omega)]
    refine ih _ ⟨fq_s h1 rfl, fun i hi => ?_⟩
    by_cases e : i = k
    · rw [e, si_e, h1.1 83 k rfl]
    · rw [si_j e]; exact h2 i (by omega)
theorem mcp_v {g : et_G} : ev_Q (fn_Mo_copies_85_83 g) (fun _ g' => fq (fun k j => k == 83 && Nat.ble (j + 1) 180) g g' ∧ ∀ i, i < 180 → g'.1 83 i = g.1 85 i) := by
  unfold fn_Mo_copies_85_83
  refine lp0 (fun m i (s : et_G) => fn_Mo_copies_85_83_2 m i s) (fun o => ev_Q o (fun _ g' => fq (fun k j => k == 83 && Nat.ble (j + 1) 180) g g' ∧ ∀ i, i < 180 → g'.1 83 i = g.1 85 i)) 180 (by omega) (fun k s => fq (fun k j => k == 83 && Nat.ble (j + 1) 180) g s ∧ ∀ i, i < k → s.1 83 i = g.1 85 i) g ⟨fq_r _ _, fun i hi => by omega⟩ ?_ ?_
  · intro m s h
    show ev_Q (fn_Mo_copies_85_83_2 (m + 1) (nI 180) s) _
    rw [fn_Mo_copies_85_83_2, if_pos (by decide)]
    exact ev_r h
  · intro m k s hk ⟨h1, h2⟩ ih
    show ev_Q (fn_Mo_copies_85_83_2 (m + 1) (nI k) s) _
    rw [fn_Mo_copies_85_83_2]
    simp (disch := omega) only [ni_of, nI_clamp, ib_e, ck_t, bd_s, et_b, nI_add, if_p, ni_eq, ni_lt, ni_le, b_e0, b_e1, io_n]
    rw [io_f (by omega)]
    refine ih _ ⟨fq_s h1 (by simp [Nat.ble_eq.mpr (show k + 1 ≤ 180 from hk)]), fun i hi => ?_⟩
    by_cases e : i = k
    · rw [e, si_e, h1.1 85 k rfl]
    · rw [si_j e]; exact h2 i (by omega)
theorem mbl {n : Nat} (hn : n ≤ 800) (ht : ∀ j, g.1 71 j = nI (S 71 j)) (hb8 : ∀ i, i < 800 → S 71 i < 256) : ∀ d m i, i + d = n → d < m → fn_Mo_blanks_2 (nI n) m (nI i) g = some (nI (skp (blP S) d i), g) := by
  intro d
  induction d with
  | zero =>
    intro m i hd hm
    obtain ⟨m, rfl⟩ : ∃ q, m = q + 1 := ⟨m - 1, by omega⟩
    rw [fn_Mo_blanks_2, if_pos (nI_le (by omega) (by omega)), skp]
  | succ d ih =>
    intro m i hd hm
    obtain ⟨m, rfl⟩ : ∃ q, m = q + 1 := ⟨m - 1, by omega⟩
    have hb := hb8 i (by omega)
    rw [fn_Mo_blanks_2, if_neg (nI_ge (by omega) (by omega)), ib_e i 800 (by omega) (by decide), ck_t, ck_t, nI_clamp (by omega), ht, skp]
    have e : fn_Mo_blanks_2 (nI n) m (nI i + nI 1) g = some (nI (skp (blP S) d (i + 1)), g) := by rw [nI_add]; exact ih m (i + 1) (by omega) (by omega)
    by_cases q1 : S 71 i = 32
    · rw [if_pos (show nI (S 71 i) = (32 : Int32) from by rw [q1]; rfl), io_t (show blP S i from Or.inl q1)]; exact e
    · rw [if_neg (show ¬ nI (S 71 i) = (32 : Int32) from fun z => q1 ((nI_eq (b := 32) (by omega) (by decide)).mp z))]
      by_cases q2 : S 71 i = 10
      · rw [if_pos (show nI (S 71 i) = (10 : Int32) from by rw [q2]; rfl), io_t (show blP S i from Or.inr q2)]; exact e
      · rw [if_neg (show ¬ nI (S 71 i) = (10 : Int32) from fun z => q2 ((nI_eq (b := 10) (by omega) (by decide)).mp z)), io_f (show ¬ blP S i from fun z => z.elim q1 q2)]
theorem mle {n : Nat} (hn : n ≤ 800) (ht : ∀ j, g.1 71 j = nI (S 71 j)) (hb8 : ∀ i, i < 800 → S 71 i < 256) : ∀ d m i, i + d = n → d < m → fn_Mo_lettersTo_2 (nI n) m (nI i) g = some (nI (skp (ltP S) d i), g) := by
  intro d
  induction d with
  | zero =>
    intro m i hd hm
    obtain ⟨m, rfl⟩ : ∃ q, m = q + 1 := ⟨m - 1, by omega⟩
    rw [fn_Mo_lettersTo_2, if_pos (nI_le (by omega) (by omega)), skp]
  | succ d ih =>
    intro m i hd hm
    obtain ⟨m, rfl⟩ : ∃ q, m = q + 1 := ⟨m - 1, by omega⟩
    have hb := hb8 i (by omega)
    have el : fn_Mo_isLetter (nI (S 71 i)) g = some (io (ltP S i) 1 0, g) := by
      unfold fn_Mo_isLetter
      by_cases q1 : S 71 i < 97
      · rw [if_pos (show nI (S 71 i) < (97 : Int32) from nI_lt (b := 97) q1 (by decide)), io_f (fun z => by have := z.1; omega)]
      · rw [if_neg (show ¬ nI (S 71 i) < (97 : Int32) from nI_nlt (b := 97) (by omega) (by omega))]
        by_cases q2 : 122 < S 71 i
        · rw [if_pos (show (122 : Int32) < nI (S 71 i) from nI_lt (a := 122) q2 (by omega)), io_f (fun z => by have := z.2; omega)]
        · rw [if_neg (show ¬ (122 : Int32) < nI (S 71 i) from nI_nlt (a := 122) (by omega) (by decide)), io_t (show ltP S i from ⟨by omega, by omega⟩)]
    rw [fn_Mo_lettersTo_2, if_neg (nI_ge (by omega) (by omega)), ib_e i 800 (by omega) (by decide), ck_t, nI_clamp (by omega), ht, el, bd_s, skp]
    by_cases q : ltP S i
    · rw [io_t q, io_t q, if_neg (by decide)]
      show fn_Mo_lettersTo_2 (nI n) m (nI i + nI 1) g = _
      rw [nI_add]; exact ih m (i + 1) (by omega) (by omega)
    · rw [io_f q, io_f q, if_pos rfl]
theorem mno {a w : Nat} (hM : rc_M S g) (h65 : S 65 0 ≤ 8) (h26 : ∀ i, i < S 65 0 → S 65 (1 + i) < 256) (hb8 : ∀ i, i < 800 → S 71 i < 256) (haw : a ≤ w) (hw : w ≤ 800) : fn_Mo_isNot (nI a) (nI w) g = some (io (ntP S a (w - a)) 1 0, g) := by
  have e65 : ∀ j, g.1 65 j = nI (S 65 j) := fun j => hM.1 65 j rfl
  have e71 : ∀ j, g.1 71 j = nI (S 71 j) := fun j => hM.1 71 j rfl
  unfold fn_Mo_isNot
  rw [show et_ib (0 : Int32) 9 = true from rfl, ck_t, ck_t, show (0 : Int32).toNatClampNeg = 0 from rfl, e65]
  by_cases q0 : S 65 0 = 0
  · rw [if_pos (show nI (S 65 0) = (0 : Int32) from by rw [q0]; rfl), io_f (fun z => by have := z.1; omega)]
  · rw [if_neg (show ¬ nI (S 65 0) = (0 : Int32) from fun z => q0 ((nI_eq (b := 0) (by omega) (by decide)).mp z)), pk_sub haw]
    by_cases q1 : w - a = S 65 0
    · rw [if_pos (by rw [q1])]
      have key : ∀ d m k, k + d = S 65 0 → d < m → fn_Mo_isNot_25 (nI a) m (nI k) g = some (io (∀ i, k ≤ i → i < S 65 0 → S 71 (a + i) = S 65 (1 + i)) 1 0, g) := by
        intro d
        induction d with
        | zero =>
          intro m k hd hm
          obtain ⟨m, rfl⟩ : ∃ q, m = q + 1 := ⟨m - 1, by omega⟩
          rw [fn_Mo_isNot_25, show et_ib (0 : Int32) 9 = true from rfl, ck_t, show (0 : Int32).toNatClampNeg = 0 from rfl, e65, if_pos (nI_le (by omega) (by omega)), io_t (fun i h1 h2 => by omega)]
        | succ d ih =>
          intro m k hd hm
          obtain ⟨m, rfl⟩ : ∃ q, m = q + 1 := ⟨m - 1, by omega⟩
          have b1 := hb8 (a + k) (by omega)
          have b2 := h26 k (by omega)
          rw [fn_Mo_isNot_25, show et_ib (0 : Int32) 9 = true from rfl, ck_t, show (0 : Int32).toNatClampNeg = 0 from rfl, e65, if_neg (nI_ge (by omega) (by omega)), nI_add, ib_e (a + k) 800 (by omega) (by decide), ck_t, show (1 : Int32) = nI 1 from rfl, nI_add, nI_add, ib_e (1 + k) 9 (by omega) (by decide), ck_t, nI_clamp (by omega), nI_clamp (by omega), e71, e65]
          by_cases q : S 71 (a + k) = S 65 (1 + k)
          · rw [if_pos (by rw [q])]
            show fn_Mo_isNot_25 (nI a) m (nI (k + 1)) g = _
            rw [ih m (k + 1) (by omega) (by omega), io_c (all_s (P := fun i => S 71 (a + i) = S 65 (1 + i)) q)]
            rfl
          · rw [if_neg (by rw [ni_eq (by omega) (by omega)]; exact q), io_f (fun z => q (z k (by omega) (by omega)))]
      rw [show (0 : Int32) = nI 0 from rfl, key (S 65 0) 1000000 0 (by omega) (by omega)]
      refine congrArg (fun x => some (x, g)) (io_c ⟨fun z => ⟨by omega, q1, fun i hi => z i (Nat.zero_le _) hi⟩, fun z i _ hi => z.2.2 i hi⟩)
    · rw [if_neg (by rw [ni_eq (by omega) (by omega)]; exact q1), io_f (fun z => q1 z.2.1)]
end UM
