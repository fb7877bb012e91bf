/-! the calls that are light, whole -/
def okB (e : Nat) (S : et_T) (g : et_G) (FC : Option (et_oc × et_G)) (FM : et_G → Option (Int32 × et_G)) : Prop := ∃ S' o, okC S' g FC o ∧ okM S S' FM (va_o o) (th_o o) ∧ wf_S S' ∧ wf_4 S' ∧ ∀ k, o = .inl k → k = e
def okU (S : et_T) (g : et_G) (FC : Option (Int32 × et_G)) (FM : et_G → Option (Int32 × et_G)) : Prop := ∃ S' v, okC S' g FC v ∧ okM S S' FM v 0 ∧ wf_S S' ∧ wf_4 S'
section LG
variable {S : et_T} {g : et_G}
theorem okC_q {α : Type} {F : Option (α × et_G)} {o : α} (I : Iv S g) (h : F = some (o, g)) : okC S g F o := by
  rw [h]; exact ev_r ⟨rfl, I.1, I.2.1, fq_r _ _⟩
theorem okM_q {F : et_G → Option (Int32 × et_G)} {v t : Int32} (h : ∀ g, rc_M S g → F g = some (v, et_si g 61 0 t)) : okM S S F v t := fun g M => by
  rw [h g M]
  have f : fq w_sc g (et_si g 61 0 t) := fq_s (fq_r _ _) rfl
  exact ev_r ⟨rfl, si_e, rc_M_q f w_sc_m M, sc_M f⟩
theorem ok_wrong (I : Iv S g) (p : Int32) : okB 0 S g (fn_Et_wrong p g) (fn_Mo_wrong p) := ⟨S, _, ok_wrC I p, ok_wrM I p, I.2.2.2.1, I.2.2.2.2, fun k e => by
  unfold wr_o at e
  split at e
  · cases e
  · split at e
    · cases e
    · cases e; rfl⟩
theorem io_in {c : Prop} {a : Int32} {k e : Nat} (h : (io c (.inr a) (.inl e) : et_oc) = .inl k) : k = e := by
  by_cases z : c
  · rw [io_t z] at h; cases h
  · rw [io_f z] at h; cases h; rfl
theorem ok_could (I : Iv S g) (p h t : Int32) {nt : Nat} (hn : nt ≤ 1) : okB 0 S g (fn_Et_could p h t (nI nt) g) (fn_Mo_could p h t (nI nt)) := ⟨S, _, ok_coC I p h t hn, ok_coM I p h t hn, I.2.2.2.1, I.2.2.2.2, fun k e => io_in e⟩
theorem ok_where (I : Iv S g) (p q : Int32) : okB 0 S g (fn_Et_where p q g) (fn_Mo_where p q) := ⟨S, _, okC_q I (wh_c I.1.2.2.1 I.2.2.2.1.2.1 p q), okM_q (fun g M => wh_m M I.2.2.2.1.2.1 p q), I.2.2.2.1, I.2.2.2.2, fun k e => io_in e⟩
theorem ok_thing (I : Iv S g) (p q : Int32) : okB 0 S g (fn_Et_thing p q g) (fn_Mo_thing p q) := ⟨S, _, okC_q I (tg_c I.1.2.2.1 I.2.2.2.1.2.1 p q), okM_q (fun g M => tg_m M I.2.2.2.1.2.1 p q), I.2.2.2.1, I.2.2.2.2, fun k e => io_in e⟩
theorem ok_count (I : Iv S g) (p : Int32) : okB 0 S g (fn_Et_count p g) (fn_Mo_count p) := ⟨S, _, okC_q I (cn_c I.1 I.2.2.2.1.2.2.2.1 p), okM_q (fun g M => cn_m M I.2.2.2.1.2.2.2.1 p), I.2.2.2.1, I.2.2.2.2, fun k e => io_in e⟩
theorem ok_fault (I : Iv S g) : okU S g (fn_Et_fault g) fn_Mo_fault := by
  refine ⟨S, nI (S 61 19) - 1, okC_q I ?_, okM_q (fun g M => ?_), I.2.2.2.1, I.2.2.2.2⟩
  · unfold fn_Et_fault; rw [I.1.2.2.2.2.2.2.2.2.1]
  · unfold fn_Mo_fault
    simp only [et_b]
    rw [si_j (by decide), M.2.1]
theorem ok_way (I : Iv S g) (p : Int32) : okB 0 S g (fn_Et_way p g) (fn_Mo_way p) := by
  have wy : S 61 49 ≤ 180 ∧ _ := I.2.2.2.1.2.2.2.2.2.1
  have rw' := I.1.2.2.2.2.2.2.1
  refine ⟨S, io (iN p (S 61 49)) (.inr (nI (S 83 p.toNatClampNeg))) (.inl 0), okC_q I ?_, okM_q (fun g M => ?_), I.2.2.2.1, I.2.2.2.2, fun k e => io_in e⟩
  · unfold fn_Et_way
    rw [rw'.1]
    by_cases h : iN p (S 61 49)
    · rw [io_t h, if_neg h.1]
      obtain ⟨j, hj, rfl⟩ := iN_e h (by omega)
      rw [if_pos (nI_lt hj (by omega)), ib_e j 180 (by omega) (by decide), ck_t, nI_clamp (by omega), rw'.2 j hj]
    · rw [io_f h]
      by_cases h1 : p < 0
      · rw [if_pos h1]
      · rw [if_neg h1, if_neg (fun z => h ⟨h1, fun q => Int32.lt_irrefl (Int32.lt_of_lt_of_le z q)⟩)]
  · unfold fn_Mo_way
    simp only [et_b]
    have h0 : (et_si g 61 0 0).1 61 0 = 0 := si_e
    rw [si_j (by decide), M.1 61 49 rfl]
    have bad : fn_Mo_way_22 p (et_si g 61 0 0) = some (0, et_si g 61 0 1) := by
      unfold fn_Mo_way_22 fn_Mo_way_23
      rw [ri_n h0 _ (by decide), bd_s, if_pos rfl, si_si]
    by_cases h : iN p (S 61 49)
    · rw [io_t h, if_neg h.1, if_neg h.2]
      obtain ⟨j, hj, rfl⟩ := iN_e h (by omega)
      unfold fn_Mo_way_23
      rw [ri_y h0 _ _ (by decide), bd_s, if_neg (by decide), ib_e j 180 (by omega) (by decide), ck_t, nI_clamp (by omega), si_x (by decide), M.1 83 _ rfl]
      rfl
    · rw [io_f h]
      by_cases h1 : p < 0
      · rw [if_pos h1, bad]; rfl
      · rw [if_neg h1]
        by_cases h2 : nI (S 61 49) ≤ p
        · rw [if_pos h2, bad]; rfl
        · exact absurd ⟨h1, h2⟩ h
theorem ok_mended (I : Iv S g) (p : Int32) : okB 0 S g (fn_Et_mended p g) (fn_Mo_mended p) := by
  have wy : S 61 65 ≤ 13 := I.2.2.2.1.2.2.2.2.2.2
  have rw' := I.1.2.2.2.2.2.2.2.1
  refine ⟨S, io (iN p (S 61 65 - 1)) (.inr (nI (S 94 p.toNatClampNeg))) (.inl 0), okC_q I ?_, okM_q (fun g M => ?_), I.2.2.2.1, I.2.2.2.2, fun k e => io_in e⟩
  · unfold fn_Et_mended
    rw [rw'.1]
    by_cases h : iN p (S 61 65 - 1)
    · rw [io_t h, if_neg h.1]
      obtain ⟨j, hj, rfl⟩ := iN_e h (by omega)
      rw [show nI (S 61 65) - 1 = nI (S 61 65 - 1) from pk_sub (b := 1) (by omega), if_pos (nI_lt hj (by omega)), ib_e j 12 (by omega) (by decide), ck_t, nI_clamp (by omega), rw'.2 j (by omega)]
    · rw [io_f h]
      by_cases h1 : p < 0
      · rw [if_pos h1]
      · rw [if_neg h1, if_neg (fun z => ?_)]
        by_cases h65 : S 61 65 = 0
        · rw [h65] at z
          exact h1 (Int32.lt_of_lt_of_le z (by decide))
        · rw [show nI (S 61 65) - 1 = nI (S 61 65 - 1) from pk_sub (b := 1) (by omega)] at z
          exact h ⟨h1, fun q => Int32.lt_irrefl (Int32.lt_of_lt_of_le z q)⟩
  · unfold fn_Mo_mended
    simp only [et_b]
    have h0 : (et_si g 61 0 0).1 61 0 = 0 := si_e
    rw [si_j (by decide), M.2.2]
    have bad : fn_Mo_mended_22 p (et_si g 61 0 0) = some (0, et_si g 61 0 1) := by
      unfold fn_Mo_mended_22 fn_Mo_mended_23
      rw [ri_n h0 _ (by decide), bd_s, if_pos rfl, si_si]
    by_cases h : iN p (S 61 65 - 1)
    · rw [io_t h, if_neg h.1]
      have h2 := h.2
      obtain ⟨j, hj, rfl⟩ := iN_e h (by omega)
      rw [show nI (S 61 65) - 1 = nI (S 61 65 - 1) from pk_sub (b := 1) (by omega), if_neg h2]
      unfold fn_Mo_mended_23
      rw [ri_y h0 _ _ (by decide), bd_s, if_neg (by decide), ib_e j 20 (by omega) (by decide), ck_t, nI_clamp (by omega), si_x (by decide), M.1 94 _ rfl]
      rfl
    · rw [io_f h]
      by_cases h1 : p < 0
      · rw [if_pos h1, bad]; rfl
      · rw [if_neg h1]
        by_cases h2 : nI (S 61 65) - 1 ≤ p
        · rw [if_pos h2, bad]; rfl
        · exfalso
          by_cases h65 : S 61 65 = 0
          · rw [h65] at h2
            have h1' : 0 ≤ p := by
              rcases pk_ix p (n := 0) (by decide) with q | q | ⟨j, q, -⟩
              · exact absurd q h1
              · exact q
              · omega
            exact h2 (Int32.le_trans (by decide) h1')
          · rw [show nI (S 61 65) - 1 = nI (S 61 65 - 1) from pk_sub (b := 1) (by omega)] at h2
            exact h ⟨h1, h2⟩
theorem ok_word (I : Iv S g) (p b h i : Int32) : okB 0 S g (fn_Et_word p b h i g) (fn_Mo_word p b h i) := by
  refine ⟨S, wo_o S p b h i, ev_w (wo_c I.1.2.1 I.2.2.2.1.2.1 p b h i) (fun o g' ⟨a, f⟩ => ⟨a, ?_, rc_G_q f (fun k j e => ?_) I.2.1, w_C_of f (fun k j e => ?_)⟩), fun g1 M => ev_w (wo_m M (wt_of I.1.2.1 I.2.2.2.1.2.1) p b h i) (fun v g' ⟨a, b, f⟩ => ⟨a, b, rc_M_q f wm_mq M, w_M_of f (fun k j e => ?_)⟩), I.2.2.2.1, I.2.2.2.2, fun k e => ?_⟩
  · obtain ⟨h0, h1, h2, h3, h4, h5, h6, h7, h8⟩ := I.1
    have hs := ag_r S
    exact ⟨(rc_tape_q f hs ⟨rfl, fun _ => rfl⟩ ⟨rfl, fun _ => rfl⟩ h0), (rc_tong_q f hs ⟨rfl, rfl, fun _ => rfl, fun _ => rfl⟩ ⟨rfl, rfl, fun _ => rfl, fun _ => rfl, fun _ => rfl, fun _ => rfl⟩ h1), (rc_town_q f hs ⟨rfl, rfl, rfl, rfl, rfl, rfl, fun _ => rfl, fun _ => rfl, fun _ => rfl, fun _ => rfl, fun _ => rfl, fun _ => rfl, fun _ => rfl, fun _ => rfl⟩ ⟨rfl, rfl, rfl, rfl, fun _ => rfl, fun _ => rfl, fun _ => rfl, fun _ => rfl, fun _ => rfl⟩ h2), (rc_led_q f hs ⟨rfl, fun _ => rfl, fun _ => rfl, fun _ => rfl, fun _ => rfl, fun _ => rfl⟩ ⟨rfl, fun _ => rfl⟩ h3), (rc_kept_q f hs ⟨rfl, rfl, fun _ => rfl, fun _ => rfl, fun _ => rfl, fun _ => rfl, fun _ => rfl, rfl, rfl⟩ ⟨rfl, rfl, rfl, rfl, fun _ => rfl⟩ h4), (rc_mind_q f hs ⟨rfl, rfl⟩ ⟨rfl, rfl⟩ h5), (rc_ways_q f hs ⟨rfl, fun _ => rfl⟩ ⟨rfl, fun _ => rfl⟩ h6), (rc_mend_q f hs ⟨rfl, fun _ => rfl⟩ ⟨rfl, fun _ => rfl⟩ h7), (rc_misc_q f hs ⟨rfl, rfl, rfl, rfl⟩ ⟨rfl, fun _ => rfl⟩ h8)⟩
  · unfold w_gr at e
    simp only [Bool.or_eq_true, Bool.and_eq_true, beq_iff_eq, Nat.ble_eq] at e
    simp [wb_c]; omega
  · simp [wb_c] at e; omega
  · simp [wm_t, wb_m] at e; omega
  · unfold wo_o at e
    by_cases z : iN p (S 61 1) ∧ iN b 3 ∧ iN h 5
    · rw [io_t z] at e
      split at e
      · cases e
      · exact io_in e
    · rw [io_f z] at e; cases e; rfl
/-! say, unsay -/
def w_sy (k j : Nat) : Bool := (Nat.ble 34 k && Nat.ble k 39) || (k == 48 && j == 15)
theorem w_sy_c {k j : Nat} (h : w_sy k j = true) : (34 ≤ k ∧ k ≤ 39) ∨ (k = 48 ∧ j = 15) := by
  unfold w_sy at h
  simp only [Bool.or_eq_true, Bool.and_eq_true, beq_iff_eq, Nat.ble_eq] at h
  exact h
def v_sy (k j : Nat) : Bool := k == 84 || (k == 61 && j == 50)
theorem fg_G {g : et_G} : rc_G S (et_si g 48 15 0) := ⟨Or.inl si_e, fun z => by rw [si_e] at z; exact absurd z (by decide)⟩
theorem rc_C_sy {S' : et_T} {g' : et_G} (f : fq w_sy g g') (a : ag v_sy S S') (C : rc_C S g) (L : rc_led S' g') : rc_C S' g' := by
  obtain ⟨h0, h1, h2, h3, h4, h5, h6, h7, h8⟩ := C
  exact ⟨(rc_tape_q f a ⟨rfl, fun _ => rfl⟩ ⟨rfl, fun _ => rfl⟩ h0), (rc_tong_q f a ⟨rfl, rfl, fun _ => rfl, fun _ => rfl⟩ ⟨rfl, rfl, fun _ => rfl, fun _ => rfl, fun _ => rfl, fun _ => rfl⟩ h1), (rc_town_q f a ⟨rfl, rfl, rfl, rfl, rfl, rfl, fun _ => rfl, fun _ => rfl, fun _ => rfl, fun _ => rfl, fun _ => rfl, fun _ => rfl, fun _ => rfl, fun _ => rfl⟩ ⟨rfl, rfl, rfl, rfl, fun _ => rfl, fun _ => rfl, fun _ => rfl, fun _ => rfl, fun _ => rfl⟩ h2), L, (rc_kept_q f a ⟨rfl, rfl, fun _ => rfl, fun _ => rfl, fun _ => rfl, fun _ => rfl, fun _ => rfl, rfl, rfl⟩ ⟨rfl, rfl, rfl, rfl, fun _ => rfl⟩ h4), (rc_mind_q f a ⟨rfl, rfl⟩ ⟨rfl, rfl⟩ h5), (rc_ways_q f a ⟨rfl, fun _ => rfl⟩ ⟨rfl, fun _ => rfl⟩ h6), (rc_mend_q f a ⟨rfl, fun _ => rfl⟩ ⟨rfl, fun _ => rfl⟩ h7), (rc_misc_q f a ⟨rfl, rfl, rfl, rfl⟩ ⟨rfl, fun _ => rfl⟩ h8)⟩
theorem wf_sy {S' : et_T} (a : ag v_sy S S') (h : wf_S S) (L : wf_led S') : wf_S S' := by
  obtain ⟨h0, h1, h2, h3, h4, h5, h6⟩ := h
  exact ⟨(wf_tape_q a ⟨rfl, fun _ => rfl⟩ h0), (wf_town_q a ⟨rfl, rfl, rfl, rfl, rfl, rfl, fun _ => rfl, fun _ => rfl, fun _ => rfl, fun _ => rfl, fun _ => rfl⟩ h1), L, (wf_mind_q a ⟨rfl, rfl, rfl⟩ h3), (wf_kept_q a ⟨rfl, rfl, rfl, rfl, rfl, rfl, fun _ => rfl⟩ h4), (wf_ways_q a ⟨rfl, fun _ => rfl⟩ h5), (wf_mend_q a rfl h6)⟩
theorem wf4_q {V : Nat → Nat → Bool} {S' : et_T} (a : ag V S S') (v5 : V 61 5 = false) (v67 : V 61 67 = false) (v68 : V 61 68 = false) (v69 : V 61 69 = false) (v71 : V 61 71 = false) (v72 : V 61 72 = false) (h : wf_4 S) : wf_4 S' := by
  unfold wf_4 m4 at h ⊢
  rw [a _ _ v5, a _ _ v67, a _ _ v68, a _ _ v69, a _ _ v71, a _ _ v72]
  exact h
def sy_S (S : et_T) (p h t w nt : Nat) : et_T := su (su (su (su (su (su S 84 (5 * S 61 50) p) 84 (5 * S 61 50 + 1) h) 84 (5 * S 61 50 + 2) t) 84 (5 * S 61 50 + 3) w) 84 (5 * S 61 50 + 4) nt) 61 50 (S 61 50 + 1)
theorem sy_ag (p h t w nt : Nat) : ag v_sy S (sy_S S p h t w nt) := su_ag (su_ag (su_ag (su_ag (su_ag (su_ag (ag_0 _ _) rfl) rfl) rfl) rfl) rfl) rfl
theorem sy_50 {p h t w nt : Nat} : sy_S S p h t w nt 61 50 = S 61 50 + 1 := su_e
theorem sy_n {p h t w nt : Nat} : sy_S S p h t w nt 84 (5 * S 61 50) = p ∧ sy_S S p h t w nt 84 (5 * S 61 50 + 1) = h ∧ sy_S S p h t w nt 84 (5 * S 61 50 + 2) = t ∧ sy_S S p h t w nt 84 (5 * S 61 50 + 3) = w ∧ sy_S S p h t w nt 84 (5 * S 61 50 + 4) = nt := by
  unfold sy_S
  refine ⟨?_, ?_, ?_, ?_, ?_⟩
  · rw [su_x (by decide), su_j (by omega), su_j (by omega), su_j (by omega), su_j (by omega), su_e]
  · rw [su_x (by decide), su_j (by omega), su_j (by omega), su_j (by omega), su_e]
  · rw [su_x (by decide), su_j (by omega), su_j (by omega), su_e]
  · rw [su_x (by decide), su_j (by omega), su_e]
  · rw [su_x (by decide), su_e]
theorem sy_o {p h t w nt j : Nat} (hj : j < 5 * S 61 50 ∨ 5 * S 61 50 + 4 < j) : sy_S S p h t w nt 84 j = S 84 j := by
  unfold sy_S
  rw [su_x (by decide), su_j (by omega), su_j (by omega), su_j (by omega), su_j (by omega), su_j (by omega)]
theorem vp_b {nt : Nat} (h : nt ≤ 1) : vp_nar .boolean (nI nt) = nI nt := by
  match nt, h with
  | 0, _ => rfl
  | 1, _ => rfl
/-- a saying comes behind: the class -/
theorem sy_c (C : rc_C S g) (W : wf_S S) {p h t w nt : Nat} (hn : S 61 50 < 20) (hnt : nt ≤ 1) : ∃ g', fn_Le_add (nI p) (nI h) (nI t) (nI w) (nI nt) g = some (1, g') ∧ rc_C (sy_S S p h t w nt) (et_si g' 48 15 0) ∧ (et_si g' 48 15 0).1 34 0 = nI (S 61 50 + 1) ∧ fq w_sy g (et_si g' 48 15 0) := by
  have L := C.2.2.2.1
  have e : fn_Le_add (nI p) (nI h) (nI t) (nI w) (nI nt) g = some (1, et_si (et_si (et_si (et_si (et_si (et_si g 35 (S 61 50) (nI p)) 36 (S 61 50) (nI h)) 37 (S 61 50) (nI t)) 38 (S 61 50) (nI w)) 39 (S 61 50) (nI nt)) 34 0 (nI (S 61 50 + 1))) := by
    unfold fn_Le_add
    simp (disch := omega) only [ni_of, nI_clamp, ib_e, ck_t, bd_s, et_b, nI_add, if_p, ni_eq, ni_lt, ni_le, b_e0, b_e1, io_n, si_x, L.1, vp_b hnt]
    rw [io_t hn]
  refine ⟨_, e, ?_⟩
  have f : fq w_sy g (et_si (et_si (et_si (et_si (et_si (et_si (et_si g 35 (S 61 50) (nI p)) 36 (S 61 50) (nI h)) 37 (S 61 50) (nI t)) 38 (S 61 50) (nI w)) 39 (S 61 50) (nI nt)) 34 0 (nI (S 61 50 + 1))) 48 15 0) := fq_s (fq_s (fq_s (fq_s (fq_s (fq_s (fq_s (fq_r _ _) rfl) rfl) rfl) rfl) rfl) rfl) rfl
  have e34 : (et_si (et_si (et_si (et_si (et_si (et_si (et_si g 35 (S 61 50) (nI p)) 36 (S 61 50) (nI h)) 37 (S 61 50) (nI t)) 38 (S 61 50) (nI w)) 39 (S 61 50) (nI nt)) 34 0 (nI (S 61 50 + 1))) 48 15 0).1 34 0 = nI (S 61 50 + 1) := by rw [si_x (by decide), si_e]
  refine ⟨rc_C_sy f (sy_ag _ _ _ _ _) C ⟨by rw [sy_50]; exact e34, fun i hi => ?_⟩, e34, f⟩
  rw [sy_50] at hi
  obtain ⟨n0, n1, n2, n3, n4⟩ := sy_n (S := S) (p := p) (h := h) (t := t) (w := w) (nt := nt)
  unfold rc_say
  by_cases z : i = S 61 50
  · subst z
    rw [n0, n1, n2, n3, n4]
    simp (disch := omega) only [si_x, si_e, and_self]
  · rw [sy_o (by omega), sy_o (by omega), sy_o (by omega), sy_o (by omega), sy_o (by omega)]
    have := L.2 i (by omega)
    unfold rc_say at this
    simp (disch := omega) only [si_x, si_j z]
    exact this
def v_rf (q : Nat) (k j : Nat) : Bool := k == 72 && j == q
theorem rf_m {g : et_G} (M : rc_M S g) {q : Nat} (hq : q < 3) : ∃ g', fn_Mo_refuses (nI q) g = some (-1, g') ∧ rc_M (su S 72 q (S 72 q + 1)) g' ∧ fq (v_rf q) g g' := by
  have e : fn_Mo_refuses (nI q) g = some (-1, et_si g 72 q (nI (S 72 q + 1))) := by
    unfold fn_Mo_refuses
    simp (disch := omega) only [ni_of, nI_clamp, ib_e, ck_t, bd_s, et_b, nI_add, if_p, ni_eq, ni_lt, ni_le, b_e0, b_e1, io_n]
    rw [M.1 72 q rfl, nI_add]
  have f : fq (v_rf q) g (et_si g 72 q (nI (S 72 q + 1))) := fq_s (fq_r _ _) (by simp [v_rf])
  refine ⟨_, e, rc_M_n (V := v_rf q) f (su_ag (ag_0 _ _) (by simp [v_rf])) (fun k j _ e => e) M (fun k j _ e => ?_) (fun z => by simp [v_rf] at z) (fun z => by simp [v_rf] at z), f⟩
  simp [v_rf] at e
  rw [e.1, e.2, si_e, su_e]
theorem wf_rf (q : Nat) (h : wf_S S) (v : Nat) : wf_S (su S 72 q v) := by
  have a : ag (fun k _ => k == 72) S (su S 72 q v) := su_ag (ag_0 _ _) rfl
  obtain ⟨h0, h1, h2, h3, h4, h5, h6⟩ := h
  exact ⟨(wf_tape_q a ⟨rfl, fun _ => rfl⟩ h0), (wf_town_q a ⟨rfl, rfl, rfl, rfl, rfl, rfl, fun _ => rfl, fun _ => rfl, fun _ => rfl, fun _ => rfl, fun _ => rfl⟩ h1), (wf_led_q a ⟨rfl, rfl, rfl, fun _ => rfl⟩ h2), (wf_mind_q a ⟨rfl, rfl, rfl⟩ h3), (wf_kept_q a ⟨rfl, rfl, rfl, rfl, rfl, rfl, fun _ => rfl⟩ h4), (wf_ways_q a ⟨rfl, fun _ => rfl⟩ h5), (wf_mend_q a rfl h6)⟩
theorem wf4_rf (q : Nat) (h : wf_4 S) (v : Nat) : wf_4 (su S 72 q v) := wf4_q (V := fun k _ => k == 72) (su_ag (ag_0 _ _) rfl) rfl rfl rfl rfl rfl rfl h
theorem sE_rf (q v : Nat) : sE S (su S 72 q v) := sE_of (V := fun k _ => k == 72) (su_ag (ag_0 _ _) rfl) rfl rfl rfl rfl rfl (fun _ => rfl) (fun _ => rfl) (fun _ => rfl) (fun _ => rfl) (fun _ => rfl)
/-- a refusal is counted: the class -/
theorem rf_c (I : Iv S g) {q : Nat} (hq : q = 1 ∨ q = 2) : rc_C (su S 72 q (S 72 q + 1)) (et_si g 0 (15 + q) (g.1 0 (15 + q) + 1)) ∧ rc_G (su S 72 q (S 72 q + 1)) (et_si g 0 (15 + q) (g.1 0 (15 + q) + 1)) ∧ fq w_C g (et_si g 0 (15 + q) (g.1 0 (15 + q) + 1)) := by
  have f : fq (fun k j => k == 0 && (j == 16 || j == 17)) g (et_si g 0 (15 + q) (g.1 0 (15 + q) + 1)) := fq_s (fq_r _ _) (by rcases hq with rfl | rfl <;> rfl)
  have a : ag (fun k _ => k == 72) S (su S 72 q (S 72 q + 1)) := su_ag (ag_0 _ _) rfl
  obtain ⟨h0, h1, h2, h3, h4, h5, h6, h7, h8⟩ := I.1
  refine ⟨⟨(rc_tape_q f a ⟨rfl, fun _ => rfl⟩ ⟨rfl, fun _ => rfl⟩ h0), (rc_tong_q f a ⟨rfl, rfl, fun _ => rfl, fun _ => rfl⟩ ⟨rfl, rfl, fun _ => rfl, fun _ => rfl, fun _ => rfl, fun _ => rfl⟩ h1), (rc_town_q f a ⟨rfl, rfl, rfl, rfl, rfl, rfl, fun _ => rfl, fun _ => rfl, fun _ => rfl, fun _ => rfl, fun _ => rfl, fun _ => rfl, fun _ => rfl, fun _ => rfl⟩ ⟨rfl, rfl, rfl, rfl, fun _ => rfl, fun _ => rfl, fun _ => rfl, fun _ => rfl, fun _ => rfl⟩ h2), (rc_led_q f a ⟨rfl, fun _ => rfl, fun _ => rfl, fun _ => rfl, fun _ => rfl, fun _ => rfl⟩ ⟨rfl, fun _ => rfl⟩ h3), (rc_kept_q f a ⟨rfl, rfl, fun _ => rfl, fun _ => rfl, fun _ => rfl, fun _ => rfl, fun _ => rfl, rfl, rfl⟩ ⟨rfl, rfl, rfl, rfl, fun _ => rfl⟩ h4), (rc_mind_q f a ⟨rfl, rfl⟩ ⟨rfl, rfl⟩ h5), (rc_ways_q f a ⟨rfl, fun _ => rfl⟩ ⟨rfl, fun _ => rfl⟩ h6), (rc_mend_q f a ⟨rfl, fun _ => rfl⟩ ⟨rfl, fun _ => rfl⟩ h7), ?_⟩, rc_G_e (sE_rf q _) (rc_G_q f (fun k j e => ?_) I.2.1), w_C_of f (fun k j e => by simp at e; omega)⟩
  · obtain ⟨m0, m1, m2, m3⟩ := h8
    unfold rc_misc
    rcases hq with rfl | rfl
    · rw [si_j (by decide), si_j (by decide), si_e, si_j (by decide), su_x (by decide), su_j (by decide), su_e, su_j (by decide)]
      exact ⟨m0, m1, by rw [m2]; exact nI_add _ 1, m3⟩
    · rw [si_j (by decide), si_j (by decide), si_j (by decide), si_e, su_x (by decide), su_j (by decide), su_j (by decide), su_e]
      exact ⟨m0, m1, m2, by rw [m3]; exact nI_add _ 1⟩
  · unfold w_gr at e
    simp only [Bool.or_eq_true, Bool.and_eq_true, beq_iff_eq, Nat.ble_eq] at e
    simp; omega
theorem sy_m {g : et_G} (M : rc_M S g) {p h t w nt : Nat} (hn : S 61 50 < 20) : ∃ g', fn_Mo_adds5 (nI p) (nI h) (nI t) (nI w) (nI nt) g = some (nI (S 61 50 + 1), g') ∧ rc_M (sy_S S p h t w nt) g' ∧ fq v_sy g g' := by
  have n50 := M.1 61 50 rfl
  have e : fn_Mo_adds5 (nI p) (nI h) (nI t) (nI w) (nI nt) g = some (nI (S 61 50 + 1), et_si (et_si (et_si (et_si (et_si (et_si g 84 (5 * S 61 50) (nI p)) 84 (5 * S 61 50 + 1) (nI h)) 84 (5 * S 61 50 + 2) (nI t)) 84 (5 * S 61 50 + 3) (nI w)) 84 (5 * S 61 50 + 4) (nI nt)) 61 50 (nI (S 61 50 + 1))) := by
    unfold fn_Mo_adds5
    simp (disch := omega) only [ni_of, nI_clamp, ib_e, ck_t, bd_s, et_b, nI_add, if_p, ni_eq, ni_lt, ni_le, b_e0, b_e1, io_n, si_x, si_e, n50, pk_mul]
  have f : fq v_sy g (et_si (et_si (et_si (et_si (et_si (et_si g 84 (5 * S 61 50) (nI p)) 84 (5 * S 61 50 + 1) (nI h)) 84 (5 * S 61 50 + 2) (nI t)) 84 (5 * S 61 50 + 3) (nI w)) 84 (5 * S 61 50 + 4) (nI nt)) 61 50 (nI (S 61 50 + 1))) := fq_s (fq_s (fq_s (fq_s (fq_s (fq_s (fq_r _ _) rfl) rfl) rfl) rfl) rfl) rfl
  refine ⟨_, e, rc_M_n f (sy_ag p h t w nt) (fun k j _ e => e) M (fun k j _ e => ?_) (fun z => by simp [v_sy] at z) (fun z => by simp [v_sy] at z), f⟩
  unfold sy_S
  simp only [si_g, su]
  by_cases z : k = 61 ∧ j = 50
  · rw [if_pos z, if_pos z]
  · rw [if_neg z, if_neg z]
    have hk : k = 84 := by simp [v_sy] at e; omega
    subst hk
    by_cases z4 : j = 5 * S 61 50 + 4
    · simp [z4]
    · by_cases z3 : j = 5 * S 61 50 + 3
      · simp [z3]
      · by_cases z2 : j = 5 * S 61 50 + 2
        · simp [z2]
        · by_cases z1 : j = 5 * S 61 50 + 1
          · simp [z1]
          · by_cases z0 : j = 5 * S 61 50
            · simp [z0]
            · simp [z4, z3, z2, z1, z0, M.1 84 j rfl]
theorem wf_sy1 (W : wf_S S) {p h t w nt : Nat} (hn : S 61 50 < 20) (hp : p < S 61 4) (hh : h < 24) (ht : t < S 61 5) (hw : w < 5) (hnt : nt ≤ 1) : wf_S (sy_S S p h t w nt) := by
  have a := sy_ag (S := S) p h t w nt
  refine wf_sy a W ⟨by rw [sy_50]; omega, fun i hi => ?_⟩
  rw [sy_50] at hi
  unfold wf_say
  rw [a 61 4 rfl, a 61 5 rfl]
  by_cases z : i = S 61 50
  · subst z
    obtain ⟨n0, n1, n2, n3, n4⟩ := sy_n (S := S) (p := p) (h := h) (t := t) (w := w) (nt := nt)
    rw [n0, n1, n2, n3, n4]
    exact ⟨hp, hh, ht, hw, hnt⟩
  · rw [sy_o (by omega), sy_o (by omega), sy_o (by omega), sy_o (by omega), sy_o (by omega)]
    exact W.2.2.1.2 i (by omega)
end LG
