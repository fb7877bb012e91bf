/-! mend, whole -/
def mhP (S : et_T) (Y : Nat → Prop) (i w : Nat) : Prop := (¬ Y i ∧ w = S 84 (5 * i + 3)) ∨ (Y i ∧ a_HH S (a_al S) Y i ∧ ∃ c, a_lev S (a_al S) Y i c ∧ a_fw S (a_al S) Y i c w) ∨ (Y i ∧ ¬ a_HH S (a_al S) Y i ∧ w = 4)
def w_md (k j : Nat) : Bool := w_gr k j || (k == 59 && j == 3) || k == 60
def w_mm (k j : Nat) : Bool := w_rk k j || (k == 94 && Nat.ble (j + 1) 20)
def okV (S : et_T) (g : et_G) (FC : Option (Int32 × et_G)) (FM : et_G → Option (Int32 × et_G)) : Prop := ∃ (v : Int32) (Fam : et_T → Prop), ev_Q FC (fun a g' => a = v ∧ (∀ S', Fam S' → rc_C S' g' ∧ rc_G S' g') ∧ fq w_C g g') ∧
  (∀ g1, rc_M S g1 → ev_Q (FM g1) (fun a g' => a = v ∧ g'.1 61 0 = 0 ∧ fq w_M g1 g' ∧ ∃ S', Fam S' ∧ rc_M S' g')) ∧ ∀ S', Fam S' → wf_S S' ∧ wf_4 S'
section MV
variable {S : et_T}
theorem mhP_u {Y : Nat → Prop} {i w v : Nat} (h1 : mhP S Y i w) (h2 : mhP S Y i v) : w = v := by
  rcases h1 with a | a | a
  · rcases h2 with b | b | b
    · rw [a.2, b.2]
    · exact absurd b.1 a.1
    · exact absurd b.1 a.1
  · rcases h2 with b | b | b
    · exact absurd a.1 b.1
    · obtain ⟨-, -, c, c1, c2⟩ := a
      obtain ⟨-, -, d, d1, d2⟩ := b
      have := a_lev_u c1 d1
      subst this
      exact a_fw_u c2 d2
    · exact absurd a.2.1 b.2.1
  · rcases h2 with b | b | b
    · exact absurd a.1 b.1
    · exact absurd b.2.1 a.2.1
    · rw [a.2.2, b.2.2]
theorem md_gr {g g' : et_G} (h : fq w_gr g g') : fq w_md g g' := fq_w h (fun k j e => by
  unfold w_md at e
  simp only [Bool.or_eq_false_iff] at e
  exact e.1.1)
theorem kf_52 {g0 : et_G} {y n : Nat} (hy : y < 65536) (hn : n ≤ 12) (h59 : g0.1 59 3 = nI n) (h38 : ∀ i, i < n → g0.1 38 i = nI (S 84 (5 * i + 3))) (h13 : g0.1 48 13 = mI (a_HH S (a_al S) (nS y)))
    (h56 : ∀ i, i < n → nS y i → a_HH S (a_al S) (nS y) i → ∃ c w, a_lev S (a_al S) (nS y) i c ∧ a_fw S (a_al S) (nS y) i c w ∧ g0.1 56 i = nI w) : ev_Q (fn_Me_keepFewest_52 (nI y) 1000000 0 g0) (fun v g => v = nI (pop 31 y) ∧ fq (fun k _ => k == 60) g0 g ∧ ∀ i, i < n → ∃ w, mhP S (nS y) i w ∧ g.1 60 i = nI w) := by
  refine lp0 (fun m k (s : et_G) => fn_Me_keepFewest_52 (nI y) m k s) (fun o => ev_Q o (fun v g => v = nI (pop 31 y) ∧ fq (fun k _ => k == 60) g0 g ∧ ∀ i, i < n → ∃ w, mhP S (nS y) i w ∧ g.1 60 i = nI w)) n (by omega) (fun k s => fq (fun k _ => k == 60) g0 s ∧ ∀ i, i < k → ∃ w, mhP S (nS y) i w ∧ s.1 60 i = nI w) g0 ⟨fq_r _ _, fun i hi => by omega⟩ ?_ ?_
  · intro m s ⟨f, h⟩
    show ev_Q (fn_Me_keepFewest_52 (nI y) (m + 1) (nI n) s) _
    rw [fn_Me_keepFewest_52, show s.1 59 3 = nI n from by rw [f.1 59 3 rfl]; exact h59, if_pos (nI_le (Nat.le_refl _) (by omega))]
    unfold fn_Me_keepFewest_125
    rw [bc_e hy, bd_s]
    exact ev_r ⟨rfl, f, h⟩
  · intro m k s hk ⟨f, h⟩ ih
    show ev_Q (fn_Me_keepFewest_52 (nI y) (m + 1) (nI k) s) _
    have up : ∀ x w, x = nI w → mhP S (nS y) k w → ev_Q (fn_Me_keepFewest_52 (nI y) m (nI (k + 1)) (et_si s 60 k x)) (fun v g => v = nI (pop 31 y) ∧ fq (fun k _ => k == 60) g0 g ∧ ∀ i, i < n → ∃ w, mhP S (nS y) i w ∧ g.1 60 i = nI w) := by
      intro x w hx hw
      refine ih _ ⟨fq_s f rfl, fun i hi => ?_⟩
      by_cases e : i = k
      · subst e; exact ⟨w, hw, by rw [si_e, hx]⟩
      · rw [si_j e]; exact h i (by omega)
    have e38 : s.1 38 k = nI (S 84 (5 * k + 3)) := by rw [f.1 38 k rfl]; exact h38 k hk
    have e13 : s.1 48 13 = mI (a_HH S (a_al S) (nS y)) := by rw [f.1 48 13 rfl]; exact h13
    rw [fn_Me_keepFewest_52, show s.1 59 3 = nI n from by rw [f.1 59 3 rfl]; exact h59, if_neg (nI_ge hk (by omega))]
    simp (disch := omega) only [ni_of, nI_clamp, ib_e, ck_t, bd_s, et_b, nI_add, if_p, ni_eq, ni_lt, ni_le, b_e0, b_e1, io_n, hb_n, e38, e13, hb_m]
    by_cases hyk : y.testBit k = true
    · rw [io_t hyk]
      by_cases hh : a_HH S (a_al S) (nS y) k
      · rw [io_t hh]
        obtain ⟨c, w, c1, c2, c3⟩ := h56 k hk hyk hh
        exact up _ w (by rw [f.1 56 k rfl]; exact c3) (Or.inr (Or.inl ⟨hyk, hh, c, c1, c2⟩))
      · rw [io_f hh]
        exact up _ 4 rfl (Or.inr (Or.inr ⟨hyk, hh, rfl⟩))
    · rw [io_f hyk]
      exact up _ _ rfl (Or.inl ⟨hyk, rfl⟩)
theorem kf_c {g : et_G} (A : gA S g) (hn12 : S 61 50 ≤ 12) {y : Nat} (F : fst (gdP S) (2 ^ S 61 50) y) : ev_Q (fn_Me_keepFewest g) (fun v g' => v = nI (pop 31 y) ∧ fq w_md g g' ∧ g'.1 59 3 = nI (S 61 50) ∧ (∀ i, i < S 61 50 → ∃ w, mhP S (nS y) i w ∧ g'.1 60 i = nI w) ∧ g'.1 48 15 = nI 0) := by
  have p12 : (2 : Nat) ^ S 61 50 ≤ 2 ^ 12 := Nat.pow_le_pow_right (by decide) hn12
  have hy := F.1
  unfold fn_Me_keepFewest
  refine ev_d (lyg_c A) (fun _ g1 ⟨L1, f1⟩ => ?_)
  unfold fn_Gr_forget
  refine ev_d (eb_q (ev_r (Q := fun _ g2 => g2 = et_si g1 48 15 0) rfl)) (fun _ g2 hg2 => ?_)
  subst hg2
  have fa : fq w_gr g (et_si g1 48 15 0) := fq_s (ly_gr f1) rfl
  have A2 := gA_gr fa A
  have L2 : gL S (et_si g1 48 15 0) := gL_q (W := fun k j => k == 48 && j == 15) (fq_s (fq_r _ _) rfl) ⟨fun _ => rfl, fun _ => rfl, fun _ => rfl, fun _ => rfl, fun _ => rfl, rfl⟩ L1
  refine ev_d (fw_c A2 L2 hn12 F) (fun v g3 ⟨hv, f3⟩ => ?_)
  subst hv
  have A3 := gA_3 f3 A2
  have L3 := gL_3 f3 L2
  rw [ev_c' A3, bd_s, nS_m (show y < 2 ^ 32 by omega)]
  refine ev_d (ri_c A3 L3 (a_al S) (nS y)) (fun _ g4 ⟨R4, f4⟩ => ?_)
  have A4 := gA_3 f4 A3
  refine eb_q ?_
  have e34 := (gA_n A4).1
  have es : (if (12 : Int32) < (g4.1 34 0) then (12 : Int32) else (g4.1 34 0)) = nI (S 61 50) := by
    rw [e34, if_neg (show ¬ (12 : Int32) < nI (S 61 50) from nI_nlt (a := 12) hn12 (by decide))]
  rw [es, ← nS_m (show y < 2 ^ 32 by omega)]
  have f34 := fq_t f3 f4
  refine ev_w (kf_52 (S := S) (g0 := et_si g4 59 3 (nI (S 61 50))) (y := y) (n := S 61 50) (by omega) hn12 si_e (fun i hi => ?_) ?_ (fun i hi hyi hh => ?_)) (fun v g5 ⟨h1, h2, h3⟩ => ⟨h1, ?_, ?_, h3, ?_⟩)
  · rw [si_x (by decide)]; exact (gA_s A4 hi).2.2.2.1
  · rw [si_x (by decide)]; exact R4.1
  · rw [si_x (by decide)]; exact R4.2.2.2 i hi hyi hh
  · exact fq_t (fq_s (md_gr (fq_t fa (r3_gr f34))) rfl) (fq_w h2 (fun k j e => by
      unfold w_md at e
      simp only [Bool.or_eq_false_iff] at e
      exact e.2))
  · rw [h2.1 59 3 rfl, si_e]
  · rw [h2.1 48 15 rfl, si_x (by decide), f34.1 48 15 rfl, si_e]; rfl
theorem mcp_3 {g : et_G} : ev_Q (fn_Mo_copies_87_94 g) (fun _ g' => fq (fun k j => k == 94 && Nat.ble (j + 1) 20) g g' ∧ ∀ i, i < 20 → g'.1 94 i = g.1 87 i) := by
  unfold fn_Mo_copies_87_94
  refine lp0 (fun m i (s : et_G) => fn_Mo_copies_87_94_2 m i s) (fun o => ev_Q o (fun _ g' => fq (fun k j => k == 94 && Nat.ble (j + 1) 20) g g' ∧ ∀ i, i < 20 → g'.1 94 i = g.1 87 i)) 20 (by omega) (fun k s => fq (fun k j => k == 94 && Nat.ble (j + 1) 20) g s ∧ ∀ i, i < k → s.1 94 i = g.1 87 i) g ⟨fq_r _ _, fun i hi => by omega⟩ ?_ ?_
  · intro m s h
    show ev_Q (fn_Mo_copies_87_94_2 (m + 1) (nI 20) s) _
    rw [fn_Mo_copies_87_94_2, if_pos (by decide)]
    exact ev_r h
  · intro m k s hk ⟨h1, h2⟩ ih
    show ev_Q (fn_Mo_copies_87_94_2 (m + 1) (nI k) s) _
    rw [fn_Mo_copies_87_94_2]
    simp (disch := omega) only [ni_of, nI_clamp, ib_e, ck_t, bd_s, et_b, nI_add, if_p, ni_eq, ni_lt, ni_le, b_e0, b_e1, io_n]
    rw [io_f (by omega)]
    refine ih _ ⟨fq_s h1 (by simp [Nat.ble_eq.mpr (show k + 1 ≤ 20 from hk)]), fun i hi => ?_⟩
    by_cases e : i = k
    · rw [e, si_e, h1.1 87 k rfl]
    · rw [si_j e]; exact h2 i (by omega)
theorem mm_69 {g : et_G} {k : Nat} (hn : S 61 50 ≤ 20) (hk : k < 2 ^ 20) (n50 : g.1 61 50 = nI (S 61 50)) (hr : ∀ s, s < S 61 50 → g.1 86 s = nI (rg g s) ∧ rg g s ≤ 1000 ∧ (rg g s < 1000 ↔ a_HH S (a_al S) (nS k) s)) (r26 : Int32 → Int32 → et_G → Option (Int32 × et_G)) (x1 : Int32) (Q : Option (Int32 × et_G) → Prop)
    (kk : Q (fn_Mo_mend_117 r26 x1 (nI k) (bI (gdP S k)) g)) : Q (fn_Mo_mend_69 r26 x1 (nI k) 1000000 1 0 g) := by
  refine lp0 (fun m i (y : Int32) => fn_Mo_mend_69 r26 x1 (nI k) m y i g) Q (S 61 50) (by omega) (fun j y => y = bI (∀ s, s < j → nS k s ∨ a_HH S (a_al S) (nS k) s)) 1 (bI_t (fun s hs => by omega)).symm ?_ ?_
  · intro m y h
    show Q (fn_Mo_mend_69 r26 x1 (nI k) (m + 1) y (nI (S 61 50)) g)
    rw [fn_Mo_mend_69, n50, if_pos (nI_le (Nat.le_refl _) (by omega)), h]
    exact kk
  · intro m j y hj h ih
    show Q (fn_Mo_mend_69 r26 x1 (nI k) (m + 1) y (nI j) g)
    obtain ⟨r1, r2, r3⟩ := hr j hj
    rw [fn_Mo_mend_69, n50, if_neg (nI_ge hj (by omega)), h]
    unfold fn_Mo_mend_105
    simp (disch := omega) only [ni_of, nI_clamp, ib_e, ck_t, bd_s, et_b, nI_add, if_p, ni_eq, ni_lt, ni_le, b_e0, b_e1, io_n, mb_n, r1]
    have yes : (∀ s, s < j → nS k s ∨ a_HH S (a_al S) (nS k) s) → (nS k j ∨ a_HH S (a_al S) (nS k) j) → nI 1 = bI (∀ s, s < j + 1 → nS k s ∨ a_HH S (a_al S) (nS k) s) := fun a b => (bI_t fun s hs => by
      by_cases e : s = j
      · subst e; exact b
      · exact a s (by omega)).symm
    by_cases h1 : ∀ s, s < j → nS k s ∨ a_HH S (a_al S) (nS k) s
    · rw [io_t h1]
      by_cases h2 : k.testBit j = true
      · rw [io_t h2]; exact ih _ (yes h1 (Or.inl h2))
      · rw [io_f h2]
        by_cases h3 : 1000 ≤ rg g j
        · rw [io_t h3]
          refine ih _ (bI_f (fun z => ?_)).symm
          rcases z j (by omega) with q | q
          · exact h2 q
          · have := r3.mpr q; omega
        · rw [io_f h3]; exact ih _ (yes h1 (Or.inr (r3.mp (by omega))))
    · rw [io_f h1]; exact ih _ (bI_f (fun z => h1 fun s hs => z s (by omega))).symm
theorem w_mm_r {g g' : et_G} (h : fq w_rk g g') : fq w_mm g g' := fq_w h (fun k j e => by
  unfold w_mm at e
  simp only [Bool.or_eq_false_iff] at e
  exact e.1)
def S94 (S : et_T) (g : et_G) : et_T := fun k j => if k = 94 ∧ j < 20 then (g.1 94 j).toBitVec.toNat else S k j
theorem S94_ag (g : et_G) : ag (fun k _ => k == 94) S (S94 S g) := fun k j e => by
  unfold S94
  rw [if_neg (fun z => by rw [z.1] at e; cases e)]
theorem S94_e (g : et_G) : sE S (S94 S g) := sE_of (S94_ag g) rfl rfl rfl rfl rfl (fun _ => rfl) (fun _ => rfl) (fun _ => rfl) (fun _ => rfl) (fun _ => rfl)
theorem w_mm_c {k j : Nat} (h : w_mm k j = true) : k = 86 ∨ k = 87 ∨ k = 91 ∨ (k = 61 ∧ (j = 60 ∨ j = 61 ∨ j = 62)) ∨ (k = 94 ∧ j < 20) := by
  unfold w_mm w_rk at h
  simp only [Bool.or_eq_true, Bool.and_eq_true, beq_iff_eq, Nat.ble_eq] at h
  omega
theorem S94_M {g0 g : et_G} (M : rc_M S g0) (f : fq w_mm g0 g) : rc_M (S94 S g) g := by
  refine ⟨fun k j h => ?_, ?_, ?_⟩
  · by_cases e : k = 94 ∧ j < 20
    · unfold S94
      rw [if_pos e, e.1]
      exact nI_x _
    · have w : w_mm k j = false := by
        cases q : w_mm k j with
        | false => rfl
        | true =>
          have a := w_mm_c q
          have b := mq_c (show mq k j = true by unfold mq; rw [h]; rfl)
          omega
      unfold S94
      rw [if_neg e, f.1 k j w]; exact M.1 k j h
  · rw [f.1 61 19 rfl, S94_ag g 61 19 rfl]; exact M.2.1
  · rw [f.1 61 65 rfl, S94_ag g 61 65 rfl]; exact M.2.2
theorem S94_B {g0 g : et_G} (W : wf_town S ∧ wf_led S) (M : rc_M S g0) (f : fq w_mm g0 g) : mB (S94 S g) g := by
  have a := S94_ag (S := S) g
  have h1 := W.1
  have h2 := W.2
  exact ⟨S94_M M f, (wf_town_q a ⟨rfl, rfl, rfl, rfl, rfl, rfl, fun _ => rfl, fun _ => rfl, fun _ => rfl, fun _ => rfl, fun _ => rfl⟩ h1), (wf_led_q a ⟨rfl, rfl, rfl, fun _ => rfl⟩ h2)⟩
theorem S94_A {g0 g : et_G} {np : Nat} {P H O : Nat → Nat} (A : mA S np P H O g0) (f : fq w_mm g0 g) : mA (S94 S g) np P H O g := by
  have a := S94_ag (S := S) g
  obtain ⟨M1, M0, M2, M3⟩ := A
  have e84 : S94 S g 84 = S 84 := ag_row a (fun _ => rfl)
  refine ⟨by rw [f.1 61 59 rfl]; exact M1, M0, fun k hk => ?_, fun s hs => ?_⟩
  · rw [f.1 88 k rfl, f.1 89 k rfl, a 61 4 rfl]; exact M2 k hk
  · rw [a 61 50 rfl] at hs
    rw [f.1 90 s rfl, e84]; exact M3 s hs
theorem mm_s {g0 g : et_G} {np : Nat} {P H O : Nat → Nat} (W : wf_town S ∧ wf_led S) (M : rc_M S g0) (A : mA S np P H O g0) (f : fq w_mm g0 g) (Y : Nat → Prop) : ev_Q (fn_Mo_reckons (mI (a_al S)) (mI Y) g) (fun _ g' => fq w_rk g g' ∧ (∀ s, s < S 61 50 → g'.1 86 s = nI (rg g' s) ∧ rg g' s ≤ 1000 ∧ (rg g' s < 1000 ↔ a_HH S (a_al S) Y s)) ∧ ∀ i, i < S 61 50 → ∃ w, mhP S Y i w ∧ g'.1 87 i = nI w) := by
  have B := S94_B W M f
  have A' := S94_A A f
  have E := S94_e (S := S) g
  have e50 : S94 S g 61 50 = S 61 50 := E.2.2.2.2.1
  have e84 : S94 S g 84 = S 84 := E.2.2.2.2.2.2.2.2.2
  have eal : a_al (S94 S g) = a_al S := a_al_e E
  have r := rk_c B A' (a_al S) Y
  refine ev_w r (fun _ g' ⟨J, F, T⟩ => ⟨J.1, fun s hs => ?_, fun i hi => ?_⟩)
  · have hs' : s < S94 S g 61 50 := by rw [e50]; exact hs
    obtain ⟨j1, j2, -⟩ := J.2.2.2.1 s hs'
    have q := (rg_f B J F hs').1
    rw [a_HH_e E] at q
    exact ⟨j1, j2, q⟩
  · have t := T i (by rw [e50]; exact hi)
    rw [a_HH_e E, a_lev_e E, a_fw_e E, e84] at t
    by_cases hy : Y i
    · obtain ⟨t1, t2⟩ := t.2 hy hi
      by_cases hh : a_HH S (a_al S) Y i
      · obtain ⟨c, w, c1, c2, c3⟩ := t1 hh
        exact ⟨w, Or.inr (Or.inl ⟨hy, hh, c, c1, c2⟩), c3⟩
      · exact ⟨4, Or.inr (Or.inr ⟨hy, hh, rfl⟩), t2 hh⟩
    · exact ⟨_, Or.inl ⟨hy, rfl⟩, t.1 hy⟩
theorem mm_26 {g0 : et_G} {np : Nat} {P H O : Nat → Nat} (W : wf_town S ∧ wf_led S) (M0 : rc_M S g0) (A : mA S np P H O g0) (hn12 : S 61 50 ≤ 12) {y : Nat} (F : fst (gdP S) (2 ^ S 61 50) y) : ev_Q (fn_Mo_mend_26 1000000 (-1) 0 g0) (fun v g => v = nI (pop 31 y) ∧ ∃ g1, fq w_mm g0 g1 ∧ g = et_si g1 61 65 (nI (S 61 50)) ∧ ∀ i, i < S 61 50 → ∃ w, mhP S (nS y) i w ∧ g1.1 94 i = nI w) := by
  have p12 : (2 : Nat) ^ S 61 50 ≤ 2 ^ 12 := Nat.pow_le_pow_right (by decide) hn12
  have n50 : ∀ s, fq w_mm g0 s → s.1 61 50 = nI (S 61 50) := fun s f => by rw [f.1 61 50 rfl]; exact M0.1 61 50 rfl
  have key : ∀ k n, pop k n ≤ k := fun k n => by
    induction k with
    | zero => exact Nat.le_refl _
    | succ k ih => show pop k n + n / 2 ^ k % 2 ≤ k + 1; omega
  refine lp0 (fun m i (s : Int32 × et_G) => fn_Mo_mend_26 m s.1 i s.2) (fun o => ev_Q o (fun v g => v = nI (pop 31 y) ∧ ∃ g1, fq w_mm g0 g1 ∧ g = et_si g1 61 65 (nI (S 61 50)) ∧ ∀ i, i < S 61 50 → ∃ w, mhP S (nS y) i w ∧ g1.1 94 i = nI w)) (2 ^ S 61 50) (by omega)
    (fun k s => fq w_mm g0 s.2 ∧ ((s.1 = -1 ∧ ∀ z, z < k → ¬ gdP S z) ∨ ∃ b, s.1 = nI b ∧ fst (gdP S) k b ∧ ∀ i, i < S 61 50 → ∃ w, mhP S (nS b) i w ∧ s.2.1 94 i = nI w)) (-1, g0) ⟨fq_r _ _, Or.inl ⟨rfl, fun z hz => by omega⟩⟩ ?_ ?_
  · intro m s ⟨f, h⟩
    show ev_Q (fn_Mo_mend_26 (m + 1) s.1 (nI (2 ^ S 61 50)) s.2) _
    rw [fn_Mo_mend_26, n50 s.2 f]
    simp (disch := omega) only [ni_of, sl_n, ni_le, Nat.le_refl, if_true]
    rcases h with h | ⟨b, b1, b2, b3⟩
    · exact absurd F.2.1 (h.2 y F.1)
    · have : b = y := fst_u b2 F
      subst this
      unfold fn_Mo_mend_144
      rw [b1, n50 s.2 f]
      refine eb_q ?_
      show ev_Q (et_bd (fn_Mo_bits (nI b) (et_si s.2 61 65 (nI (S 61 50)))) _) _
      have := F.1
      rw [bi_e (by omega), bd_s]
      exact ev_r ⟨rfl, s.2, f, rfl, b3⟩
  · intro m k s hk ⟨f, h⟩ ih
    show ev_Q (fn_Mo_mend_26 (m + 1) s.1 (nI k) s.2) _
    have p55 : ((s.1 = -1 ∧ ∀ z, z < k → ¬ gdP S z) ∨ ∃ b, s.1 = nI b ∧ fst (gdP S) k b ∧ pop 31 k < pop 31 b ∧ ∀ i, i < S 61 50 → ∃ w, mhP S (nS b) i w ∧ s.2.1 94 i = nI w) → ev_Q (fn_Mo_mend_55 (fun z1 z2 g => fn_Mo_mend_26 m z1 z2 g) s.1 (nI k) s.2) (fun v g => v = nI (pop 31 y) ∧ ∃ g1, fq w_mm g0 g1 ∧ g = et_si g1 61 65 (nI (S 61 50)) ∧ ∀ i, i < S 61 50 → ∃ w, mhP S (nS y) i w ∧ g1.1 94 i = nI w) := by
      intro hx
      have B := S94_B W M0 f
      have eal : fn_Mo_all s.2 = some (mI (a_al S), s.2) := by
        have := al_m B
        rw [a_al_e (S94_e (S := S) s.2)] at this
        exact this
      unfold fn_Mo_mend_55
      rw [eal, bd_s]
      have r := mm_s W M0 A f (nS k)
      rw [← nS_m (show k < 2 ^ 32 by omega)] at r
      refine ev_d r (fun _ g1 ⟨f1, h1, h2⟩ => ?_)
      have f01 := fq_t f (w_mm_r f1)
      refine mm_69 (S := S) (by omega) (by omega) (n50 g1 f01) h1 _ _ (fun o => ev_Q o _) ?_
      unfold fn_Mo_mend_117
      by_cases g : gdP S k
      · rw [bI_t g, if_neg (by decide)]
        refine ev_d mcp_3 (fun _ g2 ⟨q1, q2⟩ => ?_)
        refine eb_q ?_
        show ev_Q (fn_Mo_mend_26 m (nI k) (nI k + nI 1) g2) _
        rw [nI_add]
        refine ih (nI k, g2) ⟨fq_t f01 (fq_w q1 (fun k j e => ?_)), Or.inr ⟨k, rfl, ?_, fun i hi => ?_⟩⟩
        · unfold w_mm at e
          simp only [Bool.or_eq_false_iff] at e
          exact e.2
        · rcases hx with hx | ⟨b, b1, b2, b3, -⟩
          · exact fst_0 hx.2 g
          · exact fst_n b2 g b3
        · obtain ⟨w, w1, w2⟩ := h2 i hi
          exact ⟨w, w1, by rw [q2 i (by omega)]; exact w2⟩
      · rw [bI_f g, if_pos nI_0]
        refine eb_q ?_
        show ev_Q (fn_Mo_mend_26 m s.1 (nI k + nI 1) g1) _
        rw [nI_add]
        refine ih (s.1, g1) ⟨f01, ?_⟩
        rcases hx with hx | ⟨b, b1, b2, b3, b4⟩
        · refine Or.inl ⟨hx.1, fun z hz => ?_⟩
          by_cases e : z = k
          · subst e; exact g
          · exact hx.2 z (by omega)
        · refine Or.inr ⟨b, b1, fst_k b2 (Or.inl g), fun i hi => ?_⟩
          obtain ⟨w, w1, w2⟩ := b4 i hi
          exact ⟨w, w1, by rw [f1.1 94 i rfl]; exact w2⟩
    rw [fn_Mo_mend_26, n50 s.2 f]
    simp (disch := omega) only [ni_of, sl_n, ni_le]
    rw [if_neg (by omega)]
    rcases h with h | ⟨b, b1, b2, b3⟩
    · rw [if_pos (show s.1 = -nI 1 from h.1)]
      exact p55 (Or.inl h)
    · have hb := b2.1
      rw [if_neg (show ¬ s.1 = -nI 1 from fun e => by rw [b1] at e; exact nI_pos (show b < 2 ^ 31 by omega) (by rw [e]; decide)), bi_e (by omega), bd_s, b1, bi_e (by omega), bd_s, ← b1]
      have k1 := key 31 k
      have k2 := key 31 b
      by_cases hp : pop 31 k < pop 31 b
      · rw [if_pos (nI_lt hp (by omega))]
        exact p55 (Or.inr ⟨b, b1, b2, hp, b3⟩)
      · rw [if_neg (nI_nlt (by omega) (by omega))]
        refine eb_q ?_
        show ev_Q (fn_Mo_mend_26 m s.1 (nI k + nI 1) s.2) _
        rw [nI_add]
        exact ih (s.1, s.2) ⟨f, Or.inr ⟨b, b1, fst_k b2 (Or.inr (by omega)), b3⟩⟩
theorem ok_mend {g : et_G} (I : Iv S g) : okV S g (fn_Et_mend g) fn_Mo_mend := by
  have A := Iv_gA I
  have hn := gA_n A
  have hw := I.2.2.2.1.2.1
  by_cases h12 : S 61 50 ≤ 12
  · have p12 : (2 : Nat) ^ S 61 50 ≤ 2 ^ 12 := Nat.pow_le_pow_right (by decide) h12
    obtain ⟨y, F⟩ := fst_ex (G := gdP S) (2 ^ S 61 50) ⟨2 ^ S 61 50 - 1, by have := Nat.two_pow_pos (S 61 50); omega, gd_all (by omega)⟩
    have vag : ∀ S', (ag (fun k j => k == 94 || (k == 61 && j == 65)) S S' ∧ S' 61 65 = S 61 50 + 1 ∧ ∀ i, i < S 61 50 → mhP S (nS y) i (S' 94 i)) → wf_S S' ∧ wf_4 S' := by
      intro S' ⟨a, e, _⟩
      obtain ⟨f0, f1, f2, f3, f4, f5, f6⟩ := I.2.2.2.1
      exact ⟨⟨(wf_tape_q a ⟨rfl, fun _ => rfl⟩ f0), (wf_town_q a ⟨rfl, rfl, rfl, rfl, rfl, rfl, fun _ => rfl, fun _ => rfl, fun _ => rfl, fun _ => rfl, fun _ => rfl⟩ f1), (wf_led_q a ⟨rfl, rfl, rfl, fun _ => rfl⟩ f2), (wf_mind_q a ⟨rfl, rfl, rfl⟩ f3), (wf_kept_q a ⟨rfl, rfl, rfl, rfl, rfl, rfl, fun _ => rfl⟩ f4), (wf_ways_q a ⟨rfl, fun _ => rfl⟩ f5), by unfold wf_mend; rw [e]; omega⟩, wf4_q a rfl rfl rfl rfl rfl rfl I.2.2.2.2⟩
    refine ⟨nI (pop 31 y), fun S' => ag (fun k j => k == 94 || (k == 61 && j == 65)) S S' ∧ S' 61 65 = S 61 50 + 1 ∧ ∀ i, i < S 61 50 → mhP S (nS y) i (S' 94 i), ?_, fun g1 M => ?_, vag⟩
    · unfold fn_Et_mend
      rw [hn.1, if_pos (show nI (S 61 50) ≤ (12 : Int32) from nI_le (b := 12) h12 (by decide))]
      refine ev_d (kf_c A h12 F) (fun v g' ⟨h1, f, h3, h4, h5⟩ => ev_r ⟨h1, fun S' ⟨a, e, hm⟩ => ⟨?_, ?_⟩, w_C_of f (fun k j e => ?_)⟩)
      · obtain ⟨r0, r1, r2, r3, r4, r5, r6, r7, r8⟩ := I.1
        refine ⟨(rc_tape_q f a ⟨rfl, fun _ => rfl⟩ ⟨rfl, fun _ => rfl⟩ r0), (rc_tong_q f a ⟨rfl, rfl, fun _ => rfl, fun _ => rfl⟩ ⟨rfl, rfl, fun _ => rfl, fun _ => rfl, fun _ => rfl, fun _ => rfl⟩ r1), (rc_town_q f a ⟨rfl, rfl, rfl, rfl, rfl, rfl, fun _ => rfl, fun _ => rfl, fun _ => rfl, fun _ => rfl, fun _ => rfl, fun _ => rfl, fun _ => rfl, fun _ => rfl⟩ ⟨rfl, rfl, rfl, rfl, fun _ => rfl, fun _ => rfl, fun _ => rfl, fun _ => rfl, fun _ => rfl⟩ r2), (rc_led_q f a ⟨rfl, fun _ => rfl, fun _ => rfl, fun _ => rfl, fun _ => rfl, fun _ => rfl⟩ ⟨rfl, fun _ => rfl⟩ r3), (rc_kept_q f a ⟨rfl, rfl, fun _ => rfl, fun _ => rfl, fun _ => rfl, fun _ => rfl, fun _ => rfl, rfl, rfl⟩ ⟨rfl, rfl, rfl, rfl, fun _ => rfl⟩ r4), (rc_mind_q f a ⟨rfl, rfl⟩ ⟨rfl, rfl⟩ r5), (rc_ways_q f a ⟨rfl, fun _ => rfl⟩ ⟨rfl, fun _ => rfl⟩ r6), ⟨?_, fun i hi => ?_⟩, (rc_misc_q f a ⟨rfl, rfl, rfl, rfl⟩ ⟨rfl, fun _ => rfl⟩ r8)⟩
        · rw [h3, e]; exact (nI_pred _).symm
        · rw [e] at hi
          obtain ⟨w, w1, w2⟩ := h4 i (by omega)
          rw [w2, mhP_u w1 (hm i (by omega))]
      · exact ⟨Or.inl h5, fun z => by rw [h5] at z; exact absurd z (by decide)⟩
      · unfold w_md w_gr at e
        simp only [Bool.or_eq_true, Bool.and_eq_true, beq_iff_eq, Nat.ble_eq] at e
        omega
    · unfold fn_Mo_mend
      refine eb_q ?_
      show ev_Q (if ((et_si g1 61 0 0).1 61 50) ≤ (12 : Int32) then _ else _) _
      have M0 := t0_m M 0
      have b0 : (et_si g1 61 0 0).1 61 0 = 0 := si_e
      rw [M0.1 61 50 rfl, if_pos (show nI (S 61 50) ≤ (12 : Int32) from nI_le (b := 12) h12 (by decide))]
      refine ev_d (as_0 (Iv_mB I M0) 0) (fun _ g2 ⟨a1, B2, np, P, H, O, A2⟩ => ?_)
      refine ev_w (mm_26 ⟨hw, I.2.2.2.1.2.2.1⟩ B2.1 A2 h12 F) (fun v g3 ⟨h1, g4, f4, h2, h3⟩ => ⟨h1, ?_, ?_, ?_⟩)
      · rw [h2, si_j (by decide), f4.1 61 0 rfl, a1.1 61 0 rfl]; exact b0
      · rw [h2]
        refine fq_t (t0_M 0) (fq_t (sc_M (as_sc a1)) (fq_s (w_M_of f4 (fun k j e => ?_)) rfl))
        have := w_mm_c e; omega
      · refine ⟨su (S94 S g4) 61 65 (S 61 50 + 1), ⟨fun k j e => ?_, su_e, fun i hi => ?_⟩, ?_⟩
        · simp only [Bool.or_eq_false_iff] at e
          unfold su
          rw [if_neg (fun z => by rw [z.1, z.2] at e; cases e.2)]
          exact S94_ag g4 k j e.1
        · rw [su_x (by decide)]
          obtain ⟨w, w1, w2⟩ := h3 i hi
          have e : S94 S g4 94 i = w := by
            unfold S94
            rw [if_pos ⟨rfl, by omega⟩, w2, pk_tn]
            rcases w1 with z | z | z
            · have := (gA_w A hi).2.2.2.1; omega
            · obtain ⟨-, -, c, -, z⟩ := z; have := z.1; omega
            · omega
          rw [e]; exact w1
        · rw [h2]
          have M4 := S94_M B2.1 f4
          refine ⟨fun k j e => ?_, ?_, ?_⟩
          · have ne : ¬ (k = 61 ∧ j = 65) := fun z => by rw [z.1, z.2] at e; exact absurd e (by decide)
            unfold su
            rw [si_g, if_neg ne, if_neg ne]
            exact M4.1 k j e
          · rw [si_j (by decide), su_j (by decide)]; exact M4.2.1
          · rw [si_e, su_e]; exact (nI_pred _).symm
  · refine ⟨-1, fun S' => S' = S, ?_, fun g1 M => ?_, fun S' e => by subst e; exact ⟨I.2.2.2.1, I.2.2.2.2⟩⟩
    · unfold fn_Et_mend
      rw [hn.1, if_neg (show ¬ nI (S 61 50) ≤ (12 : Int32) from nI_ge (a := 12) (by omega) (by omega))]
      exact ev_r ⟨rfl, fun S' e => by subst e; exact ⟨I.1, I.2.1⟩, fq_r _ _⟩
    · unfold fn_Mo_mend
      refine eb_q ?_
      show ev_Q (if ((et_si g1 61 0 0).1 61 50) ≤ (12 : Int32) then _ else _) _
      have M0 := t0_m M 0
      rw [M0.1 61 50 rfl, if_neg (show ¬ nI (S 61 50) ≤ (12 : Int32) from nI_ge (a := 12) (by omega) (by omega))]
      exact ev_r ⟨rfl, si_e, t0_M 0, S, rfl, M0⟩
end MV
