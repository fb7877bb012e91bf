/-! the rounds' end -/
def a_nd (S : et_T) (X Y : Nat → Prop) (r j : Nat) : Prop := (j < 20 ∧ a_H S X Y r j) ∨ (20 ≤ j ∧ a_C S X Y r (S 84 (5 * ((j - 20) / 8))) (S 84 (5 * ((j - 20) / 8) + 1)) ((j - 20) % 8))
section RE
variable {S : et_T} {X Y : Nat → Prop} {r : Nat}
theorem nd_m (j : Nat) (h : a_nd S X Y r j) : a_nd S X Y (r + 1) j := by
  rcases h with h | h
  · exact Or.inl ⟨h.1, (a_up1 S X Y r).1 j h.2⟩
  · exact Or.inr ⟨h.1, (a_up1 S X Y r).2 _ _ _ h.2⟩
theorem a_C_t {p h t : Nat} (k : a_C S X Y r p h t) : t < S 61 5 := by
  cases r with
  | zero => exact k.elim
  | succ r => exact k.1
theorem wmv_t (hw : wf_town S) {i : Nat} (h : a_wm S X Y r i) : ∃ t, t < 8 ∧ a_C S X Y (r + 1) (S 84 (5 * i)) (S 84 (5 * i + 1)) t ∧ ¬ a_C S X Y r (S 84 (5 * i)) (S 84 (5 * i + 1)) t := by
  refine Classical.byContradiction fun n => h.2 (mI_c fun t _ => ⟨fun z => ?_, (a_up1 S X Y r).2 _ _ _⟩)
  have h5 : S 61 5 ≤ 8 := hw.2.2.2.2.2.1
  exact Classical.byContradiction fun q => n ⟨t, by have := a_C_t z; omega, z, q⟩
theorem nd_up (hw : wf_town S) (hn : S 61 50 ≤ 20) (h : (∃ i, a_nw S X Y r i) ∨ ∃ i, a_wm S X Y r i) : cnt (a_nd S X Y r) 180 < cnt (a_nd S X Y (r + 1)) 180 := by
  refine cnt_lt 180 (fun j _ => nd_m j) ?_
  rcases h with ⟨i, hi⟩ | ⟨i, hi⟩
  · have := ((a_Hs S X Y r i).mp hi.2).1
    refine ⟨i, by omega, Or.inl ⟨by omega, hi.2⟩, fun z => ?_⟩
    rcases z with z | z
    · exact hi.1 z.2
    · omega
  · obtain ⟨t, t8, t1, t2⟩ := wmv_t hw hi
    have := hi.1.1
    have e1 : (20 + 8 * i + t - 20) / 8 = i := by omega
    have e2 : (20 + 8 * i + t - 20) % 8 = t := by omega
    refine ⟨20 + 8 * i + t, by omega, Or.inr ⟨by omega, ?_⟩, fun z => ?_⟩
    · rw [e1, e2]; exact t1
    · rcases z with z | z
      · omega
      · rw [e1, e2] at z; exact t2 z.2
/-- nothing has moved: nothing will -/
theorem a_stb (hn : ∀ i, ¬ a_nw S X Y r i) (hm : ∀ i, ¬ a_wm S X Y r i) (hw : wf_town S) : ∀ s, a_HH S X Y s → a_H S X Y r s := by
  have h5 : S 61 5 ≤ 8 := hw.2.2.2.2.2.1
  have hc1 : ∀ i, a_wt S X Y r i → ∀ t, a_C S X Y (r + 1) (S 84 (5 * i)) (S 84 (5 * i + 1)) t → a_C S X Y r (S 84 (5 * i)) (S 84 (5 * i + 1)) t := fun i hi t ht => by
    refine (mI_i.mp (Classical.byContradiction fun z => hm i ⟨hi, z⟩) t (by have := a_C_t ht; omega)).mp ht
  have key : ∀ q, (∀ s, a_H S X Y (r + q) s → a_H S X Y r s) ∧ (∀ i, a_wt S X Y r i → ∀ t, a_C S X Y (r + q) (S 84 (5 * i)) (S 84 (5 * i + 1)) t → a_C S X Y r (S 84 (5 * i)) (S 84 (5 * i + 1)) t) := by
    intro q
    induction q with
    | zero => exact ⟨fun _ h => h, fun _ _ _ h => h⟩
    | succ q ih =>
      have hT : ∀ i, a_T S X Y (r + q) i → a_T S X Y r i := fun i z => ⟨ih.1 i z.1, z.2⟩
      refine ⟨fun s h => ?_, fun i hi t h => hc1 i hi t ((a_Cs S X Y r _ _ _).mpr (a_cs_m hT (ih.2 i hi) ((a_Cs S X Y (r + q) _ _ _).mp h)))⟩
      refine Classical.byContradiction fun z => hn s ⟨z, ?_⟩
      obtain ⟨a, b, c⟩ := (a_Hs S X Y (r + q) s).mp h
      refine (a_Hs S X Y r s).mpr ⟨a, b, fun y => ?_, fun y => ?_⟩
      · obtain ⟨w, w4, hw⟩ := c.1 y
        exact ⟨w, w4, a_sh_m hT (ih.2 s ⟨a, ⟨b, z⟩, Or.inr y⟩) hw⟩
      · have := c.2 y
        by_cases h3 : S 84 (5 * s + 3) = 3
        · exact a_sh_m hT (ih.2 s ⟨a, ⟨b, z⟩, Or.inl h3⟩) this
        · rcases this with k | k | k | k | k
          · exact Or.inl k
          · exact Or.inr (Or.inl k)
          · exact Or.inr (Or.inr (Or.inl ⟨k.1, a_td_m hT k.2⟩))
          · exact absurd k.1 h3
          · exact Or.inr (Or.inr (Or.inr (Or.inr k)))
  intro s ⟨q, h⟩
  exact (key q).1 s (a_Hm (by omega) h)
/-- what is left when all has risen -/
def rP (S : et_T) (X Y : Nat → Prop) (g : et_G) : Prop :=
  g.1 48 13 = mI (a_HH S X Y) ∧ g.1 48 14 = mI (a_TT S X Y) ∧
  (∀ i, i < S 61 50 → (∃ c, c < 1000 ∧ a_lev S X Y i c ∧ g.1 55 i = nI c) ∨ (¬ a_HH S X Y i ∧ g.1 55 i = nI 0)) ∧
  (∀ i, i < S 61 50 → Y i → a_HH S X Y i → ∃ c w, a_lev S X Y i c ∧ a_fw S X Y i c w ∧ g.1 56 i = nI w)
theorem rP_of {g : et_G} (hr : r < 1000) (R : rI S X Y r g) (hs : ∀ s, a_HH S X Y s → a_H S X Y r s) : rP S X Y g := by
  obtain ⟨R1, R2, R3, R4, R5⟩ := R
  refine ⟨?_, ?_, fun i hi => ?_, fun i hi y h => R5 i hi y (hs i h)⟩
  · rw [R1]; exact mI_c fun i _ => ⟨fun h => ⟨r, h⟩, hs i⟩
  · rw [R2]; exact mI_c fun i _ => ⟨fun h => ⟨⟨r, h.1⟩, h.2⟩, fun h => ⟨hs i h.1, h.2⟩⟩
  · rcases R4 i hi with ⟨c, h1, h2⟩ | h
    · exact Or.inl ⟨c, by omega, h2⟩
    · exact Or.inr ⟨fun z => h.1 (hs i z), h.2⟩
theorem r90 {g0 g1 g2 : et_G} (L : gL S g0) (hn20 : S 61 50 ≤ 20) (R : rI S X Y r g0) (f1 : fq wr_1 g0 g1) (f2 : fq wr_2 g1 g2)
    (h1 : ∀ i, i < S 61 50 → (a_nw S X Y r i → g1.1 55 i = nI (r + 1) ∧ (Y i → ∃ w, a_fw S X Y i (r + 1) w ∧ g1.1 56 i = nI w)) ∧ (¬ a_nw S X Y r i → g1.1 55 i = g0.1 55 i ∧ g1.1 56 i = g0.1 56 i))
    (h2 : ∀ i, a_wt S X Y r i → g2.1 54 i = mI (a_C S X Y (r + 1) (S 84 (5 * i)) (S 84 (5 * i + 1)))) (v : Int32) (f : Int32 → Int32 → et_G → Option (Unit × et_G)) (Q : Option (Unit × et_G) → Prop)
    (k : ∀ g3, fq wr_3 g0 g3 → rI S X Y (r + 1) g3 → Q (f v (nI (r + 2)) g3)) : Q (fn_Gr_rise_90 f (mI Y) (mI X) (nI (r + 1)) (mI (a_nw S X Y r)) v g2) := by
  obtain ⟨R1, R2, R3, R4, R5⟩ := R
  have d12 : g2.1 48 12 = mI (a_dr S) := by rw [f2.1 48 12 rfl, f1.1 48 12 rfl]; exact L.2.1
  have d13 : g2.1 48 13 = mI (a_H S X Y r) := by rw [f2.1 48 13 rfl, f1.1 48 13 rfl]; exact R1
  have hor : ∀ i, (a_H S X Y r i ∨ a_nw S X Y r i) ↔ a_H S X Y (r + 1) i := fun i => ⟨fun z => z.elim ((a_up1 S X Y r).1 i) (fun z => z.2), fun z => (Classical.em (a_H S X Y r i)).elim Or.inl (fun n => Or.inr ⟨n, z⟩)⟩
  have hH : mI (a_H S X Y r) ||| mI (a_nw S X Y r) = mI (a_H S X Y (r + 1)) := by rw [mI_or]; exact mI_c fun i _ => hor i
  have hT : mI (a_H S X Y (r + 1)) &&& ((mI (a_dr S) ^^^ (-nI 1)) ||| mI Y) = mI (a_T S X Y (r + 1)) := by
    rw [mI_not, mI_or, mI_and]
    refine mI_c fun i _ => ⟨fun z => ⟨z.1, ?_⟩, fun z => ⟨z.1, ?_⟩⟩
    · rcases z.2 with q | q
      · exact Or.inl (fun e => q ⟨((a_Hs S X Y r i).mp z.1).1, e⟩)
      · exact Or.inr q
    · rcases z.2 with q | q
      · exact Or.inl (fun e => q e.2)
      · exact Or.inr q
  unfold fn_Gr_rise_90
  simp only [ni_of, et_b, nI_add, d13, hH, si_g, d12]
  simp only [and_self, if_true, hT, and_false, if_false, reduceCtorEq, Nat.reduceEqDiff]
  refine k _ (fq_s (fq_s (fq_w (fq_t (fq_w f1 ?_) (fq_w f2 ?_)) (fun _ _ h => h)) rfl) rfl) ⟨?_, ?_, fun i hi xi ni c3 => ?_, fun i hi => ?_, fun i hi y hh => ?_⟩
  · intro a b h; simp [wr_3, wr_1] at h ⊢; omega
  · intro a b h; simp [wr_3, wr_2] at h ⊢; omega
  · simp [si_g]
  · simp [si_g]
  · rw [si_g, if_neg (by omega), si_g, if_neg (by omega)]
    exact h2 i ⟨hi, ⟨xi, fun z => ni ((hor i).mp (Or.inl z))⟩, c3⟩
  · rw [si_g, if_neg (by omega), si_g, if_neg (by omega), f2.1 55 i rfl]
    by_cases z : a_nw S X Y r i
    · exact Or.inl ⟨r + 1, Nat.le_refl _, a_nw_lev z, ((h1 i hi).1 z).1⟩
    · rw [((h1 i hi).2 z).1]
      rcases R4 i hi with ⟨c, c1, c2⟩ | q
      · exact Or.inl ⟨c, by omega, c2⟩
      · exact Or.inr ⟨fun e => ((hor i).mpr e).elim q.1 z, q.2⟩
  · rw [si_g, if_neg (by omega), si_g, if_neg (by omega), f2.1 56 i rfl]
    by_cases z : a_nw S X Y r i
    · obtain ⟨w, w1, w2⟩ := ((h1 i hi).1 z).2 y
      exact ⟨r + 1, w, a_nw_lev z, w1, w2⟩
    · rw [((h1 i hi).2 z).2]
      exact R5 i hi y (((hor i).mpr hh).resolve_right z)
theorem r31 {g0 : et_G} (A : gA S g0) (L : gL S g0) (R : rI S X Y 0 g0) : ev_Q (fn_Gr_rise_31 (mI Y) (mI X) 1000000 1 1 g0) (fun _ g => rP S X Y g ∧ fq wr_3 g0 g) := by
  have hn20 := (gA_n A).2
  have hw := A.2.2.1
  have := lp (fun m i (s : Int32 × et_G) => fn_Gr_rise_31 (mI Y) (mI X) m s.1 (i + nI 1) s.2) (fun o => ev_Q o (fun _ g => rP S X Y g ∧ fq wr_3 g0 g)) 181
    (fun k s => fq wr_3 g0 s.2 ∧ rI S X Y k s.2 ∧ ((s.1 = nI 1 ∧ k ≤ cnt (a_nd S X Y k) 180) ∨ (s.1 = nI 0 ∧ ∀ s, a_HH S X Y s → a_H S X Y k s))) ?_ ?_ 181 1000000 0 (nI 1, g0) (by omega) (by omega) ⟨fq_r _ _, R, Or.inl ⟨rfl, Nat.zero_le _⟩⟩
  · exact this
  · intro m s ⟨h1, h2, h3⟩
    show ev_Q (fn_Gr_rise_31 _ _ (m + 1) s.1 (nI 181 + nI 1) s.2) _
    rcases h3 with ⟨a, b⟩ | ⟨a, b⟩
    · have := cnt_le (a_nd S X Y 181) 180
      omega
    · rw [fn_Gr_rise_31, a, if_pos nI_0]
      exact ev_r ⟨rP_of (by omega) h2 b, h1⟩
  · intro m k s hk ⟨h1, h2, h3⟩ ih
    show ev_Q (fn_Gr_rise_31 _ _ (m + 1) s.1 (nI k + nI 1) s.2) _
    rcases h3 with ⟨a, b⟩ | ⟨a, b⟩
    · have A' := gA_q h1 ⟨rfl, rfl, rfl, rfl, rfl, rfl, fun _ => rfl, fun _ => rfl, fun _ => rfl, fun _ => rfl, fun _ => rfl, fun _ => rfl, fun _ => rfl, fun _ => rfl⟩ ⟨rfl, fun _ => rfl, fun _ => rfl, fun _ => rfl, fun _ => rfl, fun _ => rfl⟩ A
      have L' := gL_q h1 ⟨fun _ => rfl, fun _ => rfl, fun _ => rfl, fun _ => rfl, fun _ => rfl, rfl⟩ L
      rw [fn_Gr_rise_31, a]
      simp (disch := omega) only [ni_of, nI_add, ni_lt, h2.1, mI_not, mI_and]
      rw [if_neg b10, if_neg (by omega)]
      refine ev_d (rs_c A' L' h2 (by omega)) (fun v g1 ⟨q1, q2, q3⟩ => ?_)
      subst q1
      have A1 := gA_q q2 ⟨rfl, rfl, rfl, rfl, rfl, rfl, fun _ => rfl, fun _ => rfl, fun _ => rfl, fun _ => rfl, fun _ => rfl, fun _ => rfl, fun _ => rfl, fun _ => rfl⟩ ⟨rfl, fun _ => rfl, fun _ => rfl, fun _ => rfl, fun _ => rfl, fun _ => rfl⟩ A'
      have L1 := gL_q q2 ⟨fun _ => rfl, fun _ => rfl, fun _ => rfl, fun _ => rfl, fun _ => rfl, rfl⟩ L'
      rw [show g1.1 48 13 = mI (a_H S X Y k) from by rw [q2.1 48 13 rfl]; exact h2.1, mI_not, mI_and]
      refine ev_d (wl_c A1 L1 (by rw [q2.1 48 14 rfl]; exact h2.2.1) (fun i a1 a2 a3 a4 => by rw [q2.1 54 i rfl]; exact h2.2.2.1 i a1 a2 a3 a4)) (fun v g2 ⟨p1, p2, p3⟩ => ?_)
      subst p1
      rw [if_b0]
      have go1 : ((∃ i, a_nw S X Y k i) ∨ ∃ i, a_wm S X Y k i) → ev_Q (fn_Gr_rise_85 (fun z3 z4 g => fn_Gr_rise_31 (mI Y) (mI X) m z3 z4 g) (mI Y) (mI X) (nI (k + 1)) (mI (a_nw S X Y k)) g2) (fun _ g => rP S X Y g ∧ fq wr_3 g0 g) := by
        intro hmv
        unfold fn_Gr_rise_85
        refine r90 L' hn20 h2 q2 p2 q3 p3 _ _ (fun o => ev_Q o _) (fun g3 f3 R3 => ?_)
        have := nd_up hw hn20 hmv
        have := ih (nI 1, g3) ⟨fq_t h1 f3, R3, Or.inl ⟨rfl, by omega⟩⟩
        rw [nI_add] at this
        exact this
      by_cases z : ∃ i, a_wm S X Y k i
      · rw [io_t z]; exact go1 (Or.inr z)
      · rw [io_f z]
        by_cases y : ∃ i, a_nw S X Y k i
        · rw [if_neg (fun e => by
            obtain ⟨i, hi⟩ := y
            exact mI_z.mp e i (by have := ((a_Hs S X Y k i).mp hi.2).1; omega) hi)]
          exact go1 (Or.inl y)
        · rw [if_pos (mI_z.mpr fun i _ q => y ⟨i, q⟩)]
          refine r90 L' hn20 h2 q2 p2 q3 p3 _ _ (fun o => ev_Q o _) (fun g3 f3 R3 => ?_)
          have := ih (nI 0, g3) ⟨fq_t h1 f3, R3, Or.inr ⟨rfl, fun s hs => (a_up1 S X Y k).1 s (a_stb (fun i q => y ⟨i, q⟩) (fun i q => z ⟨i, q⟩) hw s hs)⟩⟩
          rw [nI_add] at this
          exact this
    · rw [fn_Gr_rise_31, a, if_pos nI_0]
      exact ev_r ⟨rP_of (by omega) h2 b, h1⟩
theorem fi_54 (g : et_G) : ev_Q (fn_Ja_fill_54 0 g) (fun _ g' => fq wr_3 g g' ∧ (∀ i, i < 20 → g'.1 54 i = nI 0) ∧ (∀ j, g'.1 48 j = g.1 48 j) ∧ g'.1 55 = g.1 55) := by
  unfold fn_Ja_fill_54
  refine lp0 (fun m i (s : et_G) => fn_Ja_fill_54_5 0 20 m i s) (fun o => ev_Q o (fun _ g' => fq wr_3 g g' ∧ (∀ i, i < 20 → g'.1 54 i = nI 0) ∧ (∀ j, g'.1 48 j = g.1 48 j) ∧ g'.1 55 = g.1 55)) 20 (by omega) (fun k s => fq wr_3 g s ∧ (∀ i, i < k → s.1 54 i = nI 0) ∧ (∀ j, s.1 48 j = g.1 48 j) ∧ s.1 55 = g.1 55) g ⟨fq_r _ _, fun i hi => by omega, fun _ => rfl, rfl⟩ ?_ ?_
  · intro m s h
    show ev_Q (fn_Ja_fill_54_5 0 20 (m + 1) (nI 20) s) _
    rw [fn_Ja_fill_54_5, if_pos (by decide)]
    exact ev_r h
  · intro m k s hk ⟨h1, h2, h3, h4⟩ ih
    show ev_Q (fn_Ja_fill_54_5 0 20 (m + 1) (nI k) s) _
    rw [fn_Ja_fill_54_5]
    simp (disch := omega) only [ni_of, ni_le, nI_clamp, ib_e, ck_t, et_b, nI_add]
    rw [if_neg (by omega)]
    refine ih _ ⟨fq_s h1 rfl, fun i hi => ?_, fun j => ?_, ?_⟩
    · rw [si_g]
      by_cases e : i = k
      · rw [if_pos ⟨rfl, e⟩]
      · rw [if_neg (by omega)]; exact h2 i (by omega)
    · rw [si_g, if_neg (by omega)]; exact h3 j
    · rw [← h4]; funext j; rw [si_g, if_neg (by omega)]
theorem fi_55 (g : et_G) : ev_Q (fn_Ja_fill_55 0 g) (fun _ g' => fq wr_3 g g' ∧ (∀ i, i < 20 → g'.1 55 i = nI 0) ∧ (∀ j, g'.1 48 j = g.1 48 j) ∧ g'.1 54 = g.1 54) := by
  unfold fn_Ja_fill_55
  refine lp0 (fun m i (s : et_G) => fn_Ja_fill_55_5 0 20 m i s) (fun o => ev_Q o (fun _ g' => fq wr_3 g g' ∧ (∀ i, i < 20 → g'.1 55 i = nI 0) ∧ (∀ j, g'.1 48 j = g.1 48 j) ∧ g'.1 54 = g.1 54)) 20 (by omega) (fun k s => fq wr_3 g s ∧ (∀ i, i < k → s.1 55 i = nI 0) ∧ (∀ j, s.1 48 j = g.1 48 j) ∧ s.1 54 = g.1 54) g ⟨fq_r _ _, fun i hi => by omega, fun _ => rfl, rfl⟩ ?_ ?_
  · intro m s h
    show ev_Q (fn_Ja_fill_55_5 0 20 (m + 1) (nI 20) s) _
    rw [fn_Ja_fill_55_5, if_pos (by decide)]
    exact ev_r h
  · intro m k s hk ⟨h1, h2, h3, h4⟩ ih
    show ev_Q (fn_Ja_fill_55_5 0 20 (m + 1) (nI k) s) _
    rw [fn_Ja_fill_55_5]
    simp (disch := omega) only [ni_of, ni_le, nI_clamp, ib_e, ck_t, et_b, nI_add]
    rw [if_neg (by omega)]
    refine ih _ ⟨fq_s h1 rfl, fun i hi => ?_, fun j => ?_, ?_⟩
    · rw [si_g]
      by_cases e : i = k
      · rw [if_pos ⟨rfl, e⟩]
      · rw [if_neg (by omega)]; exact h2 i (by omega)
    · rw [si_g, if_neg (by omega)]; exact h3 j
    · rw [← h4]; funext j; rw [si_g, if_neg (by omega)]
theorem ri_c {g0 : et_G} (A : gA S g0) (L : gL S g0) (X Y : Nat → Prop) : ev_Q (fn_Gr_rise (mI Y) (mI X) g0) (fun _ g => rP S X Y g ∧ fq wr_3 g0 g) := by
  have hn20 := (gA_n A).2
  unfold fn_Gr_rise
  simp only [et_b]
  have f0 : fq wr_3 g0 (et_si (et_si g0 48 13 0) 48 14 0) := fq_s (fq_s (fq_r _ _) rfl) rfl
  refine ev_d (fi_54 _) (fun _ g1 ⟨a1, a2, a3, a4⟩ => ?_)
  refine ev_d (fi_55 _) (fun _ g2 ⟨b1, b2, b3, b4⟩ => ?_)
  have F := fq_t (fq_t f0 a1) b1
  have A' := gA_q F ⟨rfl, rfl, rfl, rfl, rfl, rfl, fun _ => rfl, fun _ => rfl, fun _ => rfl, fun _ => rfl, fun _ => rfl, fun _ => rfl, fun _ => rfl, fun _ => rfl⟩ ⟨rfl, fun _ => rfl, fun _ => rfl, fun _ => rfl, fun _ => rfl, fun _ => rfl⟩ A
  have L' := gL_q F ⟨fun _ => rfl, fun _ => rfl, fun _ => rfl, fun _ => rfl, fun _ => rfl, rfl⟩ L
  refine ev_w (r31 A' L' ⟨?_, ?_, fun i hi _ _ _ => ?_, fun i hi => ?_, fun i hi _ h => h.elim⟩) (fun _ g3 ⟨c1, c2⟩ => ⟨c1, fq_t F c2⟩)
  · rw [b3, a3]; simp only [si_g]; exact mI_0
  · rw [b3, a3]; simp only [si_g]; exact mI_eq fun i _ => by simp [bt_0, a_T, a_so, a_H, a_lv]
  · rw [b4, a2 i (by omega)]; exact mI_n0
  · exact Or.inr ⟨fun h => h, b2 i (by omega)⟩
end RE
