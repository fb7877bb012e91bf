/-! the rounds, as they are walked -/
def wr_1 (k _j : Nat) : Bool := k == 55 || k == 56
def wr_2 (k _j : Nat) : Bool := k == 54
def wr_3 (k j : Nat) : Bool := k == 54 || k == 55 || k == 56 || (k == 48 && (j == 13 || j == 14))
theorem gA_q {W : Nat → Nat → Bool} {S : et_T} {g g' : et_G} (hf : fq W g g') (w1 : wc_town W) (w2 : wc_led W) (A : gA S g) : gA S g' :=
  ⟨rc_town_q hf (ag_r S) w1 ⟨rfl, rfl, rfl, rfl, fun _ => rfl, fun _ => rfl, fun _ => rfl, fun _ => rfl, fun _ => rfl⟩ A.1, rc_led_q hf (ag_r S) w2 ⟨rfl, fun _ => rfl⟩ A.2.1, A.2.2⟩
def wc_gr (W : Nat → Nat → Bool) : Prop := (∀ j, W 49 j = false) ∧ (∀ j, W 50 j = false) ∧ (∀ j, W 51 j = false) ∧ (∀ j, W 52 j = false) ∧ (∀ j, W 53 j = false) ∧ W 48 12 = false
theorem gL_q {W : Nat → Nat → Bool} {S : et_T} {g g' : et_G} (hf : fq W g g') (w : wc_gr W) (L : gL S g) : gL S g' := by
  obtain ⟨w1, w2, w3, w4, w5, w6⟩ := w
  obtain ⟨l1, l2, l3⟩ := L
  refine ⟨fun t ht nt hnt => ?_, ?_, fun i hi => ?_⟩
  · rw [hf.1 52 _ (w4 _)]; exact l1 t ht nt hnt
  · rw [hf.1 48 12 w6]; exact l2
  · obtain ⟨a, b, c, d⟩ := l3 i hi
    exact ⟨by rw [hf.1 49 _ (w1 _)]; exact a, by rw [hf.1 50 _ (w2 _)]; exact b, by rw [hf.1 51 _ (w3 _)]; exact c, by rw [hf.1 53 _ (w5 _)]; exact d⟩
/-- an ending's place among those by which it came -/
def a_fw (S : et_T) (X Y : Nat → Prop) (s c w : Nat) : Prop := w < 4 ∧ a_sh S (a_T S X Y (c - 1)) (a_C S X Y (c - 1) (S 84 (5 * s)) (S 84 (5 * s + 1))) (S 84 (5 * s)) (S 84 (5 * s + 1)) (S 84 (5 * s + 2)) (S 84 (5 * s + 4)) w ∧ ∀ v, v < w → ¬ a_sh S (a_T S X Y (c - 1)) (a_C S X Y (c - 1) (S 84 (5 * s)) (S 84 (5 * s + 1))) (S 84 (5 * s)) (S 84 (5 * s + 1)) (S 84 (5 * s + 2)) (S 84 (5 * s + 4)) v
theorem a_fw_u {S : et_T} {X Y : Nat → Prop} {s c w v : Nat} (h1 : a_fw S X Y s c w) (h2 : a_fw S X Y s c v) : w = v := by
  rcases Nat.lt_trichotomy w v with h | h | h
  · exact absurd h1.2.1 (h2.2.2 w h)
  · exact h
  · exact absurd h2.2.1 (h1.2.2 v h)
/-- what stands behind r rounds -/
def rI (S : et_T) (X Y : Nat → Prop) (r : Nat) (g : et_G) : Prop :=
  g.1 48 13 = mI (a_H S X Y r) ∧ g.1 48 14 = mI (a_T S X Y r) ∧
  (∀ i, i < S 61 50 → X i → ¬ a_H S X Y r i → (S 84 (5 * i + 3) = 3 ∨ Y i) → g.1 54 i = mI (a_C S X Y r (S 84 (5 * i)) (S 84 (5 * i + 1)))) ∧
  (∀ i, i < S 61 50 → (∃ c, c ≤ r ∧ a_lev S X Y i c ∧ g.1 55 i = nI c) ∨ (¬ a_H S X Y r i ∧ g.1 55 i = nI 0)) ∧
  (∀ i, i < S 61 50 → Y i → a_H S X Y r i → ∃ c w, a_lev S X Y i c ∧ a_fw S X Y i c w ∧ g.1 56 i = nI w)
def a_nw (S : et_T) (X Y : Nat → Prop) (r i : Nat) : Prop := ¬ a_H S X Y r i ∧ a_H S X Y (r + 1) i
section RS
variable {S : et_T} {X Y : Nat → Prop} {r : Nat}
theorem a_nw_lev {i : Nat} (h : a_nw S X Y r i) : a_lev S X Y i (r + 1) := ⟨h.2, fun q hq k => h.1 (a_Hm (by omega) k)⟩
/-- one saying, asked whether it rises now -/
theorem rs_1 {g0 g : et_G} (A : gA S g0) (L : gL S g0) (R : rI S X Y r g0) (F : fq wr_1 g0 g) {k : Nat} (hk : k < S 61 50) (hr : r < 1000) (x : Int32) (f : Int32 → Int32 → et_G → Option (Int32 × et_G)) (Q : Option (Int32 × et_G) → Prop)
    (hy : a_nw S X Y r k → ∀ g', fq wr_1 g g' → (∀ i, i ≠ k → g'.1 55 i = g.1 55 i ∧ g'.1 56 i = g.1 56 i) → g'.1 55 k = nI (r + 1) → (Y k → ∃ w, a_fw S X Y k (r + 1) w ∧ g'.1 56 k = nI w) → Q (f (x ||| (nI 1 <<< (nI k &&& nI 31))) (nI (k + 1)) g'))
    (hn : ¬ a_nw S X Y r k → Q (f x (nI (k + 1)) g)) :
    ∀ m, (∀ z1 z2 g', fn_Gr_rising_6 (mI Y) (mI fun i => X i ∧ ¬ a_H S X Y r i) (nI (r + 1)) m z1 z2 g' = f z1 z2 g') → Q (fn_Gr_rising_6 (mI Y) (mI fun i => X i ∧ ¬ a_H S X Y r i) (nI (r + 1)) (m + 1) x (nI k) g) := by
  intro m hf
  have hn20 := (gA_n A).2
  have A' := gA_q F ⟨rfl, rfl, rfl, rfl, rfl, rfl, fun _ => rfl, fun _ => rfl, fun _ => rfl, fun _ => rfl, fun _ => rfl, fun _ => rfl, fun _ => rfl, fun _ => rfl⟩ ⟨rfl, fun _ => rfl, fun _ => rfl, fun _ => rfl, fun _ => rfl, fun _ => rfl⟩ A
  have L' := gL_q F ⟨fun _ => rfl, fun _ => rfl, fun _ => rfl, fun _ => rfl, fun _ => rfl, rfl⟩ L
  obtain ⟨R1, R2, R3, R4, R5⟩ := R
  obtain ⟨-, -, -, e4, -⟩ := gA_s A' hk
  obtain ⟨-, -, -, w4, -⟩ := gA_w A hk
  rw [fn_Gr_rising_6, (gA_n A').1, if_neg (nI_ge hk (by omega)), hb_m _ (show k < 32 by omega), bd_s]
  simp (disch := omega) only [ni_of, if_b0, et_b, nI_add, hf]
  by_cases hx : X k ∧ ¬ a_H S X Y r k
  · rw [io_t hx]
    obtain ⟨D, hD, hC⟩ : ∃ D : Nat → Prop, g.1 54 k = mI D ∧ ((S 84 (5 * k + 3) = 3 ∨ Y k) → D = a_C S X Y r (S 84 (5 * k)) (S 84 (5 * k + 1))) := by
      by_cases h3 : S 84 (5 * k + 3) = 3 ∨ Y k
      · exact ⟨_, by rw [F.1 54 k rfl]; exact R3 k hk hx.1 hx.2 h3, fun _ => rfl⟩
      · exact ⟨_, mI_s _, fun h => absurd h h3⟩
    have hs : fn_Gr_standingHows (nI k) (g.1 48 14) (g.1 54 k) g = some (mI (a_sh S (a_T S X Y r) D (S 84 (5 * k)) (S 84 (5 * k + 1)) (S 84 (5 * k + 2)) (S 84 (5 * k + 4))), g) := by
      rw [hD, F.1 48 14 rfl, R2]; exact sh_c A' L' hk _ _
    simp (disch := omega) only [nI_clamp, ib_e, ck_t, hs, bd_s, hb_m Y (show k < 32 by omega), if_b0]
    have k103 : a_nw S X Y r k → ∀ w : Nat, (Y k → a_fw S X Y k (r + 1) w) → Q (fn_Gr_rising_103 f (mI Y) (mI fun i => X i ∧ ¬ a_H S X Y r i) (nI (r + 1)) x (nI k) (nI w) g) := by
      intro hw w hfw
      unfold fn_Gr_rising_103
      simp (disch := omega) only [ni_of, nI_clamp, ib_e, ck_t, et_b, nI_add]
      refine hy hw _ (fq_s (fq_s (fq_r _ _) rfl) rfl) (fun i hi => ⟨?_, ?_⟩) ?_ (fun y => ⟨w, hfw y, ?_⟩)
      · simp [si_g, hi]
      · simp [si_g, hi]
      · simp [si_g]
      · simp [si_g]
    have k76 : ∀ w : Nat, w ≤ 4 → (a_nw S X Y r k ↔ (a_sh S (a_T S X Y r) D (S 84 (5 * k)) (S 84 (5 * k + 1)) (S 84 (5 * k + 2)) (S 84 (5 * k + 4)) w ∧ ¬ (w = 4 ∧ Y k))) → (a_nw S X Y r k → Y k → a_fw S X Y k (r + 1) w) → Q (fn_Gr_rising_76 f (mI Y) (mI fun i => X i ∧ ¬ a_H S X Y r i) (nI (r + 1)) x (nI k) (mI (a_sh S (a_T S X Y r) D (S 84 (5 * k)) (S 84 (5 * k + 1)) (S 84 (5 * k + 2)) (S 84 (5 * k + 4)))) (nI w) g) := by
      intro w hw4 hiff hfw
      unfold fn_Gr_rising_76
      simp (disch := omega) only [ni_of, hb_m _ (show w < 32 by omega), hb_m _ (show k < 32 by omega), bd_s, if_b0, et_b, nI_add, ni_eq]
      by_cases h1 : a_sh S (a_T S X Y r) D (S 84 (5 * k)) (S 84 (5 * k + 1)) (S 84 (5 * k + 2)) (S 84 (5 * k + 4)) w
      · rw [io_t h1]
        by_cases h2 : w = 4
        · rw [if_pos h2]
          by_cases h3 : Y k
          · rw [io_t h3]; exact hn (fun h => (hiff.mp h).2 ⟨h2, h3⟩)
          · have hw := hiff.mpr ⟨h1, fun z => h3 z.2⟩
            rw [io_f h3]; exact k103 hw w (hfw hw)
        · have hw := hiff.mpr ⟨h1, fun z => h2 z.1⟩
          rw [if_neg h2]; exact k103 hw w (hfw hw)
      · rw [io_f h1]; exact hn (fun h => h1 (hiff.mp h).1)
    by_cases hyk : Y k
    · rw [io_t hyk]
      have hDC := hC (Or.inr hyk)
      subst hDC
      obtain ⟨w, q1, q2, q3, q4⟩ := fb_c (a_sh S (a_T S X Y r) (a_C S X Y r (S 84 (5 * k)) (S 84 (5 * k + 1))) (S 84 (5 * k)) (S 84 (5 * k + 1)) (S 84 (5 * k + 2)) (S 84 (5 * k + 4))) g
      rw [q4, bd_s]
      refine k76 w q1 ⟨fun h => ?_, fun h => ?_⟩ (fun h _ => ?_)
      · obtain ⟨v, v4, hv⟩ := ((a_Hs S X Y r k).mp h.2).2.2.1 hyk
        have hw4 : w < 4 := by
          rcases Nat.lt_or_ge w 4 with z | z
          · exact z
          · exact absurd hv (q3 v (by omega))
        exact ⟨q2 hw4, fun z => by omega⟩
      · have hw4 : w < 4 := by
          rcases Nat.lt_or_ge w 4 with z | z
          · exact z
          · exact absurd ⟨by omega, hyk⟩ h.2
        exact ⟨hx.2, (a_Hs S X Y r k).mpr ⟨hk, hx.1, fun _ => ⟨w, hw4, h.1⟩, fun z => absurd hyk z⟩⟩
      · obtain ⟨v, v4, hv⟩ := ((a_Hs S X Y r k).mp h.2).2.2.1 hyk
        have hw4 : w < 4 := by
          rcases Nat.lt_or_ge w 4 with z | z
          · exact z
          · exact absurd hv (q3 v (by omega))
        exact ⟨hw4, q2 hw4, q3⟩
    · rw [io_f hyk, e4]
      have dm : ∀ D' : Nat → Prop, (S 84 (5 * k + 3) = 3 → D = D') → (a_sh S (a_T S X Y r) D (S 84 (5 * k)) (S 84 (5 * k + 1)) (S 84 (5 * k + 2)) (S 84 (5 * k + 4)) (S 84 (5 * k + 3)) ↔ a_sh S (a_T S X Y r) D' (S 84 (5 * k)) (S 84 (5 * k + 1)) (S 84 (5 * k + 2)) (S 84 (5 * k + 4)) (S 84 (5 * k + 3))) := by
        intro D' h
        by_cases h3 : S 84 (5 * k + 3) = 3
        · rw [h h3]
        · constructor
          · intro z
            rcases z with z | z | z | z | z
            · exact Or.inl z
            · exact Or.inr (Or.inl z)
            · exact Or.inr (Or.inr (Or.inl z))
            · exact absurd z.1 h3
            · exact Or.inr (Or.inr (Or.inr (Or.inr z)))
          · intro z
            rcases z with z | z | z | z | z
            · exact Or.inl z
            · exact Or.inr (Or.inl z)
            · exact Or.inr (Or.inr (Or.inl z))
            · exact absurd z.1 h3
            · exact Or.inr (Or.inr (Or.inr (Or.inr z)))
      have dm2 := dm (a_C S X Y r (S 84 (5 * k)) (S 84 (5 * k + 1))) (fun h => hC (Or.inl h))
      refine k76 _ (by omega) ⟨fun h => ⟨?_, fun z => hyk z.2⟩, fun h => ?_⟩ (fun _ z => absurd z hyk)
      · exact dm2.mpr (((a_Hs S X Y r k).mp h.2).2.2.2 hyk)
      · exact ⟨hx.2, (a_Hs S X Y r k).mpr ⟨hk, hx.1, fun z => absurd z hyk, fun _ => dm2.mp h.1⟩⟩
  · rw [io_f hx]
    refine hn (fun h => hx ⟨((a_Hs S X Y r k).mp h.2).2.1, h.1⟩)
/-- all of them asked -/
theorem rs_c {g0 : et_G} (A : gA S g0) (L : gL S g0) (R : rI S X Y r g0) (hr : r < 1000) : ev_Q (fn_Gr_rising (mI Y) (mI fun i => X i ∧ ¬ a_H S X Y r i) (nI (r + 1)) g0) (fun v g => v = mI (a_nw S X Y r) ∧ fq wr_1 g0 g ∧
    ∀ i, i < S 61 50 → (a_nw S X Y r i → g.1 55 i = nI (r + 1) ∧ (Y i → ∃ w, a_fw S X Y i (r + 1) w ∧ g.1 56 i = nI w)) ∧ (¬ a_nw S X Y r i → g.1 55 i = g0.1 55 i ∧ g.1 56 i = g0.1 56 i)) := by
  have hn20 := (gA_n A).2
  unfold fn_Gr_rising
  refine lp0 (fun m i (s : Int32 × et_G) => fn_Gr_rising_6 (mI Y) (mI fun i => X i ∧ ¬ a_H S X Y r i) (nI (r + 1)) m s.1 i s.2) (fun o => ev_Q o (fun v g => v = mI (a_nw S X Y r) ∧ fq wr_1 g0 g ∧
    ∀ i, i < S 61 50 → (a_nw S X Y r i → g.1 55 i = nI (r + 1) ∧ (Y i → ∃ w, a_fw S X Y i (r + 1) w ∧ g.1 56 i = nI w)) ∧ (¬ a_nw S X Y r i → g.1 55 i = g0.1 55 i ∧ g.1 56 i = g0.1 56 i))) (S 61 50) (by omega)
    (fun k s => s.1 = mI (fun i => i < k ∧ a_nw S X Y r i) ∧ fq wr_1 g0 s.2 ∧ (∀ i, k ≤ i → s.2.1 55 i = g0.1 55 i ∧ s.2.1 56 i = g0.1 56 i) ∧
      ∀ i, i < k → (a_nw S X Y r i → s.2.1 55 i = nI (r + 1) ∧ (Y i → ∃ w, a_fw S X Y i (r + 1) w ∧ s.2.1 56 i = nI w)) ∧ (¬ a_nw S X Y r i → s.2.1 55 i = g0.1 55 i ∧ s.2.1 56 i = g0.1 56 i)) (0, g0) ?_ ?_ ?_
  · exact ⟨by rw [mI_0]; exact mI_c fun i _ => ⟨fun h => h.elim, fun h => by omega⟩, fq_r _ _, fun i _ => ⟨rfl, rfl⟩, fun i hi => by omega⟩
  · intro m s ⟨h1, h2, h3, h4⟩
    show ev_Q (fn_Gr_rising_6 _ _ _ (m + 1) s.1 (nI (S 61 50)) s.2) _
    rw [fn_Gr_rising_6, h2.1 34 0 rfl, (gA_n A).1, if_pos (nI_le (Nat.le_refl _) (by omega))]
    refine ev_r ⟨?_, h2, h4⟩
    rw [h1]
    exact mI_c fun i _ => ⟨fun z => z.2, fun z => ⟨((a_Hs S X Y r i).mp z.2).1, z⟩⟩
  · intro m k s hk ⟨h1, h2, h3, h4⟩ ih
    refine rs_1 A L R h2 hk hr s.1 (fun z1 z2 g' => fn_Gr_rising_6 (mI Y) (mI fun i => X i ∧ ¬ a_H S X Y r i) (nI (r + 1)) m z1 z2 g') (fun o => ev_Q o _) (fun hw g' f1 f2 f3 f4 => ?_) (fun hw => ?_) m (fun _ _ _ => rfl)
    · refine ih (_, g') ⟨?_, fq_t h2 f1, fun i hi => ?_, fun i hi => ?_⟩
      · show s.1 ||| _ = _
        rw [h1, mI_1 (by omega), mI_or]
        refine mI_c fun i _ => ⟨fun z => ?_, fun z => ?_⟩
        · rcases z with z | z
          · exact ⟨by omega, z.2⟩
          · subst z; exact ⟨by omega, hw⟩
        · by_cases e : i = k
          · exact Or.inr e
          · exact Or.inl ⟨by omega, z.2⟩
      · have a := f2 i (by omega)
        have b := h3 i (by omega)
        exact ⟨a.1.trans b.1, a.2.trans b.2⟩
      · by_cases e : i = k
        · subst e
          exact ⟨fun _ => ⟨f3, f4⟩, fun z => absurd hw z⟩
        · have a := f2 i e
          have b := h4 i (by omega)
          show (a_nw S X Y r i → g'.1 55 i = nI (r + 1) ∧ (Y i → ∃ w, a_fw S X Y i (r + 1) w ∧ g'.1 56 i = nI w)) ∧ (¬ a_nw S X Y r i → g'.1 55 i = g0.1 55 i ∧ g'.1 56 i = g0.1 56 i)
          rw [a.1, a.2]; exact b
    · refine ih (s.1, s.2) ⟨?_, h2, fun i hi => h3 i (by omega), fun i hi => ?_⟩
      · show s.1 = _
        rw [h1]
        refine mI_c fun i _ => ⟨fun z => ⟨by omega, z.2⟩, fun z => ?_⟩
        by_cases e : i = k
        · subst e; exact absurd z.2 hw
        · exact ⟨by omega, z.2⟩
      · by_cases e : i = k
        · subst e; exact ⟨fun z => absurd z hw, fun _ => h3 i (Nat.le_refl _)⟩
        · exact h4 i (by omega)
/-- one saying's things, widened -/
def a_wt (S : et_T) (X Y : Nat → Prop) (r i : Nat) : Prop := i < S 61 50 ∧ (X i ∧ ¬ a_H S X Y r i) ∧ (S 84 (5 * i + 3) = 3 ∨ Y i)
def a_wm (S : et_T) (X Y : Nat → Prop) (r i : Nat) : Prop := a_wt S X Y r i ∧ ¬ mI (a_C S X Y (r + 1) (S 84 (5 * i)) (S 84 (5 * i + 1))) = mI (a_C S X Y r (S 84 (5 * i)) (S 84 (5 * i + 1)))
theorem wl_c {g0 : et_G} (A : gA S g0) (L : gL S g0) (R2 : g0.1 48 14 = mI (a_T S X Y r)) (R3 : ∀ i, i < S 61 50 → X i → ¬ a_H S X Y r i → (S 84 (5 * i + 3) = 3 ∨ Y i) → g0.1 54 i = mI (a_C S X Y r (S 84 (5 * i)) (S 84 (5 * i + 1)))) : ev_Q (fn_Gr_widenAll (mI Y) (mI fun i => X i ∧ ¬ a_H S X Y r i) g0) (fun v g => v = bI (∃ i, a_wm S X Y r i) ∧ fq wr_2 g0 g ∧
    ∀ i, a_wt S X Y r i → g.1 54 i = mI (a_C S X Y (r + 1) (S 84 (5 * i)) (S 84 (5 * i + 1)))) := by
  have hn20 := (gA_n A).2
  unfold fn_Gr_widenAll
  refine lp0 (fun m i (s : Int32 × et_G) => fn_Gr_widenAll_5 (mI Y) (mI fun i => X i ∧ ¬ a_H S X Y r i) m s.1 i s.2) (fun o => ev_Q o (fun v g => v = bI (∃ i, a_wm S X Y r i) ∧ fq wr_2 g0 g ∧
    ∀ i, a_wt S X Y r i → g.1 54 i = mI (a_C S X Y (r + 1) (S 84 (5 * i)) (S 84 (5 * i + 1))))) (S 61 50) (by omega)
    (fun k s => s.1 = bI (∃ i, i < k ∧ a_wm S X Y r i) ∧ fq wr_2 g0 s.2 ∧ (∀ i, k ≤ i → s.2.1 54 i = g0.1 54 i) ∧ ∀ i, i < k → a_wt S X Y r i → s.2.1 54 i = mI (a_C S X Y (r + 1) (S 84 (5 * i)) (S 84 (5 * i + 1)))) (0, g0) ?_ ?_ ?_
  · exact ⟨by rw [bI_f (fun ⟨i, hi, _⟩ => by omega)]; rfl, fq_r _ _, fun i _ => rfl, fun i hi => by omega⟩
  · intro m s ⟨h1, h2, h3, h4⟩
    show ev_Q (fn_Gr_widenAll_5 _ _ (m + 1) s.1 (nI (S 61 50)) s.2) _
    rw [fn_Gr_widenAll_5, h2.1 34 0 rfl, (gA_n A).1, if_pos (nI_le (Nat.le_refl _) (by omega)), h1]
    refine ev_r ⟨?_, h2, fun i hi => h4 i hi.1 hi⟩
    by_cases z : ∃ i, a_wm S X Y r i
    · obtain ⟨i, hi⟩ := z
      rw [bI_t ⟨i, hi.1.1, hi⟩, bI_t ⟨i, hi⟩]; rfl
    · rw [bI_f (fun ⟨i, _, hi⟩ => z ⟨i, hi⟩), bI_f z]; rfl
  · intro m k s hk ⟨h1, h2, h3, h4⟩ ih
    show ev_Q (fn_Gr_widenAll_5 _ _ (m + 1) s.1 (nI k) s.2) _
    have A' := gA_q h2 ⟨rfl, rfl, rfl, rfl, rfl, rfl, fun _ => rfl, fun _ => rfl, fun _ => rfl, fun _ => rfl, fun _ => rfl, fun _ => rfl, fun _ => rfl, fun _ => rfl⟩ ⟨rfl, fun _ => rfl, fun _ => rfl, fun _ => rfl, fun _ => rfl, fun _ => rfl⟩ A
    have L' := gL_q h2 ⟨fun _ => rfl, fun _ => rfl, fun _ => rfl, fun _ => rfl, fun _ => rfl, rfl⟩ L
    obtain ⟨-, -, -, e4, -⟩ := gA_s A' hk
    obtain ⟨-, -, -, w4, -⟩ := gA_w A hk
    have skip : ¬ a_wt S X Y r k → ev_Q (fn_Gr_widenAll_5 (mI Y) (mI fun i => X i ∧ ¬ a_H S X Y r i) m s.1 (nI (k + 1)) s.2) (fun v g => v = bI (∃ i, a_wm S X Y r i) ∧ fq wr_2 g0 g ∧
        ∀ i, a_wt S X Y r i → g.1 54 i = mI (a_C S X Y (r + 1) (S 84 (5 * i)) (S 84 (5 * i + 1)))) := by
      intro hw
      refine ih (s.1, s.2) ⟨?_, h2, fun i hi => h3 i (by omega), fun i hi z => ?_⟩
      · show s.1 = _
        rw [h1]
        refine bI_c ⟨fun ⟨i, a, b⟩ => ⟨i, by omega, b⟩, fun ⟨i, a, b⟩ => ?_⟩
        by_cases e : i = k
        · subst e; exact absurd b.1 hw
        · exact ⟨i, by omega, b⟩
      · by_cases e : i = k
        · subst e; exact absurd z hw
        · exact h4 i (by omega) z
    have go : a_wt S X Y r k → ev_Q (fn_Gr_widenAll_49 (fun z3 z4 g => fn_Gr_widenAll_5 (mI Y) (mI fun i => X i ∧ ¬ a_H S X Y r i) m z3 z4 g) (mI Y) (mI fun i => X i ∧ ¬ a_H S X Y r i) s.1 (nI k) s.2) (fun v g => v = bI (∃ i, a_wm S X Y r i) ∧ fq wr_2 g0 g ∧
        ∀ i, a_wt S X Y r i → g.1 54 i = mI (a_C S X Y (r + 1) (S 84 (5 * i)) (S 84 (5 * i + 1)))) := by
      intro hw
      have e54 : s.2.1 54 k = mI (a_C S X Y r (S 84 (5 * k)) (S 84 (5 * k + 1))) := by rw [h3 k (Nat.le_refl _)]; exact R3 k hk hw.2.1.1 hw.2.1.2 hw.2.2
      obtain ⟨l49, l50, -, -⟩ := L'.2.2 k hk
      have ew : fn_Gr_widened (s.2.1 54 k) (s.2.1 49 k &&& s.2.1 48 14) (s.2.1 50 k) s.2 = some (mI (a_C S X Y (r + 1) (S 84 (5 * k)) (S 84 (5 * k + 1))), s.2) := by
        rw [e54, l49, l50, h2.1 48 14 rfl, R2, mI_and]
        exact wn_s A' L'.1 (fun t z => (a_up1 S X Y r).2 _ _ _ z)
      have k102 : ∀ v : Int32, v = bI (∃ i, i < k + 1 ∧ a_wm S X Y r i) → ev_Q (fn_Gr_widenAll_102 (fun z3 z4 g => fn_Gr_widenAll_5 (mI Y) (mI fun i => X i ∧ ¬ a_H S X Y r i) m z3 z4 g) (mI Y) (mI fun i => X i ∧ ¬ a_H S X Y r i) (nI k) (mI (a_C S X Y (r + 1) (S 84 (5 * k)) (S 84 (5 * k + 1)))) v s.2) (fun v g => v = bI (∃ i, a_wm S X Y r i) ∧ fq wr_2 g0 g ∧
          ∀ i, a_wt S X Y r i → g.1 54 i = mI (a_C S X Y (r + 1) (S 84 (5 * i)) (S 84 (5 * i + 1)))) := by
        intro v hv
        unfold fn_Gr_widenAll_102
        simp (disch := omega) only [ni_of, nI_clamp, ib_e, ck_t, et_b, nI_add]
        refine ih (v, _) ⟨hv, fq_s h2 rfl, fun i hi => ?_, fun i hi z => ?_⟩
        · show (et_si s.2 54 k _).1 54 i = _
          rw [si_g, if_neg (by omega)]; exact h3 i (by omega)
        · show (et_si s.2 54 k _).1 54 i = _
          by_cases e : i = k
          · subst e; rw [si_g, if_pos ⟨rfl, rfl⟩]
          · rw [si_g, if_neg (by omega)]; exact h4 i (by omega) z
      rw [e54] at ew
      unfold fn_Gr_widenAll_49 fn_Gr_widenAll_97
      simp (disch := omega) only [ni_of, nI_clamp, ib_e, ck_t, ew, bd_s, e54, h1, if_b0]
      by_cases z : ∃ i, i < k ∧ a_wm S X Y r i
      · rw [io_t z]
        obtain ⟨i, i1, i2⟩ := z
        exact k102 _ (bI_t ⟨i, by omega, i2⟩).symm
      · rw [io_f z]
        by_cases q : mI (a_C S X Y (r + 1) (S 84 (5 * k)) (S 84 (5 * k + 1))) = mI (a_C S X Y r (S 84 (5 * k)) (S 84 (5 * k + 1)))
        · rw [if_pos q]
          refine k102 _ (bI_f (fun ⟨i, i1, i2⟩ => ?_)).symm
          by_cases e : i = k
          · subst e; exact i2.2 q
          · exact z ⟨i, by omega, i2⟩
        · rw [if_neg q]
          exact k102 _ (bI_t ⟨k, by omega, hw, q⟩).symm
    rw [fn_Gr_widenAll_5, (gA_n A').1, if_neg (nI_ge hk (by omega)), hb_m _ (show k < 32 by omega), bd_s]
    simp (disch := omega) only [ni_of, if_b0, et_b, nI_add, nI_clamp, ib_e, ck_t, e4, hb_m Y (show k < 32 by omega), bd_s, ni_eq]
    by_cases hx : X k ∧ ¬ a_H S X Y r k
    · rw [io_t hx]
      by_cases q3 : S 84 (5 * k + 3) = 3
      · rw [if_pos q3]; exact go ⟨hk, hx, Or.inl q3⟩
      · rw [if_neg q3]
        by_cases qy : Y k
        · rw [io_t qy]; exact go ⟨hk, hx, Or.inr qy⟩
        · rw [io_f qy]; exact skip (fun z => z.2.2.elim q3 qy)
    · rw [io_f hx]; exact skip (fun z => hx z.2.1)
end RS
