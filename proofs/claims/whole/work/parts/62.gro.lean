/-! the ground's questions -/
theorem sc_q {F : Nat → Int32 → Int32 → et_G → Option (Int32 × et_G)} {g : et_G} {N : Nat} {P Q : Nat → Prop} (hN : N ≤ 31)
    (he : ∀ m x, F (m + 1) x (nI N) g = some (x, g))
    (hs : ∀ m x k, k < N → F (m + 1) x (nI k) g = io (P k) (F m (x ||| (nI 1 <<< (nI k &&& nI 31))) (nI (k + 1)) g) (F m x (nI (k + 1)) g)) :
    F 1000000 (mI Q) 0 g = some (mI fun i => Q i ∨ (i < N ∧ P i), g) := by
  refine lp0 (fun m i (x : Int32) => F m x i g) (fun o => o = some (mI fun i => Q i ∨ (i < N ∧ P i), g)) N (by omega) (fun k x => x = mI fun i => Q i ∨ (i < k ∧ P i)) (mI Q) ?_ ?_ ?_
  · exact mI_c fun i _ => ⟨fun h => Or.inl h, fun h => h.elim id (fun k => by omega)⟩
  · intro m s h
    show F (m + 1) s (nI N) g = _
    rw [he m s, h]
  · intro m k s hk h ih
    show F (m + 1) s (nI k) g = _
    rw [hs m s k hk]
    by_cases p : P k
    · rw [io_t p]
      refine ih _ ?_
      rw [h, mI_1 (by omega), mI_or]
      refine mI_c fun i _ => ⟨fun q => ?_, fun q => ?_⟩
      · rcases q with (q | q) | q
        · exact Or.inl q
        · exact Or.inr ⟨by omega, q.2⟩
        · subst q; exact Or.inr ⟨by omega, p⟩
      · rcases q with q | q
        · exact Or.inl (Or.inl q)
        · by_cases e : i = k
          · exact Or.inr e
          · exact Or.inl (Or.inr ⟨by omega, q.2⟩)
    · rw [io_f p]
      refine ih _ ?_
      rw [h]
      refine mI_c fun i _ => ⟨fun q => ?_, fun q => ?_⟩
      · rcases q with q | q
        · exact Or.inl q
        · exact Or.inr ⟨by omega, q.2⟩
      · rcases q with q | q
        · exact Or.inl q
        · by_cases e : i = k
          · subst e; exact absurd q.2 p
          · exact Or.inr ⟨by omega, q.2⟩
theorem io_s {c : Prop} {g : et_G} : io c (some (nI 1, g)) (some (nI 0, g)) = some (bI c, g) := by
  by_cases h : c
  · rw [io_t h, bI_t h]
  · rw [io_f h, bI_f h]
theorem io_io {c d : Prop} {α : Type} {x y : α} : io c (io d x y) y = io (c ∧ d) x y := by
  by_cases h : c
  · rw [io_t h]
    by_cases k : d
    · rw [io_t k, io_t ⟨h, k⟩]
    · rw [io_f k, io_f (fun e => k e.2)]
  · rw [io_f h, io_f (fun e => h e.1)]
theorem hb_p {c : Prop} {x : Int32} {k : Nat} (hk : k < 32) (h : bt x k = true ↔ c) (g : et_G) : fn_Et_hasBit x (nI k) g = some (bI c, g) := by
  rw [hb_1 _ hk]
  by_cases e : c
  · rw [bI_t e, if_pos (h.mpr e)]; rfl
  · rw [bI_f e, if_neg (fun q => e (h.mp q))]; rfl
def gA (S : et_T) (g : et_G) : Prop := rc_town S g ∧ rc_led S g ∧ wf_town S ∧ wf_led S
section GA
variable {S : et_T} {g : et_G}
theorem gA_n (A : gA S g) : g.1 34 0 = nI (S 61 50) ∧ S 61 50 ≤ 20 := ⟨A.2.1.1, A.2.2.2.1⟩
theorem gA_c (A : gA S g) : g.1 2 1 = nI (S 61 3) ∧ g.1 2 3 = nI (S 61 4) ∧ g.1 2 5 = nI (S 61 5) ∧ g.1 2 11 = nI (S 61 6) ∧ 1 ≤ S 61 3 ∧ S 61 3 ≤ 6 ∧ S 61 4 ≤ 6 ∧ S 61 5 ≤ 8 ∧ S 61 6 ≤ 6 := by
  obtain ⟨⟨a, b, c, d, -⟩, -, ⟨-, -, e, f, h, i, j, -⟩, -⟩ := A
  exact ⟨a, b, c, d, e, f, h, i, j⟩
theorem gA_s (A : gA S g) {s : Nat} (hs : s < S 61 50) : g.1 35 s = nI (S 84 (5 * s)) ∧ g.1 36 s = nI (S 84 (5 * s + 1)) ∧ g.1 37 s = nI (S 84 (5 * s + 2)) ∧ g.1 38 s = nI (S 84 (5 * s + 3)) ∧ g.1 39 s = nI (S 84 (5 * s + 4)) := A.2.1.2 s hs
theorem gA_w (A : gA S g) {s : Nat} (hs : s < S 61 50) : S 84 (5 * s) < S 61 4 ∧ S 84 (5 * s + 1) < 24 ∧ S 84 (5 * s + 2) < S 61 5 ∧ S 84 (5 * s + 3) < 5 ∧ S 84 (5 * s + 4) ≤ 1 := A.2.2.2.2 s hs
theorem gA_t (A : gA S g) {t : Nat} (ht : t < S 61 5) : g.1 10 t = nI (S 66 (5 * t + 1)) ∧ g.1 11 t = nI (S 66 (5 * t + 2)) ∧ (bt (g.1 2 9) t = true ↔ S 66 (5 * t + 3) = 1) ∧ (bt (g.1 2 10) t = true ↔ S 66 (5 * t + 4) = 1) := by
  obtain ⟨⟨-, -, -, -, -, -, e7, -⟩, -⟩ := A
  exact (e7 t ht).2
theorem gA_tw (A : gA S g) {t : Nat} (ht : t < S 61 5) : S 66 (5 * t + 1) < S 61 3 ∧ S 66 (5 * t + 2) < 24 ∧ S 66 (5 * t + 3) ≤ 1 ∧ S 66 (5 * t + 4) ≤ 1 := by
  obtain ⟨-, -, ⟨-, -, -, -, -, -, -, wT, -⟩, -⟩ := A
  exact (wT t ht).2
theorem gA_nr (A : gA S g) {i : Nat} (hi : i < 6) : g.1 7 i = nI (S 68 i) ∧ S 68 i < 64 := by
  obtain ⟨⟨-, -, -, -, e, -⟩, -, ⟨-, -, -, -, -, -, -, -, -, -, f, -⟩, -⟩ := A
  exact ⟨e i hi, f i hi⟩
theorem gA_pl (A : gA S g) {p h : Nat} (hp : p < S 61 4) (hh : h < 24) : a_pl S p h < S 61 3 := by
  have c := gA_c A
  obtain ⟨-, -, ⟨-, -, -, -, -, -, -, -, -, f, -⟩, -⟩ := A
  exact f _ (by omega)
theorem gA_pa (A : gA S g) {p h : Nat} (hp : p < S 61 4) (hh : h < 24) : fn_Tw_placeAt (nI p) (nI h) g = some (nI (a_pl S p h), g) :=
  pa_c A.1 (gA_c A).2.2.2.2.2.2.1 hp hh
def a_tl (S : et_T) (r t : Nat) : Prop := ∃ k, 1 ≤ k ∧ k < S 67 (5 * r) ∧ S 67 (5 * r + 1 + k) = t
theorem gA_r (A : gA S g) {r : Nat} (hr : r < S 61 6) : g.1 12 r = nI (S 67 (5 * r + 1)) ∧ g.1 13 r = mI (a_tl S r) ∧ S 67 (5 * r + 1) < S 61 5 ∧ ∀ k, k < S 67 (5 * r) → S 67 (5 * r + 1 + k) < S 61 5 := by
  obtain ⟨⟨-, -, -, -, -, -, -, e, -⟩, -, ⟨-, -, -, -, -, -, -, -, f, -⟩, -⟩ := A
  obtain ⟨e1, e2⟩ := e r hr
  obtain ⟨f1, f2, f3⟩ := f r hr
  exact ⟨e1, mI_eq fun i _ => e2 i, f3 0 (by omega), f3⟩
theorem ih_c (A : gA S g) {s p : Nat} (hs : s < S 61 50) (hp : p < S 61 4) : fn_Le_isHeardBy (nI s) (nI p) g = some (bI (S 84 (5 * s) ≠ p ∧ a_pl S p (S 84 (5 * s + 1)) = a_pl S (S 84 (5 * s)) (S 84 (5 * s + 1))), g) := by
  obtain ⟨e1, e2, -, -, -⟩ := gA_s A hs
  obtain ⟨w1, w2, -, -, -⟩ := gA_w A hs
  have hn := (gA_n A).2
  have c := gA_c A
  unfold fn_Le_isHeardBy
  have q1 := gA_pl A hp w2
  have q2 := gA_pl A w1 w2
  simp (disch := omega) only [ni_of, nI_clamp, ib_e, ck_t, bd_s, et_b, nI_add, if_p, ni_eq, ni_lt, ni_le, b_e0, b_e1, io_n, e1, e2, gA_pa A hp w2, gA_pa A w1 w2, io_s]
  by_cases h : S 84 (5 * s) = p
  · rw [io_t h, bI_f (fun e => e.1 h)]
  · rw [io_f h]
    exact congrArg some (congrArg (·, g) (bI_c ⟨fun e => ⟨h, e⟩, fun e => e.2⟩))
theorem hd_c (A : gA S g) {p h : Nat} (hp : p < S 61 4) (hh : h < 24) : fn_Gr_heardBy (nI p) (nI h) g = some (mI (a_hr S p h), g) := by
  obtain ⟨n0, hn⟩ := gA_n A
  unfold fn_Gr_heardBy
  refine sc_m (P := fun s => S 84 (5 * s + 1) ≤ h ∧ S 84 (5 * s) ≠ p ∧ a_pl S p (S 84 (5 * s + 1)) = a_pl S (S 84 (5 * s)) (S 84 (5 * s + 1))) (by omega) ?_ ?_
  · intro m x
    rw [fn_Gr_heardBy_5, n0, if_pos (nI_le (Nat.le_refl _) (by omega))]
  · intro m x k hk
    obtain ⟨w1, w2, -, -, -⟩ := gA_w A hk
    rw [fn_Gr_heardBy_5, n0, if_neg (nI_ge hk (by omega))]
    simp (disch := omega) only [ni_of, nI_clamp, ib_e, ck_t, bd_s, et_b, nI_add, if_p, ni_eq, ni_lt, ni_le, b_e0, b_e1, io_n, (gA_s A hk).2.1, ih_c A hk hp]
    by_cases c : h < S 84 (5 * k + 1)
    · rw [io_t c, io_f (fun e => by omega)]
    · rw [io_f c]
      exact io_c ⟨fun e => ⟨by omega, e⟩, fun e => e.2⟩
theorem wth_c (A : gA S g) {p t : Nat} (hp : p < S 61 4) (ht : t < S 61 5) : fn_Tw_wasThere (nI p) (nI t) g = some (bI (a_pl S p (S 66 (5 * t + 2)) = S 66 (5 * t + 1)), g) := by
  obtain ⟨e1, e2, -, -⟩ := gA_t A ht
  obtain ⟨w1, w2, -, -⟩ := gA_tw A ht
  have c := gA_c A
  unfold fn_Tw_wasThere
  have q1 := gA_pl A hp w2
  simp (disch := omega) only [ni_of, nI_clamp, ib_e, ck_t, bd_s, et_b, nI_add, if_p, ni_eq, ni_lt, ni_le, b_e0, b_e1, io_n, e1, e2, gA_pa A hp w2, io_s]
theorem nr_c (A : gA S g) {a b : Nat} (ha : a < S 61 3) (hb : b < 32) : fn_Tw_isNear (nI a) (nI b) g = some (bI ((S 68 a).testBit b = true), g) := by
  have c := gA_c A
  obtain ⟨e1, e2⟩ := gA_nr A (show a < 6 by omega)
  unfold fn_Tw_isNear
  rw [c.1, if_neg (nI_pos (by omega)), if_neg (nI_ge ha (by omega))]
  simp (disch := omega) only [ni_of, nI_clamp, ib_e, ck_t, e1]
  rw [mI_n (n := S 68 a) (by omega), hb_m _ hb, bd_s, if_b0, io_s]
theorem oh_43 (A : gA S g) {p t nt : Nat} (hp : p < S 61 4) (ht : t < S 61 5) (hn : nt ≤ 1) (Q : Nat → Prop) : fn_Tw_ownHows_43 (nI p) (nI t) (nI nt) (mI Q) g = some (mI (fun i => Q i ∨ (i = 1 ∧ nt = 0 ∧ S 66 (5 * t + 3) = 1 ∧ S 66 (5 * t + 4) = 0 ∧ (S 68 (a_pl S p (S 66 (5 * t + 2)))).testBit (S 66 (5 * t + 1)) = true)), g) := by
  obtain ⟨e1, e2, e3, e4⟩ := gA_t A ht
  obtain ⟨w1, w2, w3, w4⟩ := gA_tw A ht
  have c := gA_c A
  have q1 := gA_pl A hp w2
  unfold fn_Tw_ownHows_43
  simp (disch := omega) only [ni_of, nI_clamp, ib_e, ck_t, bd_s, et_b, nI_add, if_p, ni_eq, ni_lt, ni_le, b_e0, b_e1, io_n, e1, e2, gA_pa A hp w2, hb_p (show t < 32 by omega) e3, hb_p (show t < 32 by omega) e4, nr_c A q1 (show S 66 (5 * t + 1) < 32 by omega), show nI 2 = mI (fun i => i = 1) from mI_k (k := 1) (by decide), mI_or]
  have key : ∀ c : Prop, c → mI (fun i => Q i ∨ i = 1) = mI (fun i => Q i ∨ (i = 1 ∧ c)) := fun c hc => mI_c fun i _ => ⟨fun h => h.elim Or.inl (fun h => Or.inr ⟨h, hc⟩), fun h => h.elim Or.inl (fun h => Or.inr h.1)⟩
  have keyn : ∀ c : Prop, ¬ c → mI Q = mI (fun i => Q i ∨ (i = 1 ∧ c)) := fun c hc => mI_c fun i _ => ⟨Or.inl, fun h => h.elim id (fun h => absurd h.2 hc)⟩
  by_cases h1 : nt = 0
  · rw [io_t h1]
    by_cases h2 : S 66 (5 * t + 3) = 1
    · rw [io_t h2]
      by_cases h3 : S 66 (5 * t + 4) = 1
      · rw [io_t h3, ← keyn _ (fun e => by omega)]
      · rw [io_f h3]
        by_cases h4 : (S 68 (a_pl S p (S 66 (5 * t + 2)))).testBit (S 66 (5 * t + 1)) = true
        · rw [io_t h4, ← key _ ⟨h1, h2, by omega, h4⟩]
        · rw [io_f h4, ← keyn _ (fun e => h4 e.2.2.2)]
    · rw [io_f h2, ← keyn _ (fun e => h2 e.2.1)]
  · rw [io_f h1, ← keyn _ (fun e => h1 e.1)]
def a_oh (S : et_T) (p h t nt i : Nat) : Prop := (i = 0 ∧ a_b0 S p h t nt) ∨ (i = 1 ∧ a_b1 S p h t nt)
theorem oh_c (A : gA S g) {p h t nt : Nat} (hp : p < S 61 4) (hh : h < 24) (ht : t < S 61 5) (hn : nt ≤ 1) : fn_Tw_ownHows (nI p) (nI h) (nI t) (nI nt) g = some (mI (a_oh S p h t nt), g) := by
  obtain ⟨e1, e2, e3, e4⟩ := gA_t A ht
  obtain ⟨w1, w2, w3, w4⟩ := gA_tw A ht
  have c := gA_c A
  unfold fn_Tw_ownHows
  have z := oh_43 A hp ht hn (fun _ => False)
  rw [← mI_n0] at z
  simp (disch := omega) only [ni_of, nI_clamp, ib_e, ck_t, bd_s, et_b, nI_add, if_p, ni_eq, ni_lt, ni_le, b_e0, b_e1, io_n, e2, wth_c A hp ht, hb_p (show t < 32 by omega) e4, show nI 0 ||| nI 1 = mI (fun i => i = 0) from mI_k (k := 0) (by decide), oh_43 A hp ht hn, z, b_n hn]
  by_cases h1 : S 66 (5 * t + 2) ≤ h
  · rw [io_t h1]
    by_cases h2 : a_pl S p (S 66 (5 * t + 2)) = S 66 (5 * t + 1)
    · rw [io_t h2]
      by_cases h3 : (S 66 (5 * t + 4) = 1 ↔ nt = 1)
      · rw [io_t h3]
        refine congrArg some (congrArg (·, g) (mI_c fun i _ => ⟨fun q => ?_, fun q => ?_⟩))
        · rcases q with q | q
          · exact Or.inl ⟨q, h1, h2, by omega⟩
          · exact Or.inr ⟨q.1, h1, q.2⟩
        · rcases q with q | q
          · exact Or.inl q.1
          · exact Or.inr ⟨q.1, q.2.2⟩
      · rw [io_f h3]
        refine congrArg some (congrArg (·, g) (mI_c fun i _ => ⟨fun q => ?_, fun q => ?_⟩))
        · rcases q with q | q
          · exact q.elim
          · exact Or.inr ⟨q.1, h1, q.2⟩
        · rcases q with q | q
          · exact absurd q.2.2.2 (by omega)
          · exact Or.inr ⟨q.1, q.2.2⟩
    · rw [io_f h2]
      refine congrArg some (congrArg (·, g) (mI_c fun i _ => ⟨fun q => ?_, fun q => ?_⟩))
      · rcases q with q | q
        · exact q.elim
        · exact Or.inr ⟨q.1, h1, q.2⟩
      · rcases q with q | q
        · exact absurd q.2.2.1 h2
        · exact Or.inr ⟨q.1, q.2.2⟩
  · rw [io_f h1, mI_n0]
    refine congrArg some (congrArg (·, g) (mI_c fun i _ => ⟨fun q => q.elim, fun q => ?_⟩))
    rcases q with q | q
    · exact h1 q.2.1
    · exact h1 q.2.1
theorem ot_c (A : gA S g) {p h : Nat} (hp : p < S 61 4) (hh : h < 24) : fn_Tw_ownThings (nI p) (nI h) g = some (mI (a_ow S p h), g) := by
  have c := gA_c A
  unfold fn_Tw_ownThings
  refine sc_m (P := fun t => a_b0 S p h t 0 ∨ a_b1 S p h t 0) (by omega) ?_ ?_
  · intro m x
    rw [fn_Tw_ownThings_5, c.2.2.1, if_pos (nI_le (Nat.le_refl _) (by omega))]
  · intro m x k hk
    rw [fn_Tw_ownThings_5, c.2.2.1, if_neg (nI_ge hk (by omega))]
    simp (disch := omega) only [ni_of, nI_clamp, ib_e, ck_t, bd_s, et_b, nI_add, if_p, ni_eq, ni_lt, ni_le, b_e0, b_e1, io_n, oh_c A hp hh hk (show 0 ≤ 1 by omega)]
    rw [← io_n]
    refine io_c ⟨fun q => ?_, fun q e => ?_⟩
    · refine Classical.byContradiction fun n => q (mI_z.mpr fun i _ k => ?_)
      rcases k with k | k
      · exact n (Or.inl k.2)
      · exact n (Or.inr k.2)
    · rcases q with q | q
      · exact mI_z.mp e 0 (by decide) (Or.inl ⟨rfl, q⟩)
      · exact mI_z.mp e 1 (by decide) (Or.inr ⟨rfl, q⟩)
theorem tl_c (A : gA S g) {r : Nat} (hr : r < S 61 6) (C : Nat → Prop) : (g.1 13 r &&& (mI C ^^^ (-nI 1)) = nI 0) = (∀ k, 1 ≤ k → k < S 67 (5 * r) → C (S 67 (5 * r + 1 + k))) := by
  have c := gA_c A
  obtain ⟨-, e2, -, e4⟩ := gA_r A hr
  rw [e2, mI_not, mI_and]
  apply propext
  rw [mI_z]
  constructor
  · intro h k h1 h2
    have := e4 k h2
    exact Classical.byContradiction fun n => h _ (by omega) ⟨⟨k, h1, h2, rfl⟩, n⟩
  · intro h i _ ⟨⟨k, h1, h2, h3⟩, q⟩
    exact q (h3 ▸ h k h1 h2)
theorem fo_c (A : gA S g) {r t : Nat} (hr : r < S 61 6) (ht : t < 2 ^ 31) (C : Nat → Prop) : fn_Tw_follows (nI r) (nI t) (mI C) g = some (bI (S 67 (5 * r + 1) = t ∧ ∀ k, 1 ≤ k → k < S 67 (5 * r) → C (S 67 (5 * r + 1 + k))), g) := by
  have c := gA_c A
  obtain ⟨e1, -, e3, -⟩ := gA_r A hr
  unfold fn_Tw_follows
  simp (disch := omega) only [ni_of, nI_clamp, ib_e, ck_t, bd_s, et_b, nI_add, if_p, ni_eq, ni_lt, ni_le, b_e0, b_e1, io_n, e1, tl_c A hr C]
  simp only [io_io]
  rw [io_s]
theorem wko_c (A : gA S g) {t : Nat} (ht : t < 2 ^ 31) (C : Nat → Prop) : fn_Tw_isWorkedOut (nI t) (mI C) g = some (bI (a_wo S t C), g) := by
  have c := gA_c A
  unfold fn_Tw_isWorkedOut
  refine sc_e (N := S 61 6) (P := fun r => S 67 (5 * r + 1) = t ∧ ∀ k, 1 ≤ k → k < S 67 (5 * r) → C (S 67 (5 * r + 1 + k))) (by omega) ?_ ?_
  · intro m
    rw [fn_Tw_isWorkedOut_2, c.2.2.2.1, if_pos (nI_le (Nat.le_refl _) (by omega))]
    rfl
  · intro m k hk
    rw [fn_Tw_isWorkedOut_2, c.2.2.2.1, if_neg (nI_ge hk (by omega)), fo_c A hk ht, bd_s]
    simp (disch := omega) only [ni_of, nI_clamp, ib_e, ck_t, bd_s, et_b, nI_add, if_p, ni_eq, ni_lt, ni_le, b_e0, b_e1, io_n]
theorem fl_c (A : gA S g) (C : Nat → Prop) : fn_Tw_followers (mI C) g = some (mI (fun t => a_wo S t C), g) := by
  have c := gA_c A
  unfold fn_Tw_followers
  refine lp0 (fun m i (x : Int32) => fn_Tw_followers_4 (mI C) m x i g) (fun o => o = some (mI (fun t => a_wo S t C), g)) (S 61 6) (by omega) (fun k x => x = mI fun t => ∃ r, r < k ∧ S 67 (5 * r + 1) = t ∧ ∀ k, 1 ≤ k → k < S 67 (5 * r) → C (S 67 (5 * r + 1 + k))) 0 ?_ ?_ ?_
  · rw [mI_0]; exact mI_c fun i _ => ⟨fun h => h.elim, fun ⟨r, h, _⟩ => by omega⟩
  · intro m s h
    show fn_Tw_followers_4 (mI C) (m + 1) s (nI (S 61 6)) g = _
    rw [fn_Tw_followers_4, c.2.2.2.1, if_pos (nI_le (Nat.le_refl _) (by omega)), h]
    rfl
  · intro m k s hk h ih
    show fn_Tw_followers_4 (mI C) (m + 1) s (nI k) g = _
    obtain ⟨e1, -, e3, -⟩ := gA_r A hk
    rw [fn_Tw_followers_4, c.2.2.2.1, if_neg (nI_ge hk (by omega))]
    simp (disch := omega) only [ni_of, nI_clamp, ib_e, ck_t, bd_s, et_b, nI_add, if_p, ni_eq, ni_lt, ni_le, b_e0, b_e1, io_n, e1, tl_c A hk C, mI_1 (show S 67 (5 * k + 1) < 31 by omega)]
    by_cases q : ∀ j, 1 ≤ j → j < S 67 (5 * k) → C (S 67 (5 * k + 1 + j))
    · rw [io_t q]
      refine ih _ ?_
      rw [h, mI_or]
      refine mI_c fun i _ => ⟨fun z => ?_, fun ⟨r, r1, r2⟩ => ?_⟩
      · rcases z with ⟨r, r1, r2⟩ | z
        · exact ⟨r, by omega, r2⟩
        · exact ⟨k, by omega, z.symm, q⟩
      · by_cases e : r = k
        · subst e; exact Or.inr r2.1.symm
        · exact Or.inl ⟨r, by omega, r2⟩
    · rw [io_f q]
      refine ih _ ?_
      rw [h]
      refine mI_c fun i _ => ⟨fun ⟨r, r1, r2⟩ => ⟨r, by omega, r2⟩, fun ⟨r, r1, r2⟩ => ?_⟩
      by_cases e : r = k
      · subst e; exact absurd r2.2 q
      · exact ⟨r, by omega, r2⟩
end GA
