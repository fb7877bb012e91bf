/-! what class and model have in common: S k j is the natural number at the model's place (k, j) -/
def bt (x : Int32) (i : Nat) : Bool := x.toBitVec.getLsbD i
def c8 (n : Nat) : Int32 := (nI n).toInt8.toInt32
abbrev et_T : Type := Nat → Nat → Nat
/-- letters of a slot: as the model has them at o in A -/
def sl_R (L len : Nat → Int32) (s : Nat) (A : Nat → Nat) (o : Nat) : Prop :=
  len s = nI (A o) ∧ A o ≤ 8 ∧ ∀ i, i < A o → L (8 * s + i) = nI (A (o + 1 + i)) ∧ 97 ≤ A (o + 1 + i) ∧ A (o + 1 + i) ≤ 122
def rc_tape (S : et_T) (g : et_G) : Prop := g.1 0 1 = nI (S 61 17) ∧ ∀ i, i < 800 → g.1 1 i = c8 (S 71 i)
def rc_tong (S : et_T) (g : et_G) : Prop := g.1 3 2 = nI (S 61 1) ∧ g.1 3 3 = nI (S 61 2) ∧ (∀ s, s < S 61 1 → sl_R (g.1 4) (g.1 5) s (S 62) (9 * s)) ∧ (∀ e, e < 15 → sl_R (g.1 4) (g.1 5) (12 + e) (S 63) (9 * e)) ∧ (∀ c, c < S 61 2 → ∀ q, q < 3 → sl_R (g.1 4) (g.1 5) (27 + 3 * c + q) (S 64) (27 * c + 9 * q)) ∧ sl_R (g.1 4) (g.1 5) 45 (S 65) 0
def rc_thing (S : et_T) (g : et_G) (t : Nat) : Prop := g.1 9 t = nI (S 66 (5 * t)) ∧ g.1 10 t = nI (S 66 (5 * t + 1)) ∧ g.1 11 t = nI (S 66 (5 * t + 2)) ∧ (bt (g.1 2 9) t = true ↔ S 66 (5 * t + 3) = 1) ∧ (bt (g.1 2 10) t = true ↔ S 66 (5 * t + 4) = 1)
def rc_rule (S : et_T) (g : et_G) (r : Nat) : Prop := g.1 12 r = nI (S 67 (5 * r + 1)) ∧ ∀ t, (bt (g.1 13 r) t = true ↔ ∃ k, 1 ≤ k ∧ k < S 67 (5 * r) ∧ S 67 (5 * r + 1 + k) = t)
def rc_town (S : et_T) (g : et_G) : Prop := g.1 2 1 = nI (S 61 3) ∧ g.1 2 3 = nI (S 61 4) ∧ g.1 2 5 = nI (S 61 5) ∧ g.1 2 11 = nI (S 61 6) ∧ (∀ i, i < 6 → g.1 7 i = nI (S 68 i)) ∧ (∀ i, i < 24 * S 61 4 → g.1 8 i = nI (S 69 i)) ∧ (∀ t, t < S 61 5 → rc_thing S g t) ∧ (∀ r, r < S 61 6 → rc_rule S g r) ∧ (0 < S 61 4 → ∀ i, i < 10 → g.1 14 i = nI (S 70 i))
def rc_say (S : et_T) (g : et_G) (b o i : Nat) : Prop := g.1 b i = nI (S o (5 * i)) ∧ g.1 (b + 1) i = nI (S o (5 * i + 1)) ∧ g.1 (b + 2) i = nI (S o (5 * i + 2)) ∧ g.1 (b + 3) i = nI (S o (5 * i + 3)) ∧ g.1 (b + 4) i = nI (S o (5 * i + 4))
def rc_led (S : et_T) (g : et_G) : Prop := g.1 34 0 = nI (S 61 50) ∧ ∀ i, i < S 61 50 → rc_say S g 35 84 i
def rc_kept (S : et_T) (g : et_G) : Prop := g.1 0 11 = nI (S 61 69) ∧ (S 61 69 = 1 → g.1 40 0 = nI (S 61 70) ∧ (∀ i, i < S 61 70 → rc_say S g 41 95 i) ∧ g.1 47 1 = nI (S 61 71) ∧ g.1 47 2 = nI (S 61 72))
def rc_mind (S : et_T) (g : et_G) : Prop := g.1 46 1 = nI (S 61 67) ∧ g.1 46 2 = nI (S 61 68)
def rc_ways (S : et_T) (g : et_G) : Prop := g.1 29 1 = nI (S 61 49) ∧ ∀ i, i < S 61 49 → g.1 30 i = nI (S 83 i)
def rc_mend (S : et_T) (g : et_G) : Prop := g.1 59 3 = nI (S 61 65) - 1 ∧ ∀ i, i + 1 < S 61 65 → g.1 60 i = nI (S 94 i)
def rc_misc (S : et_T) (g : et_G) : Prop := g.1 0 14 = nI (S 61 19) - 1 ∧ g.1 0 15 = nI (S 72 0) ∧ g.1 0 16 = nI (S 72 1) ∧ g.1 0 17 = nI (S 72 2)
/-- only these places of S have changed -/
def ag (V : Nat → Nat → Bool) (S S' : et_T) : Prop := ∀ k j, V k j = false → S' k j = S k j
theorem ag_r (S : et_T) : ag (fun _ _ => false) S S := fun _ _ _ => rfl
theorem fq_row {W : Nat → Nat → Bool} {g g' : et_G} (h : fq W g g') {k : Nat} (hw : ∀ j, W k j = false) : g'.1 k = g.1 k := funext fun j => h.1 k j (hw j)
theorem ag_row {V : Nat → Nat → Bool} {S S' : et_T} (h : ag V S S') {k : Nat} (hw : ∀ j, V k j = false) : S' k = S k := funext fun j => h k j (hw j)
def wc_tape (W : Nat → Nat → Bool) : Prop := (W 0 1 = false) ∧ (∀ j, W 1 j = false)
def vc_tape (V : Nat → Nat → Bool) : Prop := (V 61 17 = false) ∧ (∀ j, V 71 j = false)
theorem rc_tape_q {W V : Nat → Nat → Bool} {S S' : et_T} {g g' : et_G} (hf : fq W g g') (hs : ag V S S') (w : wc_tape W) (v : vc_tape V) (h : rc_tape S g) : rc_tape S' g' := by
  obtain ⟨w0, w1⟩ := w
  obtain ⟨v0, v1⟩ := v
  simp only [rc_tape] at h ⊢
  simp only [hf.1 0 1 w0, fq_row hf w1, hs 61 17 v0, ag_row hs v1]
  exact h
def wc_tong (W : Nat → Nat → Bool) : Prop := (W 3 2 = false) ∧ (W 3 3 = false) ∧ (∀ j, W 4 j = false) ∧ (∀ j, W 5 j = false)
def vc_tong (V : Nat → Nat → Bool) : Prop := (V 61 1 = false) ∧ (V 61 2 = false) ∧ (∀ j, V 62 j = false) ∧ (∀ j, V 63 j = false) ∧ (∀ j, V 64 j = false) ∧ (∀ j, V 65 j = false)
theorem rc_tong_q {W V : Nat → Nat → Bool} {S S' : et_T} {g g' : et_G} (hf : fq W g g') (hs : ag V S S') (w : wc_tong W) (v : vc_tong V) (h : rc_tong S g) : rc_tong S' g' := by
  obtain ⟨w0, w1, w2, w3⟩ := w
  obtain ⟨v0, v1, v2, v3, v4, v5⟩ := v
  simp only [rc_tong] at h ⊢
  simp only [hf.1 3 2 w0, hf.1 3 3 w1, fq_row hf w2, fq_row hf w3, hs 61 1 v0, hs 61 2 v1, ag_row hs v2, ag_row hs v3, ag_row hs v4, ag_row hs v5]
  exact h
def wc_town (W : Nat → Nat → Bool) : Prop := (W 2 1 = false) ∧ (W 2 3 = false) ∧ (W 2 5 = false) ∧ (W 2 9 = false) ∧ (W 2 10 = false) ∧ (W 2 11 = false) ∧ (∀ j, W 7 j = false) ∧ (∀ j, W 8 j = false) ∧ (∀ j, W 9 j = false) ∧ (∀ j, W 10 j = false) ∧ (∀ j, W 11 j = false) ∧ (∀ j, W 12 j = false) ∧ (∀ j, W 13 j = false) ∧ (∀ j, W 14 j = false)
def vc_town (V : Nat → Nat → Bool) : Prop := (V 61 3 = false) ∧ (V 61 4 = false) ∧ (V 61 5 = false) ∧ (V 61 6 = false) ∧ (∀ j, V 66 j = false) ∧ (∀ j, V 67 j = false) ∧ (∀ j, V 68 j = false) ∧ (∀ j, V 69 j = false) ∧ (∀ j, V 70 j = false)
theorem rc_town_q {W V : Nat → Nat → Bool} {S S' : et_T} {g g' : et_G} (hf : fq W g g') (hs : ag V S S') (w : wc_town W) (v : vc_town V) (h : rc_town S g) : rc_town S' g' := by
  obtain ⟨w0, w1, w2, w3, w4, w5, w6, w7, w8, w9, w10, w11, w12, w13⟩ := w
  obtain ⟨v0, v1, v2, v3, v4, v5, v6, v7, v8⟩ := v
  simp only [rc_town, rc_thing, rc_rule] at h ⊢
  simp only [hf.1 2 1 w0, hf.1 2 3 w1, hf.1 2 5 w2, hf.1 2 9 w3, hf.1 2 10 w4, hf.1 2 11 w5, fq_row hf w6, fq_row hf w7, fq_row hf w8, fq_row hf w9, fq_row hf w10, fq_row hf w11, fq_row hf w12, fq_row hf w13, hs 61 3 v0, hs 61 4 v1, hs 61 5 v2, hs 61 6 v3, ag_row hs v4, ag_row hs v5, ag_row hs v6, ag_row hs v7, ag_row hs v8]
  exact h
def wc_led (W : Nat → Nat → Bool) : Prop := (W 34 0 = false) ∧ (∀ j, W 35 j = false) ∧ (∀ j, W 36 j = false) ∧ (∀ j, W 37 j = false) ∧ (∀ j, W 38 j = false) ∧ (∀ j, W 39 j = false)
def vc_led (V : Nat → Nat → Bool) : Prop := (V 61 50 = false) ∧ (∀ j, V 84 j = false)
theorem rc_led_q {W V : Nat → Nat → Bool} {S S' : et_T} {g g' : et_G} (hf : fq W g g') (hs : ag V S S') (w : wc_led W) (v : vc_led V) (h : rc_led S g) : rc_led S' g' := by
  obtain ⟨w0, w1, w2, w3, w4, w5⟩ := w
  obtain ⟨v0, v1⟩ := v
  simp only [rc_led, rc_say] at h ⊢
  simp only [hf.1 34 0 w0, fq_row hf w1, fq_row hf w2, fq_row hf w3, fq_row hf w4, fq_row hf w5, hs 61 50 v0, ag_row hs v1]
  exact h
def wc_kept (W : Nat → Nat → Bool) : Prop := (W 0 11 = false) ∧ (W 40 0 = false) ∧ (∀ j, W 41 j = false) ∧ (∀ j, W 42 j = false) ∧ (∀ j, W 43 j = false) ∧ (∀ j, W 44 j = false) ∧ (∀ j, W 45 j = false) ∧ (W 47 1 = false) ∧ (W 47 2 = false)
def vc_kept (V : Nat → Nat → Bool) : Prop := (V 61 69 = false) ∧ (V 61 70 = false) ∧ (V 61 71 = false) ∧ (V 61 72 = false) ∧ (∀ j, V 95 j = false)
theorem rc_kept_q {W V : Nat → Nat → Bool} {S S' : et_T} {g g' : et_G} (hf : fq W g g') (hs : ag V S S') (w : wc_kept W) (v : vc_kept V) (h : rc_kept S g) : rc_kept S' g' := by
  obtain ⟨w0, w1, w2, w3, w4, w5, w6, w7, w8⟩ := w
  obtain ⟨v0, v1, v2, v3, v4⟩ := v
  simp only [rc_kept, rc_say] at h ⊢
  simp only [hf.1 0 11 w0, hf.1 40 0 w1, fq_row hf w2, fq_row hf w3, fq_row hf w4, fq_row hf w5, fq_row hf w6, hf.1 47 1 w7, hf.1 47 2 w8, hs 61 69 v0, hs 61 70 v1, hs 61 71 v2, hs 61 72 v3, ag_row hs v4]
  exact h
def wc_mind (W : Nat → Nat → Bool) : Prop := (W 46 1 = false) ∧ (W 46 2 = false)
def vc_mind (V : Nat → Nat → Bool) : Prop := (V 61 67 = false) ∧ (V 61 68 = false)
theorem rc_mind_q {W V : Nat → Nat → Bool} {S S' : et_T} {g g' : et_G} (hf : fq W g g') (hs : ag V S S') (w : wc_mind W) (v : vc_mind V) (h : rc_mind S g) : rc_mind S' g' := by
  obtain ⟨w0, w1⟩ := w
  obtain ⟨v0, v1⟩ := v
  simp only [rc_mind] at h ⊢
  simp only [hf.1 46 1 w0, hf.1 46 2 w1, hs 61 67 v0, hs 61 68 v1]
  exact h
def wc_ways (W : Nat → Nat → Bool) : Prop := (W 29 1 = false) ∧ (∀ j, W 30 j = false)
def vc_ways (V : Nat → Nat → Bool) : Prop := (V 61 49 = false) ∧ (∀ j, V 83 j = false)
theorem rc_ways_q {W V : Nat → Nat → Bool} {S S' : et_T} {g g' : et_G} (hf : fq W g g') (hs : ag V S S') (w : wc_ways W) (v : vc_ways V) (h : rc_ways S g) : rc_ways S' g' := by
  obtain ⟨w0, w1⟩ := w
  obtain ⟨v0, v1⟩ := v
  simp only [rc_ways] at h ⊢
  simp only [hf.1 29 1 w0, fq_row hf w1, hs 61 49 v0, ag_row hs v1]
  exact h
def wc_mend (W : Nat → Nat → Bool) : Prop := (W 59 3 = false) ∧ (∀ j, W 60 j = false)
def vc_mend (V : Nat → Nat → Bool) : Prop := (V 61 65 = false) ∧ (∀ j, V 94 j = false)
theorem rc_mend_q {W V : Nat → Nat → Bool} {S S' : et_T} {g g' : et_G} (hf : fq W g g') (hs : ag V S S') (w : wc_mend W) (v : vc_mend V) (h : rc_mend S g) : rc_mend S' g' := by
  obtain ⟨w0, w1⟩ := w
  obtain ⟨v0, v1⟩ := v
  simp only [rc_mend] at h ⊢
  simp only [hf.1 59 3 w0, fq_row hf w1, hs 61 65 v0, ag_row hs v1]
  exact h
def wc_misc (W : Nat → Nat → Bool) : Prop := (W 0 14 = false) ∧ (W 0 15 = false) ∧ (W 0 16 = false) ∧ (W 0 17 = false)
def vc_misc (V : Nat → Nat → Bool) : Prop := (V 61 19 = false) ∧ (∀ j, V 72 j = false)
theorem rc_misc_q {W V : Nat → Nat → Bool} {S S' : et_T} {g g' : et_G} (hf : fq W g g') (hs : ag V S S') (w : wc_misc W) (v : vc_misc V) (h : rc_misc S g) : rc_misc S' g' := by
  obtain ⟨w0, w1, w2, w3⟩ := w
  obtain ⟨v0, v1⟩ := v
  simp only [rc_misc] at h ⊢
  simp only [hf.1 0 14 w0, hf.1 0 15 w1, hf.1 0 16 w2, hf.1 0 17 w3, hs 61 19 v0, ag_row hs v1]
  exact h
def wf_tape (S : et_T) : Prop := S 61 17 ≤ 800 ∧ ∀ i, i < 800 → S 71 i < 256
def wf_thing (S : et_T) (t : Nat) : Prop := S 66 (5 * t) < S 61 1 ∧ S 66 (5 * t + 1) < S 61 3 ∧ S 66 (5 * t + 2) < 24 ∧ S 66 (5 * t + 3) ≤ 1 ∧ S 66 (5 * t + 4) ≤ 1
def wf_rule (S : et_T) (r : Nat) : Prop := 2 ≤ S 67 (5 * r) ∧ S 67 (5 * r) ≤ 4 ∧ ∀ k, k < S 67 (5 * r) → S 67 (5 * r + 1 + k) < S 61 5
def wf_town (S : et_T) : Prop := S 61 1 ≤ 12 ∧ S 61 2 ≤ 6 ∧ 1 ≤ S 61 3 ∧ S 61 3 ≤ 6 ∧ S 61 4 ≤ 6 ∧ S 61 5 ≤ 8 ∧ S 61 6 ≤ 6 ∧ (∀ t, t < S 61 5 → wf_thing S t) ∧ (∀ r, r < S 61 6 → wf_rule S r) ∧ (∀ i, i < 144 → S 69 i < S 61 3) ∧ (∀ i, i < 6 → S 68 i < 64) ∧ (∀ i, i < 10 → S 70 i ≤ 1000)
def wf_say (S : et_T) (o i : Nat) : Prop := S o (5 * i) < S 61 4 ∧ S o (5 * i + 1) < 24 ∧ S o (5 * i + 2) < S 61 5 ∧ S o (5 * i + 3) < 5 ∧ S o (5 * i + 4) ≤ 1
def wf_led (S : et_T) : Prop := S 61 50 ≤ 20 ∧ ∀ i, i < S 61 50 → wf_say S 84 i
def wf_mnd (S : et_T) (a b : Nat) : Prop := S 61 a < 2 ^ S 61 5 ∧ S 61 b < 2 ^ 16 ∧ (S 61 a = 0 ↔ S 61 b = 0)
def wf_mind (S : et_T) : Prop := wf_mnd S 67 68
def wf_kept (S : et_T) : Prop := S 61 69 ≤ 1 ∧ (S 61 69 = 1 → S 61 70 ≤ 20 ∧ (∀ i, i < S 61 70 → wf_say S 95 i) ∧ wf_mnd S 71 72)
def wf_ways (S : et_T) : Prop := S 61 49 ≤ 180 ∧ ∀ i, i < S 61 49 → S 83 i < 180
def wf_mend (S : et_T) : Prop := S 61 65 ≤ 13
def vf_tape (V : Nat → Nat → Bool) : Prop := (V 61 17 = false) ∧ (∀ j, V 71 j = false)
theorem wf_tape_q {V : Nat → Nat → Bool} {S S' : et_T} (hs : ag V S S') (v : vf_tape V) (h : wf_tape S) : wf_tape S' := by
  obtain ⟨v0, v1⟩ := v
  simp only [wf_tape] at h ⊢
  simp only [hs 61 17 v0, ag_row hs v1]
  exact h
def vf_town (V : Nat → Nat → Bool) : Prop := (V 61 1 = false) ∧ (V 61 2 = false) ∧ (V 61 3 = false) ∧ (V 61 4 = false) ∧ (V 61 5 = false) ∧ (V 61 6 = false) ∧ (∀ j, V 66 j = false) ∧ (∀ j, V 67 j = false) ∧ (∀ j, V 68 j = false) ∧ (∀ j, V 69 j = false) ∧ (∀ j, V 70 j = false)
theorem wf_town_q {V : Nat → Nat → Bool} {S S' : et_T} (hs : ag V S S') (v : vf_town V) (h : wf_town S) : wf_town S' := by
  obtain ⟨v0, v1, v2, v3, v4, v5, v6, v7, v8, v9, v10⟩ := v
  simp only [wf_town, wf_thing, wf_rule] at h ⊢
  simp only [hs 61 1 v0, hs 61 2 v1, hs 61 3 v2, hs 61 4 v3, hs 61 5 v4, hs 61 6 v5, ag_row hs v6, ag_row hs v7, ag_row hs v8, ag_row hs v9, ag_row hs v10]
  exact h
def vf_led (V : Nat → Nat → Bool) : Prop := (V 61 4 = false) ∧ (V 61 5 = false) ∧ (V 61 50 = false) ∧ (∀ j, V 84 j = false)
theorem wf_led_q {V : Nat → Nat → Bool} {S S' : et_T} (hs : ag V S S') (v : vf_led V) (h : wf_led S) : wf_led S' := by
  obtain ⟨v0, v1, v2, v3⟩ := v
  simp only [wf_led, wf_say] at h ⊢
  simp only [hs 61 4 v0, hs 61 5 v1, hs 61 50 v2, ag_row hs v3]
  exact h
def vf_mind (V : Nat → Nat → Bool) : Prop := (V 61 5 = false) ∧ (V 61 67 = false) ∧ (V 61 68 = false)
theorem wf_mind_q {V : Nat → Nat → Bool} {S S' : et_T} (hs : ag V S S') (v : vf_mind V) (h : wf_mind S) : wf_mind S' := by
  obtain ⟨v0, v1, v2⟩ := v
  simp only [wf_mind, wf_mnd] at h ⊢
  simp only [hs 61 5 v0, hs 61 67 v1, hs 61 68 v2]
  exact h
def vf_kept (V : Nat → Nat → Bool) : Prop := (V 61 4 = false) ∧ (V 61 5 = false) ∧ (V 61 69 = false) ∧ (V 61 70 = false) ∧ (V 61 71 = false) ∧ (V 61 72 = false) ∧ (∀ j, V 95 j = false)
theorem wf_kept_q {V : Nat → Nat → Bool} {S S' : et_T} (hs : ag V S S') (v : vf_kept V) (h : wf_kept S) : wf_kept S' := by
  obtain ⟨v0, v1, v2, v3, v4, v5, v6⟩ := v
  simp only [wf_kept, wf_say, wf_mnd] at h ⊢
  simp only [hs 61 4 v0, hs 61 5 v1, hs 61 69 v2, hs 61 70 v3, hs 61 71 v4, hs 61 72 v5, ag_row hs v6]
  exact h
def vf_ways (V : Nat → Nat → Bool) : Prop := (V 61 49 = false) ∧ (∀ j, V 83 j = false)
theorem wf_ways_q {V : Nat → Nat → Bool} {S S' : et_T} (hs : ag V S S') (v : vf_ways V) (h : wf_ways S) : wf_ways S' := by
  obtain ⟨v0, v1⟩ := v
  simp only [wf_ways] at h ⊢
  simp only [hs 61 49 v0, ag_row hs v1]
  exact h
def vf_mend (V : Nat → Nat → Bool) : Prop := (V 61 65 = false)
theorem wf_mend_q {V : Nat → Nat → Bool} {S S' : et_T} (hs : ag V S S') (v : vf_mend V) (h : wf_mend S) : wf_mend S' := by
  have v0 := v
  simp only [wf_mend] at h ⊢
  simp only [hs 61 65 v0]
  exact h
/-- the class's cells, but for the ground's -/
def rc_C (S : et_T) (g : et_G) : Prop := rc_tape S g ∧ rc_tong S g ∧ rc_town S g ∧ rc_led S g ∧ rc_kept S g ∧ rc_mind S g ∧ rc_ways S g ∧ rc_mend S g ∧ rc_misc S g
def wf_S (S : et_T) : Prop := wf_tape S ∧ wf_town S ∧ wf_led S ∧ wf_mind S ∧ wf_kept S ∧ wf_ways S ∧ wf_mend S
def wc_C (W : Nat → Nat → Bool) : Prop := wc_tape W ∧ wc_tong W ∧ wc_town W ∧ wc_led W ∧ wc_kept W ∧ wc_mind W ∧ wc_ways W ∧ wc_mend W ∧ wc_misc W
theorem rc_C_q {W : Nat → Nat → Bool} {S : et_T} {g g' : et_G} (hf : fq W g g') (w : wc_C W) (h : rc_C S g) : rc_C S g' := by
  obtain ⟨w0, w1, w2, w3, w4, w5, w6, w7, w8⟩ := w
  obtain ⟨h0, h1, h2, h3, h4, h5, h6, h7, h8⟩ := h
  exact ⟨rc_tape_q hf (ag_r S) w0 ⟨rfl, fun _ => rfl⟩ h0, rc_tong_q hf (ag_r S) w1 ⟨rfl, rfl, fun _ => rfl, fun _ => rfl, fun _ => rfl, fun _ => rfl⟩ h1, rc_town_q hf (ag_r S) w2 ⟨rfl, rfl, rfl, rfl, fun _ => rfl, fun _ => rfl, fun _ => rfl, fun _ => rfl, fun _ => rfl⟩ h2, rc_led_q hf (ag_r S) w3 ⟨rfl, fun _ => rfl⟩ h3, rc_kept_q hf (ag_r S) w4 ⟨rfl, rfl, rfl, rfl, fun _ => rfl⟩ h4, rc_mind_q hf (ag_r S) w5 ⟨rfl, rfl⟩ h5, rc_ways_q hf (ag_r S) w6 ⟨rfl, fun _ => rfl⟩ h6, rc_mend_q hf (ag_r S) w7 ⟨rfl, fun _ => rfl⟩ h7, rc_misc_q hf (ag_r S) w8 ⟨rfl, fun _ => rfl⟩ h8⟩
/-- the model's cells that last -/
def mp (k j : Nat) : Bool := (Nat.ble 62 k && Nat.ble k 72) || k == 83 || k == 84 || k == 94 || k == 95 || (k == 61 && (Nat.ble 1 j && Nat.ble j 6 || j == 17 || j == 49 || j == 50 || Nat.ble 67 j && Nat.ble j 72))
def mq (k j : Nat) : Bool := mp k j || (k == 61 && (j == 19 || j == 65))
def rc_M (S : et_T) (g : et_G) : Prop := (∀ k j, mp k j = true → g.1 k j = nI (S k j)) ∧ g.1 61 19 = nI (S 61 19) - 1 ∧ g.1 61 65 = nI (S 61 65) - 1
theorem rc_M_q {W : Nat → Nat → Bool} {S : et_T} {g g' : et_G} (hf : fq W g g') (w : ∀ k j, mq k j = true → W k j = false) (h : rc_M S g) : rc_M S g' := by
  refine ⟨fun k j hk => ?_, ?_, ?_⟩
  · rw [hf.1 k j (w k j (by unfold mq; rw [hk]; rfl))]; exact h.1 k j hk
  · rw [hf.1 61 19 (w 61 19 rfl)]; exact h.2.1
  · rw [hf.1 61 65 (w 61 65 rfl)]; exact h.2.2
theorem rc_M_n {W V : Nat → Nat → Bool} {S S' : et_T} {g g' : et_G} (hf : fq W g g') (hs : ag V S S') (hv : ∀ k j, mq k j = true → W k j = false → V k j = false) (h : rc_M S g)
    (hn : ∀ k j, mp k j = true → W k j = true → g'.1 k j = nI (S' k j)) (h1 : W 61 19 = true → g'.1 61 19 = nI (S' 61 19) - 1) (h2 : W 61 65 = true → g'.1 61 65 = nI (S' 61 65) - 1) : rc_M S' g' := by
  refine ⟨fun k j hk => ?_, ?_, ?_⟩
  · cases e : W k j with
    | true => exact hn k j hk e
    | false => rw [hf.1 k j e, hs k j (hv k j (by unfold mq; rw [hk]; rfl) e)]; exact h.1 k j hk
  · cases e : W 61 19 with
    | true => exact h1 e
    | false => rw [hf.1 _ _ e, hs _ _ (hv 61 19 rfl e)]; exact h.2.1
  · cases e : W 61 65 with
    | true => exact h2 e
    | false => rw [hf.1 _ _ e, hs _ _ (hv 61 65 rfl e)]; exact h.2.2
