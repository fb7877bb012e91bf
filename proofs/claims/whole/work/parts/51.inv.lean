/-! what class and model have in common: S k j is the natural number at the model's place (k, j) -/
def bt (x : Int32) (i : Nat) : Bool := x.toBitVec.getLsbD i
def c8 (n : Nat) : Int32 := (nI n).toInt8.toInt32
abbrev et_T : Type := Nat → Nat → Nat
/-- letters of a slot: as the model has them at o in A -/
def sl_R (L len : Nat → Int32) (s : Nat) (A : Nat → Nat) (o : Nat) : Prop :=
  len s = nI (A o) ∧ A o ≤ 8 ∧ ∀ i, i < A o → L (8 * s + i) = nI (A (o + 1 + i)) ∧ 97 ≤ A (o + 1 + i) ∧ A (o + 1 + i) ≤ 122
def rc_tape (S : et_T) (g : et_G) : Prop := g.1 0 1 = nI (S 61 17) ∧ ∀ i, i < 800 → g.1 1 i = c8 (S 71 i)
def rc_tong (S : et_T) (g : et_G) : Prop := g.1 3 2 = nI (S 61 1) ∧ g.1 3 3 = nI (S 61 2) ∧ (∀ s, s < S 61 1 → sl_R (g.1 4) (g.1 5) s (S 62) (9 * s)) ∧ (∀ e, e < 15 → sl_R (g.1 4) (g.1 5) (12 + e) (S 63) (9 * e)) ∧ (∀ c, c < S 61 2 → ∀ q, q < 3 → sl_R (g.1 4) (g.1 5) (27 + 3 * c + q) (S 64) (27 * c + 9 * q)) ∧ sl_R (g.1 4) (g.1 5) 45 (S 65) 0
def rc_thing (S : et_T) (g : et_G) (t : Nat) : Prop := g.1 9 t = nI (S 66 (5 * t)) ∧ g.1 10 t = nI (S 66 (5 * t + 1)) ∧ g.1 11 t = nI (S 66 (5 * t + 2)) ∧ (bt (g.1 2 9) t = true ↔ S 66 (5 * t + 3) = 1) ∧ (bt (g.1 2 10) t = true ↔ S 66 (5 * t + 4) = 1)
def rc_rule (S : et_T) (g : et_G) (r : Nat) : Prop := g.1 12 r = nI (S 67 (5 * r + 1)) ∧ ∀ t, (bt (g.1 13 r) t = true ↔ ∃ k, 1 ≤ k ∧ k < S 67 (5 * r) ∧ S 67 (5 * r + 1 + k) = t)
def rc_town (S : et_T) (g : et_G) : Prop := g.1 2 1 = nI (S 61 3) ∧ g.1 2 3 = nI (S 61 4) ∧ g.1 2 5 = nI (S 61 5) ∧ g.1 2 11 = nI (S 61 6) ∧ (∀ i, i < 6 → g.1 7 i = nI (S 68 i)) ∧ (∀ i, i < 24 * S 61 4 → g.1 8 i = nI (S 69 i)) ∧ (∀ t, t < S 61 5 → rc_thing S g t) ∧ (∀ r, r < S 61 6 → rc_rule S g r) ∧ (0 < S 61 4 → ∀ i, i < 10 → g.1 14 i = nI (S 70 i))
def rc_say (S : et_T) (g : et_G) (b o i : Nat) : Prop := g.1 b i = nI (S o (5 * i)) ∧ g.1 (b + 1) i = nI (S o (5 * i + 1)) ∧ g.1 (b + 2) i = nI (S o (5 * i + 2)) ∧ g.1 (b + 3) i = nI (S o (5 * i + 3)) ∧ g.1 (b + 4) i = nI (S o (5 * i + 4))
def rc_led (S : et_T) (g : et_G) : Prop := g.1 34 0 = nI (S 61 50) ∧ ∀ i, i < S 61 50 → rc_say S g 35 84 i
def rc_kept (S : et_T) (g : et_G) : Prop := g.1 0 11 = nI (S 61 69) ∧ (S 61 69 = 1 → g.1 40 0 = nI (S 61 70) ∧ (∀ i, i < S 61 70 → rc_say S g 41 95 i) ∧ g.1 47 1 = nI (S 61 71) ∧ g.1 47 2 = nI (S 61 72))
def rc_mind (S : et_T) (g : et_G) : Prop := g.1 46 1 = nI (S 61 67) ∧ g.1 46 2 = nI (S 61 68)
def rc_ways (S : et_T) (g : et_G) : Prop := g.1 29 1 = nI (S 61 49) ∧ ∀ i, i < S 61 49 → g.1 30 i = nI (S 83 i)
def rc_mend (S : et_T) (g : et_G) : Prop := g.1 59 3 = nI (S 61 65) - 1 ∧ ∀ i, i + 1 < S 61 65 → g.1 60 i = nI (S 94 i)
def rc_misc (S : et_T) (g : et_G) : Prop := g.1 0 14 = nI (S 61 19) - 1 ∧ g.1 0 15 = nI (S 72 0) ∧ g.1 0 16 = nI (S 72 1) ∧ g.1 0 17 = nI (S 72 2)
/-- the class's cells, but for the ground's -/
def rc_C (S : et_T) (g : et_G) : Prop := rc_tape S g ∧ rc_tong S g ∧ rc_town S g ∧ rc_led S g ∧ rc_kept S g ∧ rc_mind S g ∧ rc_ways S g ∧ rc_mend S g ∧ rc_misc S g
/-- the model's cells that last -/
def mp (k j : Nat) : Bool := (Nat.ble 62 k && Nat.ble k 72) || k == 83 || k == 84 || k == 94 || k == 95 || (k == 61 && (Nat.ble 1 j && Nat.ble j 6 || j == 17 || j == 49 || j == 50 || Nat.ble 67 j && Nat.ble j 72))
def rc_M (S : et_T) (g : et_G) : Prop := (∀ k j, mp k j = true → g.1 k j = nI (S k j)) ∧ g.1 61 19 = nI (S 61 19) - 1 ∧ g.1 61 65 = nI (S 61 65) - 1
def wf_thing (S : et_T) (t : Nat) : Prop := S 66 (5 * t) < S 61 1 ∧ S 66 (5 * t + 1) < S 61 3 ∧ S 66 (5 * t + 2) < 24 ∧ S 66 (5 * t + 3) ≤ 1 ∧ S 66 (5 * t + 4) ≤ 1
def wf_rule (S : et_T) (r : Nat) : Prop := 2 ≤ S 67 (5 * r) ∧ S 67 (5 * r) ≤ 4 ∧ ∀ k, k < S 67 (5 * r) → S 67 (5 * r + 1 + k) < S 61 5
def wf_say (S : et_T) (o i : Nat) : Prop := S o (5 * i) < S 61 4 ∧ S o (5 * i + 1) < 24 ∧ S o (5 * i + 2) < S 61 5 ∧ S o (5 * i + 3) < 5 ∧ S o (5 * i + 4) ≤ 1
def wf_mind (S : et_T) (a b : Nat) : Prop := S 61 a < 2 ^ S 61 5 ∧ S 61 b < 2 ^ 16 ∧ (S 61 a = 0 ↔ S 61 b = 0)
def wf_S (S : et_T) : Prop := S 61 17 ≤ 800 ∧ (∀ i, i < 800 → S 71 i < 256) ∧ S 61 1 ≤ 12 ∧ S 61 2 ≤ 6 ∧ 1 ≤ S 61 3 ∧ S 61 3 ≤ 6 ∧ S 61 4 ≤ 6 ∧ S 61 5 ≤ 8 ∧ S 61 6 ≤ 6 ∧ (∀ t, t < S 61 5 → wf_thing S t) ∧ (∀ r, r < S 61 6 → wf_rule S r) ∧ (∀ i, i < 144 → S 69 i < S 61 3) ∧ (∀ i, i < 6 → S 68 i < 64) ∧ (∀ i, i < 10 → S 70 i ≤ 1000)
  ∧ S 61 50 ≤ 20 ∧ (∀ i, i < S 61 50 → wf_say S 84 i) ∧ wf_mind S 67 68 ∧ S 61 69 ≤ 1 ∧ (S 61 69 = 1 → S 61 70 ≤ 20 ∧ (∀ i, i < S 61 70 → wf_say S 95 i) ∧ wf_mind S 71 72) ∧ S 61 49 ≤ 180 ∧ (∀ i, i < S 61 49 → S 83 i < 180) ∧ S 61 65 ≤ 13
