/-! village: what the draft and the model's new rows have in common -/
def slJ (L len A : Nat → Int32) (s o m : Nat) : Prop := len s = nI m ∧ A o = nI m ∧ m ≤ 8 ∧ ∀ i, i < m → ∃ c, 97 ≤ c ∧ c ≤ 122 ∧ L (8 * s + i) = nI c ∧ A (o + 1 + i) = nI c
def sK (s : Nat) : Nat := if s < 12 then 73 else if s < 27 then 74 else if s < 45 then 75 else 76
def sO (s : Nat) : Nat := if s < 12 then 9 * s else if s < 27 then 9 * (s - 12) else if s < 45 then 9 * (s - 27) else 0
def vS (P : Nat → Prop) (g h : et_G) : Prop := ∀ s, s < 46 → P s → ∃ m, slJ (g.1 17) (g.1 18) (h.1 (sK s)) s (sO s) m
def act (D : Nat → Nat) (s : Nat) : Prop := s < D 28 ∨ (12 ≤ s ∧ s < 27) ∨ (27 ≤ s ∧ s < 27 + 3 * D 29) ∨ s = 45
def cK (j : Nat) : Nat := if j = 28 then 16 else if j = 29 then 16 else if j = 35 then 28 else if j = 36 then 28 else 15
def cJ (j : Nat) : Nat := if j = 28 then 2 else if j = 29 then 3 else if j = 30 then 1 else if j = 31 then 3 else if j = 32 then 5 else if j = 33 then 11 else if j = 35 then 7 else 8
def dU (D : Nat → Nat) (c x : Nat) (j : Nat) : Nat := if j = c then x else D j
def vA (D : Nat → Nat) (g h : et_G) : Prop := ∀ j, j < 9 → h.1 61 (28 + j) = nI (D (28 + j)) ∧ (28 + j ≠ 34 → g.1 (cK (28 + j)) (cJ (28 + j)) = nI (D (28 + j)))
def vB (D : Nat → Nat) : Prop := D 28 ≤ 12 ∧ D 29 ≤ 6 ∧ (1 ≤ D 30 ∧ D 30 ≤ 6) ∧ D 31 ≤ 6 ∧ D 32 ≤ 8 ∧ D 33 ≤ 6 ∧ D 34 ≤ 1 ∧ D 35 ≤ 1 ∧ D 36 ≤ 1
def vL (D : Nat → Nat) (g h : et_G) : Prop := vS (act D) g h ∧ ∃ m, m ≤ 8 ∧ g.1 18 45 = nI m ∧ (m = 0 ↔ D 34 = 0)
def vN (g h : et_G) : Prop := ∀ i, i < 6 → ∃ m, m < 64 ∧ g.1 20 i = nI m ∧ h.1 79 i = nI m
def vH (D : Nat → Nat) (g h : et_G) : Prop := ∀ i, i < 144 → (g.1 21 i = -1 ∧ h.1 80 i = -1) ∨ (D 36 = 1 ∧ ∃ m, m < D 30 ∧ g.1 21 i = nI m ∧ h.1 80 i = nI m)
def vW (g h : et_G) : Prop := ∀ i, i < 10 → ∃ m, m ≤ 1000 ∧ g.1 27 i = nI m ∧ h.1 81 i = nI m
def thJ (D : Nat → Nat) (g h : et_G) (t : Nat) : Prop := ∃ s p q l v, s < D 28 ∧ p < D 30 ∧ q < 24 ∧ l ≤ 1 ∧ v ≤ 1 ∧ (g.1 22 t = nI s ∧ g.1 23 t = nI p ∧ g.1 24 t = nI q) ∧ (h.1 77 (5 * t) = nI s ∧ h.1 77 (5 * t + 1) = nI p ∧ h.1 77 (5 * t + 2) = nI q ∧ h.1 77 (5 * t + 3) = nI l ∧ h.1 77 (5 * t + 4) = nI v) ∧ (bt (g.1 15 9) t = true ↔ l = 1) ∧ (bt (g.1 15 10) t = true ↔ v = 1)
def vT (D : Nat → Nat) (g h : et_G) : Prop := (D 36 = 0 → D 32 = 0) ∧ (∀ t, t < D 32 → thJ D g h t) ∧ ∀ t, D 32 ≤ t → bt (g.1 15 9) t = false ∧ bt (g.1 15 10) t = false
def ruJ (D : Nat → Nat) (g h : et_G) (r : Nat) : Prop := ∃ (m : Nat) (v : Nat → Nat), 2 ≤ m ∧ m ≤ 4 ∧ (∀ k, k < m → v k < D 32) ∧ h.1 78 (5 * r) = nI m ∧ (∀ k, k < m → h.1 78 (5 * r + 1 + k) = nI (v k)) ∧ g.1 25 r = nI (v 0) ∧ ∀ t, (bt (g.1 26 r) t = true ↔ ∃ k, 1 ≤ k ∧ k < m ∧ v k = t)
def vR (D : Nat → Nat) (g h : et_G) : Prop := ∀ r, r < D 33 → ruJ D g h r
def vV (D : Nat → Nat) (g h : et_G) : Prop := vA D g h ∧ vB D ∧ vL D g h ∧ vN g h ∧ vH D g h ∧ vW g h ∧ vT D g h ∧ vR D g h
theorem sKO : ∀ s, s < 46 → (s < 12 ∧ sK s = 73 ∧ sO s = 9 * s) ∨ (12 ≤ s ∧ s < 27 ∧ sK s = 74 ∧ sO s = 9 * (s - 12)) ∨ (27 ≤ s ∧ s < 45 ∧ sK s = 75 ∧ sO s = 9 * (s - 27)) ∨ (s = 45 ∧ sK s = 76 ∧ sO s = 0) := by decide
theorem dU_x {D : Nat → Nat} {c x j : Nat} (h : j ≠ c) : dU D c x j = D j := if_neg h
theorem dU_e {D : Nat → Nat} {c x : Nat} : dU D c x c = x := if_pos rfl
section VQ
variable {W W' : Nat → Nat → Bool} {D D' : Nat → Nat} {g g' h h' : et_G}
theorem vA_g (A : vA D g h) (f : fq W g g') (f' : fq W' h h') (H : ∀ j, j < 9 → (W (cK (28 + j)) (cJ (28 + j)) = false ∧ W' 61 (28 + j) = false ∧ D' (28 + j) = D (28 + j)) ∨ (h'.1 61 (28 + j) = nI (D' (28 + j)) ∧ (28 + j ≠ 34 → g'.1 (cK (28 + j)) (cJ (28 + j)) = nI (D' (28 + j))))) : vA D' g' h' := fun j hj => by
  rcases H j hj with ⟨a, b, c⟩ | k
  · rw [f.1 _ _ a, f'.1 _ _ b, c]; exact A j hj
  · exact k
theorem vN_q (f : fq W g g') (f' : fq W' h h') (r : ∀ j, W 20 j = false) (r' : ∀ j, W' 79 j = false) (A : vN g h) : vN g' h' := fun i hi => by
  rw [f.1 _ _ (r i), f'.1 _ _ (r' i)]; exact A i hi
theorem vW_q (f : fq W g g') (f' : fq W' h h') (r : ∀ j, W 27 j = false) (r' : ∀ j, W' 81 j = false) (A : vW g h) : vW g' h' := fun i hi => by
  rw [f.1 _ _ (r i), f'.1 _ _ (r' i)]; exact A i hi
theorem vH_q (f : fq W g g') (f' : fq W' h h') (r : ∀ j, W 21 j = false) (r' : ∀ j, W' 80 j = false) (d1 : D 36 = 1 → D' 36 = 1 ∧ D' 30 = D 30) (A : vH D g h) : vH D' g' h' := fun i hi => by
  rw [f.1 _ _ (r i), f'.1 _ _ (r' i)]
  rcases A i hi with a | ⟨a, m, b⟩
  · exact Or.inl a
  · exact Or.inr ⟨(d1 a).1, m, by rw [(d1 a).2]; exact b⟩
theorem vS_q {P : Nat → Prop} (f : fq W g g') (f' : fq W' h h') (r17 : ∀ j, W 17 j = false) (r18 : ∀ j, W 18 j = false) (r73 : ∀ j, W' 73 j = false) (r74 : ∀ j, W' 74 j = false) (r75 : ∀ j, W' 75 j = false) (r76 : ∀ j, W' 76 j = false) (A : vS P g h) : vS P g' h' := fun s hs p => by
  rw [fq_row f r17, fq_row f r18, show h'.1 (sK s) = h.1 (sK s) from by
    unfold sK
    split
    · exact fq_row f' r73
    · split
      · exact fq_row f' r74
      · split
        · exact fq_row f' r75
        · exact fq_row f' r76]
  exact A s hs p
theorem vL_q (f : fq W g g') (f' : fq W' h h') (r17 : ∀ j, W 17 j = false) (r18 : ∀ j, W 18 j = false) (r73 : ∀ j, W' 73 j = false) (r74 : ∀ j, W' 74 j = false) (r75 : ∀ j, W' 75 j = false) (r76 : ∀ j, W' 76 j = false) (d1 : D' 28 = D 28) (d2 : D' 29 = D 29) (d3 : D' 34 = D 34) (A : vL D g h) : vL D' g' h' := by
  refine ⟨?_, ?_⟩
  · have := vS_q f f' r17 r18 r73 r74 r75 r76 A.1
    unfold vS act at this ⊢
    rw [d1, d2]; exact this
  · rw [f.1 _ _ (r18 45), d3]; exact A.2
theorem vT_q (f : fq W g g') (f' : fq W' h h') (r1 : ∀ j, W 22 j = false) (r2 : ∀ j, W 23 j = false) (r3 : ∀ j, W 24 j = false) (r4 : W 15 9 = false) (r5 : W 15 10 = false) (r' : ∀ j, W' 77 j = false) (d1 : D 28 ≤ D' 28) (d2 : D 36 = 1 → D' 30 = D 30 ∧ D' 36 = 1) (d4 : D' 32 = D 32) (b : D 36 ≤ 1) (A : vT D g h) : vT D' g' h' := by
  obtain ⟨a1, a2, a3⟩ := A
  rw [← d4] at a1 a2 a3
  refine ⟨fun z => ?_, fun t ht => ?_, fun t ht => ?_⟩
  · by_cases e : D 36 = 0
    · exact a1 e
    · have := (d2 (by omega)).2; omega
  · have e : D 36 = 1 := by
      by_cases e : D 36 = 0
      · have := a1 e; omega
      · omega
    obtain ⟨s, p, q, l, v, b1, b2, b3, b4, b5, b6, b7, b8⟩ := a2 t ht
    refine ⟨s, p, q, l, v, by omega, by rw [(d2 e).1]; exact b2, b3, b4, b5, ?_, ?_, ?_⟩
    · rw [f.1 _ _ (r1 t), f.1 _ _ (r2 t), f.1 _ _ (r3 t)]; exact b6
    · rw [f'.1 _ _ (r' _), f'.1 _ _ (r' _), f'.1 _ _ (r' _), f'.1 _ _ (r' _), f'.1 _ _ (r' _)]; exact b7
    · rw [f.1 _ _ r4, f.1 _ _ r5]; exact b8
  · rw [f.1 _ _ r4, f.1 _ _ r5]; exact a3 t ht
theorem ruJ_q {r : Nat} (e25 : g'.1 25 r = g.1 25 r) (e26 : g'.1 26 r = g.1 26 r) (e78 : ∀ j, 5 * r ≤ j → j < 5 * r + 5 → h'.1 78 j = h.1 78 j) (d : D 32 ≤ D' 32) (A : ruJ D g h r) : ruJ D' g' h' r := by
  obtain ⟨m, v, a1, a2, a3, a4, a5, a6, a7⟩ := A
  refine ⟨m, v, a1, a2, fun k hk => by have := a3 k hk; omega, ?_, fun k hk => ?_, ?_, ?_⟩
  · rw [e78 _ (by omega) (by omega)]; exact a4
  · rw [e78 _ (by omega) (by omega)]; exact a5 k hk
  · rw [e25]; exact a6
  · rw [e26]; exact a7
theorem vR_q (f : fq W g g') (f' : fq W' h h') (r1 : ∀ j, W 25 j = false) (r2 : ∀ j, W 26 j = false) (r' : ∀ j, W' 78 j = false) (d1 : D' 33 = D 33) (d2 : D 32 ≤ D' 32) (A : vR D g h) : vR D' g' h' := fun r hr => by
  rw [d1] at hr
  exact ruJ_q (f.1 _ _ (r1 r)) (f.1 _ _ (r2 r)) (fun j _ _ => f'.1 _ _ (r' j)) d2 (A r hr)
/-- a row of letters more -/
theorem vS_p {S : et_T} {P : Nat → Prop} {s a m : Nat} (hs : s < 46) (hm : m ≤ 8) (A : vS P g h) (c : cW S s a m g g') (w : mW S (sK s) (sO s) a m h h') (f' : ∀ k q, 73 ≤ k → k ≤ 76 → k ≠ sK s → h'.1 k q = h.1 k q) (hl : ∀ i, i < m → 97 ≤ S 71 (a + i) ∧ S 71 (a + i) ≤ 122) : vS (fun x => P x ∨ x = s) g' h' := by
  obtain ⟨c1, c2, c3, c4⟩ := c
  obtain ⟨w1, w2, w3⟩ := w
  intro x hx px
  by_cases e : x = s
  · subst e
    exact ⟨m, c1, w1, hm, fun i hi => ⟨S 71 (a + i), (hl i hi).1, (hl i hi).2, c3 i hi, w2 i hi⟩⟩
  · obtain ⟨m', a1, a2, a3, a4⟩ := A x hx (px.elim id (fun z => absurd z e))
    have kx : 73 ≤ sK x ∧ sK x ≤ 76 := by have := sKO x hx; omega
    have M : ∀ i, i < 9 → h'.1 (sK x) (sO x + i) = h.1 (sK x) (sO x + i) := fun i hi => by
      by_cases ek : sK x = sK s
      · rw [ek]
        exact w3 _ (by have := sKO x hx; have := sKO s hs; omega)
      · exact f' _ _ kx.1 kx.2 ek
    refine ⟨m', by rw [c2 x e]; exact a1, by have := M 0 (by omega); rw [Nat.add_zero] at this; rw [this]; exact a2, a3, fun i hi => ?_⟩
    rw [c4 _ (by omega), show sO x + 1 + i = sO x + (1 + i) by omega, M _ (by omega), show sO x + (1 + i) = sO x + 1 + i by omega]
    exact a4 i hi
end VQ
