/-! LAYER 2: what the functions do. A calculus: the function ends, and its answer and picture are so -/
def ev_Q {α : Type} (o : Option (α × et_G)) (Q : α → et_G → Prop) : Prop := ∃ a g, o = some (a, g) ∧ Q a g
section EV
variable {α β : Type} {Q : α → et_G → Prop} {R : β → et_G → Prop} {g : et_G}
theorem ev_r {a : α} (h : Q a g) : ev_Q (some (a, g)) Q := ⟨a, g, rfl, h⟩
theorem ev_k {c : Bool} {o : Option (α × et_G)} (h : c = true) (k : ev_Q o Q) : ev_Q (et_ck c o) Q := by
  unfold et_ck
  rw [if_pos h]
  exact k
theorem ev_d {F : Option (β × et_G)} {f : β → et_G → Option (α × et_G)} (h : ev_Q F R) (k : ∀ a g, R a g → ev_Q (f a g) Q) : ev_Q (et_bd F f) Q := by
  obtain ⟨a, g, rfl, h2⟩ := h
  exact k a g h2
theorem ev_i {c : Prop} [Decidable c] {x y : Option (α × et_G)} (h1 : c → ev_Q x Q) (h2 : ¬ c → ev_Q y Q) : ev_Q (if c then x else y) Q := by
  by_cases h : c
  · rw [if_pos h]; exact h1 h
  · rw [if_neg h]; exact h2 h
theorem ev_w {o : Option (α × et_G)} {P : α → et_G → Prop} (h : ev_Q o P) (k : ∀ a g, P a g → Q a g) : ev_Q o Q := by
  obtain ⟨a, g, h1, h2⟩ := h
  exact ⟨a, g, h1, k a g h2⟩
theorem ev_lp {σ : Type} (f : Nat → σ → et_G → Option (α × et_G)) (I : Nat → σ → et_G → Prop)
    (step : ∀ n m s g, I m s g → (∀ m' s' g', m' < m → I m' s' g' → ev_Q (f n s' g') Q) → ev_Q (f (n + 1) s g) Q) : ∀ m n s g, m < n → I m s g → ev_Q (f n s g) Q := by
  intro m n
  induction n generalizing m with
  | zero => intro s g h; omega
  | succ n ih =>
    intro s g h hI
    exact step n m s g hI (fun m' s' g' h1 h2 => ih m' s' g' (by omega) h2)
end EV
section ET
variable {α β : Type} {Q : (Nat ⊕ α) → et_G → Prop} {R : (Nat ⊕ β) → et_G → Prop} {g : et_G}
theorem ev_t {F : Option ((Nat ⊕ β) × et_G)} {f : β → et_G → Option ((Nat ⊕ α) × et_G)} (h : ev_Q F R) (k : ∀ a g, R (.inr a) g → ev_Q (f a g) Q) (kx : ∀ e g, R (.inl e) g → Q (.inl e) g) : ev_Q (et_bt F f) Q := by
  obtain ⟨a, g, rfl, h2⟩ := h
  cases a with
  | inl e => exact ⟨.inl e, g, rfl, kx e g h2⟩
  | inr a => exact k a g h2
end ET
section EC
variable {α β : Type} {Q : α → et_G → Prop} {R : (Nat ⊕ β) → et_G → Prop} {g : et_G}
theorem ev_c {F : Option ((Nat ⊕ β) × et_G)} {f : β → et_G → Option (α × et_G)} {k0 : Nat → et_G → Option (α × et_G)} (h : ev_Q F R) (k : ∀ a g, R (.inr a) g → ev_Q (f a g) Q) (kx : ∀ e g, R (.inl e) g → ev_Q (k0 e g) Q) : ev_Q (et_bc F f k0) Q := by
  obtain ⟨a, g, rfl, h2⟩ := h
  cases a with
  | inl e => exact kx e g h2
  | inr a => exact k a g h2
end EC
/-! reads and writes of the picture -/
theorem si_g (g : et_G) (k j : Nat) (x : Int32) (a b : Nat) : (et_si g k j x).1 a b = if a = k ∧ b = j then x else g.1 a b := by
  unfold et_si
  by_cases h : a = k
  · subst h
    by_cases h2 : b = j
    · subst h2; simp [upd]
    · simp [upd, h2]
  · simp [h]
theorem si_2 (g : et_G) (k j : Nat) (x : Int32) : (et_si g k j x).2 = g.2 := rfl
theorem sl_1 (g : et_G) (k j : Nat) (x : Int64) : (et_sl g k j x).1 = g.1 := rfl
theorem sl_g (g : et_G) (k j : Nat) (x : Int64) (a b : Nat) : (et_sl g k j x).2 a b = if a = k ∧ b = j then x else g.2 a b := by
  unfold et_sl
  by_cases h : a = k
  · subst h
    by_cases h2 : b = j
    · subst h2; simp [vp_updL]
    · simp [vp_updL, h2]
  · simp [h]
theorem cp_g (g : et_G) (k0 k1 sp dp n a b : Nat) : (et_cp g k0 k1 sp dp n).1 a b = if a = k1 ∧ dp ≤ b ∧ b < dp + n then g.1 k0 (sp + (b - dp)) else g.1 a b := by
  unfold et_cp
  by_cases h : a = k1
  · subst h
    by_cases h2 : dp ≤ b ∧ b < dp + n
    · simp [va_cpy, h2]
    · simp [va_cpy, h2]
  · simp [h]
theorem cp_2 (g : et_G) (k0 k1 sp dp n : Nat) : (et_cp g k0 k1 sp dp n).2 = g.2 := rfl
/-- only these places have changed (of the long ones: not the law's own cell) -/
def fq (W : Nat → Nat → Bool) (g g' : et_G) : Prop := (∀ k j, W k j = false → g'.1 k j = g.1 k j) ∧ g'.2 96 = g.2 96
theorem fq_r (W : Nat → Nat → Bool) (g : et_G) : fq W g g := ⟨fun _ _ _ => rfl, rfl⟩
theorem fq_t {W : Nat → Nat → Bool} {g g1 g2 : et_G} (h1 : fq W g g1) (h2 : fq W g1 g2) : fq W g g2 :=
  ⟨fun k j h => by rw [h2.1 k j h, h1.1 k j h], by rw [h2.2, h1.2]⟩
theorem fq_w {W W' : Nat → Nat → Bool} {g g1 : et_G} (h1 : fq W g g1) (h : ∀ k j, W' k j = false → W k j = false) : fq W' g g1 :=
  ⟨fun k j h2 => h1.1 k j (h k j h2), h1.2⟩
theorem fq_s {W : Nat → Nat → Bool} {g g1 : et_G} {k j : Nat} {x : Int32} (h : fq W g g1) (hw : W k j = true) : fq W g (et_si g1 k j x) := by
  refine ⟨fun a b h2 => ?_, h.2⟩
  rw [si_g, if_neg (fun e => by rw [e.1, e.2, hw] at h2; cases h2)]
  exact h.1 a b h2
theorem fq_c {W : Nat → Nat → Bool} {g g1 : et_G} {k0 k1 sp dp n : Nat} (h : fq W g g1) (hw : ∀ j, dp ≤ j → j < dp + n → W k1 j = true) : fq W g (et_cp g1 k0 k1 sp dp n) := by
  refine ⟨fun a b h2 => ?_, h.2⟩
  rw [cp_g, if_neg (fun e => by rw [e.1, hw b e.2.1 e.2.2] at h2; cases h2)]
  exact h.1 a b h2
/-! numbers -/
theorem ni_of (n : Nat) : (@OfNat.ofNat Int32 n Int32.instOfNat) = nI (@OfNat.ofNat Nat n (instOfNatNat n)) := Eq.trans rfl rfl
theorem ib_n {i N : Nat} (h : i < N) (hN : N < 2 ^ 31) : et_ib (nI i) N = true := by
  have := nI_in h hN
  simp only [et_ib, Bool.not_eq_true', decide_eq_false_iff_not]
  exact this
theorem ni_m8 {a : Nat} (h : 8 ≤ a) : nI a + (-8) = nI (a - 8) := by
  have : nI a - nI 8 = nI (a - 8) := pk_sub h
  rw [← this, Int32.sub_eq_add_neg]; rfl
theorem ni_m1 {a : Nat} (h : 1 ≤ a) : nI a + (-1) = nI (a - 1) := by
  have : nI a - nI 1 = nI (a - 1) := pk_sub h
  rw [← this, Int32.sub_eq_add_neg]; rfl
theorem ni_lt {a b : Nat} (ha : a < 2 ^ 31) (hb : b < 2 ^ 31) : (nI a < nI b) = (a < b) := propext (nI_ltI ha hb)
theorem ni_le {a b : Nat} (ha : a < 2 ^ 31) (hb : b < 2 ^ 31) : (nI a ≤ nI b) = (a ≤ b) := propext (nI_leI ha hb)
theorem ni_eq {a b : Nat} (ha : a < 2 ^ 31) (hb : b < 2 ^ 31) : (nI a = nI b) = (a = b) := propext (nI_eq ha hb)
