/-! masks: the number whose bits are so -/
theorem mI_ex (P : Nat → Prop) : ∃ x : Int32, ∀ i, i < 32 → (bt x i = true ↔ P i) := by
  have key : ∀ k, k ≤ 32 → ∃ x : Int32, ∀ i, i < 32 → (bt x i = true ↔ (i < k ∧ P i)) := by
    intro k
    induction k with
    | zero => intro _; exact ⟨0, fun i _ => by simp [bt_0]⟩
    | succ k ih =>
      intro hk
      obtain ⟨x, hx⟩ := ih (by omega)
      by_cases h : P k
      · refine ⟨x ||| nI (2 ^ k), fun i hi => ?_⟩
        rw [bt_or, bt_n (Nat.pow_lt_pow_right (by decide) (by omega)), Nat.testBit_two_pow, Bool.or_eq_true, hx i hi, decide_eq_true_eq]
        constructor
        · intro h2
          rcases h2 with h2 | h2
          · exact ⟨by omega, h2.2⟩
          · subst h2; exact ⟨by omega, h⟩
        · intro h2
          by_cases e : k = i
          · exact Or.inr e
          · exact Or.inl ⟨by omega, h2.2⟩
      · refine ⟨x, fun i hi => ?_⟩
        rw [hx i hi]
        constructor
        · intro h2; exact ⟨by omega, h2.2⟩
        · intro h2
          by_cases e : k = i
          · subst e; exact absurd h2.2 h
          · exact ⟨by omega, h2.2⟩
  obtain ⟨x, hx⟩ := key 32 (Nat.le_refl _)
  exact ⟨x, fun i hi => by rw [hx i hi]; exact ⟨fun h => h.2, fun h => ⟨hi, h⟩⟩⟩
noncomputable def mI (P : Nat → Prop) : Int32 := Classical.choose (mI_ex P)
theorem mI_b (P : Nat → Prop) {i : Nat} (h : i < 32) : bt (mI P) i = true ↔ P i := Classical.choose_spec (mI_ex P) i h
theorem mI_eq {x : Int32} {P : Nat → Prop} (h : ∀ i, i < 32 → (bt x i = true ↔ P i)) : x = mI P :=
  bt_ext fun i hi => Bool.eq_iff_iff.mpr ((h i hi).trans (mI_b P hi).symm)
theorem mI_c {P Q : Nat → Prop} (h : ∀ i, i < 32 → (P i ↔ Q i)) : mI P = mI Q := mI_eq fun i hi => (mI_b P hi).trans (h i hi)
theorem mI_i {P Q : Nat → Prop} : mI P = mI Q ↔ ∀ i, i < 32 → (P i ↔ Q i) :=
  ⟨fun h i hi => by rw [← mI_b P hi, h, mI_b Q hi], mI_c⟩
theorem mI_or (P Q : Nat → Prop) : mI P ||| mI Q = mI (fun i => P i ∨ Q i) := mI_eq fun i hi => by
  rw [bt_or, Bool.or_eq_true, mI_b P hi, mI_b Q hi]
theorem mI_and (P Q : Nat → Prop) : mI P &&& mI Q = mI (fun i => P i ∧ Q i) := mI_eq fun i hi => by
  rw [bt_and, Bool.and_eq_true, mI_b P hi, mI_b Q hi]
theorem bt_m1 : ∀ i, i < 32 → bt (-1) i = true := by decide
theorem mI_not (P : Nat → Prop) : mI P ^^^ (-nI 1) = mI (fun i => ¬ P i) := mI_eq fun i hi => by
  rw [bt_xor, show (-nI 1) = (-1 : Int32) from rfl, bt_m1 i hi, ← mI_b P hi]
  cases bt (mI P) i <;> simp
theorem mI_0 : (0 : Int32) = mI (fun _ => False) := mI_eq fun i _ => by simp [bt_0]
theorem mI_n0 : nI 0 = mI (fun _ => False) := mI_0
theorem mI_z {P : Nat → Prop} : mI P = nI 0 ↔ ∀ i, i < 32 → ¬ P i := by
  rw [mI_n0, mI_i]
  exact ⟨fun h i hi p => (h i hi).mp p, fun h i hi => ⟨fun p => h i hi p, fun f => f.elim⟩⟩
theorem mI_1 {k : Nat} (hk : k < 31) : nI 1 <<< (nI k &&& nI 31) = mI (fun i => i = k) := mI_eq fun i _ => by
  rw [bt_sl hk, decide_eq_true_eq]
theorem mI_n {n : Nat} (h : n < 2 ^ 32) : nI n = mI (fun i => n.testBit i = true) := mI_eq fun i _ => by rw [bt_n h]
theorem mI_k {k : Nat} (hk : k < 32) : nI (2 ^ k) = mI (fun i => i = k) := by
  rw [mI_n (Nat.pow_lt_pow_right (by decide) hk)]
  exact mI_c fun i _ => by rw [Nat.testBit_two_pow, decide_eq_true_eq]; exact ⟨Eq.symm, Eq.symm⟩
theorem mI_all {n : Nat} (h : n ≤ 30) : (nI 1 <<< (nI n &&& nI 31)) - nI 1 = mI (fun i => i < n) := by
  have h2 : (2 : Nat) ^ n < 2 ^ 31 := Nat.pow_lt_pow_right (by decide) (by omega)
  rw [sl_n (by omega), pk_sub (Nat.one_le_two_pow), mI_n (by omega)]
  exact mI_c fun i _ => by rw [Nat.testBit_two_pow_sub_one, decide_eq_true_eq]
/-- 1 if it is so, else 0 -/
noncomputable def bI (c : Prop) : Int32 := io c (nI 1) (nI 0)
theorem bI_t {c : Prop} (h : c) : bI c = nI 1 := io_t h
theorem bI_f {c : Prop} (h : ¬ c) : bI c = nI 0 := io_f h
theorem bI_c {c d : Prop} (h : c ↔ d) : bI c = bI d := io_c h
theorem b10 : ¬ nI 1 = nI 0 := by decide
theorem b01 : ¬ nI 0 = nI 1 := by decide
theorem hb_m (P : Nat → Prop) {k : Nat} (hk : k < 32) (g : et_G) : fn_Et_hasBit (mI P) (nI k) g = some (bI (P k), g) := by
  rw [hb_1 _ hk]
  by_cases h : P k
  · rw [bI_t h, if_pos ((mI_b P hk).mpr h)]; rfl
  · rw [bI_f h, if_neg (fun e => h ((mI_b P hk).mp e))]; rfl
theorem mb_m (P : Nat → Prop) {k : Nat} (hk : k < 32) : (mI P >>> (nI k &&& nI 31)) &&& nI 1 = bI (P k) := by
  rw [mb_1 _ hk]
  by_cases h : P k
  · rw [bI_t h, if_pos ((mI_b P hk).mpr h)]; rfl
  · rw [bI_f h, if_neg (fun e => h ((mI_b P hk).mp e))]; rfl
theorem if_b0 {c : Prop} {α : Type} {x y : α} : (if bI c = nI 0 then x else y) = io c y x := by
  by_cases h : c
  · rw [bI_t h, io_t h, if_neg b10]
  · rw [bI_f h, io_f h, if_pos rfl]
theorem if_b1 {c : Prop} {α : Type} {x y : α} : (if bI c = nI 1 then x else y) = io c x y := by
  by_cases h : c
  · rw [bI_t h, io_t h, if_pos rfl]
  · rw [bI_f h, io_f h, if_neg b01]
theorem b_e0 {c : Prop} : (bI c = nI 0) = (¬ c) := by
  apply propext
  by_cases h : c
  · rw [bI_t h]; exact ⟨fun e => absurd e b10, fun e => absurd h e⟩
  · rw [bI_f h]; exact ⟨fun _ => h, fun _ => rfl⟩
theorem b_e1 {c : Prop} : (bI c = nI 1) = c := by
  apply propext
  by_cases h : c
  · rw [bI_t h]; exact ⟨fun _ => h, fun _ => rfl⟩
  · rw [bI_f h]; exact ⟨fun e => absurd e b01, fun e => absurd e h⟩
theorem b_n {c : Prop} {n : Nat} (h : n ≤ 1) : (bI c = nI n) = (c ↔ n = 1) := by
  apply propext
  by_cases e : c
  · rw [bI_t e, nI_eq (by decide) (by omega)]
    exact ⟨fun q => ⟨fun _ => q.symm, fun _ => e⟩, fun q => (q.mp e).symm⟩
  · rw [bI_f e, nI_eq (by decide) (by omega)]
    exact ⟨fun q => ⟨fun k => absurd k e, fun k => by omega⟩, fun q => by have := mt q.mpr e; omega⟩
theorem n_b {n : Nat} (h : n ≤ 1) : nI n = bI (n = 1) := by
  by_cases e : n = 1
  · rw [bI_t e, e]
  · rw [bI_f e, show n = 0 from by omega]
theorem if_p {c : Prop} [Decidable c] {α : Type} {x y : α} : (if c then x else y) = io c x y := by
  by_cases h : c
  · rw [if_pos h, io_t h]
  · rw [if_neg h, io_f h]
theorem io_n {c : Prop} {α : Type} {x y : α} : io (¬ c) x y = io c y x := by
  by_cases h : c
  · rw [io_t h, io_f (fun e => e h)]
  · rw [io_f h, io_t h]
theorem io_e {c : Prop} {α : Type} (x : α) : io c x x = x := by
  by_cases h : c
  · rw [io_t h]
  · rw [io_f h]
theorem io_m {c : Prop} {α β : Type} (f : α → β) (x y : α) : f (io c x y) = io c (f x) (f y) := by
  by_cases h : c
  · rw [io_t h, io_t h]
  · rw [io_f h, io_f h]
theorem io_bd {c : Prop} {α β : Type} {x y : β} {g : et_G} {f : β → et_G → Option α} : et_bd (some (io c x y, g)) f = io c (f x g) (f y g) := by
  by_cases h : c
  · rw [io_t h, io_t h]; rfl
  · rw [io_f h, io_f h]; rfl
/-- a loop upward: what holds at each turn, what is so at its end -/
theorem lp {σ β : Type} (F : Nat → Int32 → σ → β) (Q : β → Prop) (N : Nat) (I : Nat → σ → Prop)
    (he : ∀ m s, I N s → Q (F (m + 1) (nI N) s))
    (hs : ∀ m k s, k < N → I k s → (∀ s', I (k + 1) s' → Q (F m (nI (k + 1)) s')) → Q (F (m + 1) (nI k) s)) :
    ∀ d m k s, k + d = N → d < m → I k s → Q (F m (nI k) s) := by
  intro d
  induction d with
  | zero =>
    intro m k s hk hm hI
    obtain ⟨m, rfl⟩ : ∃ j, m = j + 1 := ⟨m - 1, by omega⟩
    have : k = N := by omega
    subst this
    exact he m s hI
  | succ d ih =>
    intro m k s hk hm hI
    obtain ⟨m, rfl⟩ : ∃ j, m = j + 1 := ⟨m - 1, by omega⟩
    exact hs m k s (by omega) hI (fun s' h' => ih m (k + 1) s' (by omega) (by omega) h')
theorem lp0 {σ β : Type} (F : Nat → Int32 → σ → β) (Q : β → Prop) (N : Nat) (hN : N < 1000000) (I : Nat → σ → Prop) (s : σ) (h0 : I 0 s)
    (he : ∀ m s, I N s → Q (F (m + 1) (nI N) s))
    (hs : ∀ m k s, k < N → I k s → (∀ s', I (k + 1) s' → Q (F m (nI (k + 1)) s')) → Q (F (m + 1) (nI k) s)) :
    Q (F 1000000 0 s) := lp F Q N I he hs N 1000000 0 s (by omega) (by omega) h0
/-- bits gathered one by one -/
theorem sc_m {F : Nat → Int32 → Int32 → et_G → Option (Int32 × et_G)} {g : et_G} {N : Nat} {P : Nat → Prop} (hN : N ≤ 31)
    (he : ∀ m x, F (m + 1) x (nI N) g = some (x, g))
    (hs : ∀ m x k, k < N → F (m + 1) x (nI k) g = io (P k) (F m (x ||| (nI 1 <<< (nI k &&& nI 31))) (nI (k + 1)) g) (F m x (nI (k + 1)) g)) :
    F 1000000 0 0 g = some (mI fun i => i < N ∧ P i, g) := by
  refine lp0 (fun m i (x : Int32) => F m x i g) (fun o => o = some (mI fun i => i < N ∧ P i, g)) N (by omega) (fun k x => x = mI fun i => i < k ∧ P i) 0 ?_ ?_ ?_
  · exact mI_eq fun i _ => by simp [bt_0]
  · intro m s h
    show F (m + 1) s (nI N) g = _
    rw [he m s, h]
  · intro m k s hk h ih
    show F (m + 1) s (nI k) g = _
    rw [hs m s k hk]
    by_cases p : P k
    · rw [io_t p]
      refine ih _ ?_
      rw [h, mI_1 (by omega), mI_or]
      refine mI_c fun i _ => ⟨fun q => ?_, fun q => ?_⟩
      · rcases q with q | q
        · exact ⟨by omega, q.2⟩
        · subst q; exact ⟨by omega, p⟩
      · by_cases e : i = k
        · exact Or.inr e
        · exact Or.inl ⟨by omega, q.2⟩
    · rw [io_f p]
      refine ih _ ?_
      rw [h]
      refine mI_c fun i _ => ⟨fun q => ⟨by omega, q.2⟩, fun q => ?_⟩
      by_cases e : i = k
      · subst e; exact absurd q.2 p
      · exact ⟨by omega, q.2⟩
/-- one is looked for -/
theorem sc_e {F : Nat → Int32 → et_G → Option (Int32 × et_G)} {g : et_G} {N : Nat} {P : Nat → Prop} (hN : N < 1000000)
    (he : ∀ m, F (m + 1) (nI N) g = some (nI 0, g))
    (hs : ∀ m k, k < N → F (m + 1) (nI k) g = io (P k) (some (nI 1, g)) (F m (nI (k + 1)) g)) :
    F 1000000 0 g = some (bI (∃ i, i < N ∧ P i), g) := by
  refine lp0 (fun m i (_ : Unit) => F m i g) (fun o => o = some (bI (∃ i, i < N ∧ P i), g)) N hN (fun k _ => ∀ i, i < k → ¬ P i) () ?_ ?_ ?_
  · intro i hi; omega
  · intro m s h
    show F (m + 1) (nI N) g = _
    rw [he m, bI_f (fun ⟨i, h1, h2⟩ => h i h1 h2)]
  · intro m k s hk h ih
    show F (m + 1) (nI k) g = _
    rw [hs m k hk]
    by_cases p : P k
    · rw [io_t p, bI_t ⟨k, hk, p⟩]
    · rw [io_f p]
      refine ih () (fun i hi => ?_)
      by_cases e : i = k
      · subst e; exact p
      · exact h i (by omega)
/-- how many of N -/
noncomputable def cnt (P : Nat → Prop) : Nat → Nat
  | 0 => 0
  | n + 1 => cnt P n + io (P n) 1 0
theorem cnt_le (P : Nat → Prop) : ∀ N, cnt P N ≤ N := by
  intro N
  induction N with
  | zero => exact Nat.le_refl _
  | succ n ih =>
    unfold cnt
    by_cases h : P n
    · rw [io_t h]; omega
    · rw [io_f h]; omega
theorem cnt_mono {P Q : Nat → Prop} : ∀ N, (∀ i, i < N → P i → Q i) → cnt P N ≤ cnt Q N := by
  intro N
  induction N with
  | zero => intro _; exact Nat.le_refl _
  | succ n ih =>
    intro h
    unfold cnt
    have := ih (fun i hi => h i (by omega))
    by_cases p : P n
    · rw [io_t p, io_t (h n (by omega) p)]; omega
    · rw [io_f p]; omega
theorem cnt_lt {P Q : Nat → Prop} : ∀ N, (∀ i, i < N → P i → Q i) → (∃ i, i < N ∧ Q i ∧ ¬ P i) → cnt P N < cnt Q N := by
  intro N
  induction N with
  | zero => intro _ ⟨i, hi, _⟩; omega
  | succ n ih =>
    intro h ⟨i, hi, hq, hp⟩
    unfold cnt
    by_cases e : i = n
    · subst e
      have := cnt_mono (P := P) (Q := Q) i (fun j hj => h j (by omega))
      rw [io_f hp, io_t hq]; omega
    · have := ih (fun j hj => h j (by omega)) ⟨i, by omega, hq, hp⟩
      by_cases p : P n
      · rw [io_t p, io_t (h n (by omega) p)]; omega
      · rw [io_f p]; omega
theorem cnt_c {P Q : Nat → Prop} : ∀ N, (∀ i, i < N → (P i ↔ Q i)) → cnt P N = cnt Q N := by
  intro N h
  exact Nat.le_antisymm (cnt_mono N (fun i hi => (h i hi).mp)) (cnt_mono N (fun i hi => (h i hi).mpr))
