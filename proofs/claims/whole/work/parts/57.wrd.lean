/-! words -/
theorem bd_q {α β : Type} {F : Option (β × et_G)} {a : β} {g : et_G} {f : β → et_G → Option (α × et_G)} (h : F = some (a, g)) : et_bd F f = f a g := by rw [h]; rfl
theorem all_s {k m : Nat} {P : Nat → Prop} (h : P k) : (∀ i, k ≤ i → i < m → P i) ↔ (∀ i, k + 1 ≤ i → i < m → P i) := by
  constructor
  · intro a i h1 h2; exact a i (by omega) h2
  · intro a i h1 h2
    by_cases e : i = k
    · rw [e]; exact h
    · exact a i (by omega) h2
theorem io_c {c d : Prop} {α : Type} {a b : α} (h : c ↔ d) : io c a b = io d a b := by rw [propext h]
theorem as_44_l {a b m : Nat} (ha : a + m ≤ 368) (hb : b + m ≤ 368) (g : et_G) : ∀ d n k, k + d = m → d < n → fn_Et_areSame_4_4_31 (nI a) (nI b) (nI m) n (nI k) g = some (io (∀ i, k ≤ i → i < m → g.1 4 (a + i) = g.1 4 (b + i)) 1 0, g) := by
  intro d
  induction d with
  | zero =>
    intro n k hk hn
    obtain ⟨n, rfl⟩ : ∃ m, n = m + 1 := ⟨n - 1, by omega⟩
    rw [fn_Et_areSame_4_4_31, if_pos (nI_le (by omega) (by omega)), io_t (fun i h1 h2 => by omega)]
  | succ d ih =>
    intro n k hk hn
    obtain ⟨n, rfl⟩ : ∃ m, n = m + 1 := ⟨n - 1, by omega⟩
    rw [fn_Et_areSame_4_4_31, if_neg (nI_ge (by omega) (by omega))]
    simp (disch := omega) only [ni_of, nI_add, nI_clamp, ib_e, ck_t, et_b]
    by_cases h : g.1 4 (a + k) = g.1 4 (b + k)
    · rw [if_pos h, ih n (k + 1) (by omega) (by omega), io_c (all_s (P := fun i => g.1 4 (a + i) = g.1 4 (b + i)) h)]; rfl
    · rw [if_neg h, io_f (fun e => h (e k (Nat.le_refl _) (by omega)))]
theorem as_44 {a b m : Nat} (ha : a + m ≤ 368) (hb : b + m ≤ 368) (g : et_G) : fn_Et_areSame_4_4 (nI a) (nI b) (nI m) g = some (io (∀ i, i < m → g.1 4 (a + i) = g.1 4 (b + i)) 1 0, g) := by
  unfold fn_Et_areSame_4_4
  simp (disch := omega) only [ni_of, nI_add, ni_lt, ni_le]
  rw [if_neg (by omega), if_neg (by omega), if_neg (by omega), if_pos (by omega), as_44_l ha hb g m 1000000 0 (by omega) (by omega)]
  rw [io_c ⟨fun h i hi => h i (Nat.zero_le _) hi, fun h i _ hi => h i hi⟩]; rfl
theorem as_61_l {a b m : Nat} (ha : a + m ≤ 24) (hb : b + m ≤ 800) (g : et_G) : ∀ d n k, k + d = m → d < n → fn_Et_areSame_6_1_31 (nI a) (nI b) (nI m) n (nI k) g = some (io (∀ i, k ≤ i → i < m → g.1 6 (a + i) = g.1 1 (b + i)) 1 0, g) := by
  intro d
  induction d with
  | zero =>
    intro n k hk hn
    obtain ⟨n, rfl⟩ : ∃ m, n = m + 1 := ⟨n - 1, by omega⟩
    rw [fn_Et_areSame_6_1_31, if_pos (nI_le (by omega) (by omega)), io_t (fun i h1 h2 => by omega)]
  | succ d ih =>
    intro n k hk hn
    obtain ⟨n, rfl⟩ : ∃ m, n = m + 1 := ⟨n - 1, by omega⟩
    rw [fn_Et_areSame_6_1_31, if_neg (nI_ge (by omega) (by omega))]
    simp (disch := omega) only [ni_of, nI_add, nI_clamp, ib_e, ck_t, et_b]
    by_cases h : g.1 6 (a + k) = g.1 1 (b + k)
    · rw [if_pos h, ih n (k + 1) (by omega) (by omega), io_c (all_s (P := fun i => g.1 6 (a + i) = g.1 1 (b + i)) h)]; rfl
    · rw [if_neg h, io_f (fun e => h (e k (Nat.le_refl _) (by omega)))]
theorem as_61 {a b m : Nat} (ha : a + m ≤ 24) (hb : b + m ≤ 800) (g : et_G) : fn_Et_areSame_6_1 (nI a) (nI b) (nI m) g = some (io (∀ i, i < m → g.1 6 (a + i) = g.1 1 (b + i)) 1 0, g) := by
  unfold fn_Et_areSame_6_1
  simp (disch := omega) only [ni_of, nI_add, ni_lt, ni_le]
  rw [if_neg (by omega), if_neg (by omega), if_neg (by omega), if_pos (by omega), as_61_l ha hb g m 1000000 0 (by omega) (by omega)]
  rw [io_c ⟨fun h i hi => h i (Nat.zero_le _) hi, fun h i _ hi => h i hi⟩]; rfl
theorem as_41_l {a b m : Nat} (ha : a + m ≤ 368) (hb : b + m ≤ 800) (g : et_G) : ∀ d n k, k + d = m → d < n → fn_Et_areSame_4_1_31 (nI a) (nI b) (nI m) n (nI k) g = some (io (∀ i, k ≤ i → i < m → g.1 4 (a + i) = g.1 1 (b + i)) 1 0, g) := by
  intro d
  induction d with
  | zero =>
    intro n k hk hn
    obtain ⟨n, rfl⟩ : ∃ m, n = m + 1 := ⟨n - 1, by omega⟩
    rw [fn_Et_areSame_4_1_31, if_pos (nI_le (by omega) (by omega)), io_t (fun i h1 h2 => by omega)]
  | succ d ih =>
    intro n k hk hn
    obtain ⟨n, rfl⟩ : ∃ m, n = m + 1 := ⟨n - 1, by omega⟩
    rw [fn_Et_areSame_4_1_31, if_neg (nI_ge (by omega) (by omega))]
    simp (disch := omega) only [ni_of, nI_add, nI_clamp, ib_e, ck_t, et_b]
    by_cases h : g.1 4 (a + k) = g.1 1 (b + k)
    · rw [if_pos h, ih n (k + 1) (by omega) (by omega), io_c (all_s (P := fun i => g.1 4 (a + i) = g.1 1 (b + i)) h)]; rfl
    · rw [if_neg h, io_f (fun e => h (e k (Nat.le_refl _) (by omega)))]
theorem as_41 {a b m : Nat} (ha : a + m ≤ 368) (hb : b + m ≤ 800) (g : et_G) : fn_Et_areSame_4_1 (nI a) (nI b) (nI m) g = some (io (∀ i, i < m → g.1 4 (a + i) = g.1 1 (b + i)) 1 0, g) := by
  unfold fn_Et_areSame_4_1
  simp (disch := omega) only [ni_of, nI_add, ni_lt, ni_le]
  rw [if_neg (by omega), if_neg (by omega), if_neg (by omega), if_pos (by omega), as_41_l ha hb g m 1000000 0 (by omega) (by omega)]
  rw [io_c ⟨fun h i hi => h i (Nat.zero_le _) hi, fun h i _ hi => h i hi⟩]; rfl
/-- the letters that stand somewhere -/
theorem sa_c {s i p ls lp : Nat} {g : et_G} (hs : s < 46) (hp : p < 46) (es : g.1 5 s = nI ls) (ep : g.1 5 p = nI lp) (hls : ls ≤ 8) (hlp : lp ≤ 8) (hi : i ≤ 8) : fn_To_standsAt (nI s) (nI i) (nI p) g = some (io (i + lp ≤ ls ∧ ∀ k, k < lp → g.1 4 (8 * s + i + k) = g.1 4 (8 * p + k)) 1 0, g) := by
  unfold fn_To_standsAt
  simp (disch := omega) only [ni_of, nI_add, pk_mul, ni_lt, ni_le, nI_clamp, ib_e, ck_t, es, ep]
  rw [if_neg (by omega)]
  by_cases h : ls < i + lp
  · rw [if_pos h, io_f (fun e => by omega)]
  · rw [if_neg h, Nat.mul_comm s 8, Nat.mul_comm p 8, as_44 (by omega) (by omega), bd_s]
    by_cases h2 : ∀ k, k < lp → g.1 4 (8 * s + i + k) = g.1 4 (8 * p + k)
    · rw [io_t h2, if_neg (by decide), io_t ⟨by omega, h2⟩]
    · rw [io_f h2, if_pos (by decide), io_f (fun e => h2 e.2)]
theorem sa_n {s p : Nat} {x : Int32} {g : et_G} (h : x < 0) : fn_To_standsAt (nI s) x (nI p) g = some (0, g) := by
  unfold fn_To_standsAt
  rw [if_pos h]
def en_P (S : et_T) (s c : Nat) : Prop := S 64 (27 * c) ≤ S 62 (9 * s) ∧ ∀ k, k < S 64 (27 * c) → S 62 (9 * s + 1 + S 62 (9 * s) - S 64 (27 * c) + k) = S 64 (27 * c + 1 + k)
def be_P (S : et_T) (e c : Nat) : Prop := S 64 (27 * c + 9) ≤ S 63 (9 * e) ∧ ∀ k, k < S 64 (27 * c + 9) → S 63 (9 * e + 1 + k) = S 64 (27 * c + 10 + k)
/-- the first change that is made, from c on (or how many there are) -/
noncomputable def fc_n (S : et_T) (s e : Nat) : Nat → Nat → Nat
  | 0, c => c
  | d + 1, c => io (en_P S s c ∧ be_P S e c) c (fc_n S s e d (c + 1))
noncomputable def fc (S : et_T) (s e : Nat) : Nat := fc_n S s e (S 61 2) 0
theorem fc_le (S : et_T) (s e : Nat) : ∀ d c, fc_n S s e d c ≤ c + d := by
  intro d
  induction d with
  | zero => intro c; exact Nat.le_refl _
  | succ d ih =>
    intro c
    unfold fc_n
    by_cases h : en_P S s c ∧ be_P S e c
    · rw [io_t h]; omega
    · rw [io_f h]; have := ih (c + 1); omega
theorem fc_be (S : et_T) (s e : Nat) : ∀ d c, fc_n S s e d c < c + d → en_P S s (fc_n S s e d c) ∧ be_P S e (fc_n S s e d c) := by
  intro d
  induction d with
  | zero => intro c h; exact absurd h (by unfold fc_n; omega)
  | succ d ih =>
    intro c
    unfold fc_n
    by_cases h : en_P S s c ∧ be_P S e c
    · rw [io_t h]; exact fun _ => h
    · rw [io_f h]; exact fun h2 => ih (c + 1) (by omega)
def seg (A : Nat → Nat) (o n : Nat) : List Nat := (List.range n).map (fun i => A (o + i))
theorem seg_l (A : Nat → Nat) (o n : Nat) : (seg A o n).length = n := by simp [seg]
theorem seg_s (A : Nat → Nat) (o n : Nat) : seg A o (n + 1) = seg A o n ++ [A (o + n)] := by simp [seg, List.range_succ]
theorem seg_c (A : Nat → Nat) (o n : Nat) : seg A o (n + 1) = A o :: seg A (o + 1) n := by
  simp only [seg, List.range_succ_eq_map, List.map_cons, List.map_map, Nat.add_zero]
  congr 1
  apply List.map_congr_left
  intro i _
  show A (o + (i + 1)) = A (o + 1 + i)
  congr 1; omega
noncomputable def wd (S : et_T) (s e : Nat) : List Nat :=
  if S 63 (9 * e) = 0 then [] else
  if fc S s e = S 61 2 then seg (S 62) (9 * s + 1) (S 62 (9 * s)) ++ seg (S 63) (9 * e + 1) (S 63 (9 * e))
  else seg (S 62) (9 * s + 1) (S 62 (9 * s) - S 64 (27 * fc S s e)) ++ seg (S 64) (27 * fc S s e + 19) (S 64 (27 * fc S s e + 18)) ++ seg (S 63) (9 * e + 1 + S 64 (27 * fc S s e + 9)) (S 63 (9 * e) - S 64 (27 * fc S s e + 9))
/-- what the class has made so far; what the model has spoken so far -/
def bf_c (g : et_G) (w : List Nat) : Prop := g.1 3 5 = nI w.length ∧ w.length ≤ 24 ∧ ∀ i, i < w.length → g.1 6 i = nI (w.getD i 0)
def bf_m (g : et_G) (w : List Nat) : Prop := g.1 61 48 = nI w.length ∧ w.length ≤ 24 ∧ ∀ i, i < w.length → g.1 82 i = nI (w.getD i 0)
def wb_c (k j : Nat) : Bool := k == 6 || (k == 3 && j == 5)
def wb_m (k j : Nat) : Bool := k == 82 || (k == 61 && j == 48)
theorem by_id : ∀ n, n < 128 → vp_nar .byte (nI n) = nI n := by
  intro n hn
  have : ∀ n, n < 128 → (nI n).toInt8.toInt32 = nI n := by decide
  rw [vp_nar_byte, this n hn]
theorem gd_a {w : List Nat} {x i : Nat} (h : i < w.length + 1) : (w ++ [x]).getD i 0 = if i = w.length then x else w.getD i 0 := by
  by_cases e : i = w.length
  · subst e; simp
  · rw [if_neg e]; simp [List.getD_eq_getElem?_getD, List.getElem?_append_left (show i < w.length by omega)]
theorem ad_c {A : Nat → Nat} {s q : Nat} (hs : s < 46) : ∀ (d f n : Nat) (w : List Nat) (g : et_G), d < n → f + d ≤ 8 → bf_c g w → w.length + d ≤ 24 → (∀ i, f ≤ i → i < f + d → g.1 4 (8 * s + i) = nI (A (q + i)) ∧ A (q + i) < 128) →
    ev_Q (fn_To_add_3 (nI s) (nI (f + d)) n (nI f) g) (fun _ g' => bf_c g' (w ++ seg A (q + f) d) ∧ fq wb_c g g') := by
  intro d
  induction d with
  | zero =>
    intro f n w g hn hf hb hl hL
    obtain ⟨n, rfl⟩ : ∃ m, n = m + 1 := ⟨n - 1, by omega⟩
    rw [fn_To_add_3, if_pos (nI_le (by omega) (by omega))]
    exact ev_r ⟨by simpa [seg] using hb, fq_r _ _⟩
  | succ d ih =>
    intro f n w g hn hf hb hl hL
    obtain ⟨n, rfl⟩ : ∃ m, n = m + 1 := ⟨n - 1, by omega⟩
    obtain ⟨b1, b2, b3⟩ := hb
    obtain ⟨l1, l2⟩ := hL f (Nat.le_refl _) (by omega)
    rw [fn_To_add_3, if_neg (nI_ge (by omega) (by omega)), b1]
    simp (disch := omega) only [ni_of, nI_add, pk_mul, ni_lt, ni_le, nI_clamp, ib_e, ck_t, et_b]
    rw [if_neg (by omega), Nat.mul_comm s 8, l1, by_id _ l2]
    have key : ∀ g', g' = et_si (et_si g 6 w.length (nI (A (q + f)))) 3 5 (nI (w.length + 1)) → ev_Q (fn_To_add_3 (nI s) (nI (f + (d + 1))) n (nI (f + 1)) g') (fun _ g2 => bf_c g2 (w ++ seg A (q + f) (d + 1)) ∧ fq wb_c g g2) := by
      intro g' hg
      have hfr : fq wb_c g g' := by
        rw [hg]; exact fq_s (fq_s (fq_r _ _) (by simp [wb_c])) (by simp [wb_c])
      have hb' : bf_c g' (w ++ [A (q + f)]) := by
        refine ⟨by simp [hg, si_g], by simp; omega, fun i hi => ?_⟩
        simp at hi
        rw [gd_a hi, hg]
        simp only [si_g]
        rw [if_neg (by omega)]
        by_cases e : i = w.length
        · simp [e]
        · rw [if_neg (by omega), if_neg e]; exact b3 i (by omega)
      have := ih (f + 1) n (w ++ [A (q + f)]) g' (by omega) (by omega) hb' (by simp; omega) (fun i h1 h2 => by
        rw [hfr.1 4 _ rfl]; exact hL i (by omega) (by omega))
      rw [show f + 1 + d = f + (d + 1) from by omega] at this
      refine ev_w this (fun _ g2 h => ⟨?_, fq_t hfr h.2⟩)
      rw [seg_c, show q + f + 1 = q + (f + 1) from by omega]
      simpa using h.1
    refine key _ ?_
    simp [si_g, b1, nI_add]
theorem am_1 {g : et_G} {w : List Nat} (x : Nat) (hb : bf_m g w) (hl : w.length < 24) : ev_Q (fn_Mo_adds (nI x) g) (fun _ g' => bf_m g' (w ++ [x]) ∧ fq wb_m g g') := by
  obtain ⟨b1, b2, b3⟩ := hb
  unfold fn_Mo_adds
  rw [b1]
  simp (disch := omega) only [ni_of, nI_add, nI_clamp, ib_e, ck_t, et_b]
  refine ev_r ⟨⟨by simp [si_g, b1, nI_add], by simp; omega, fun i hi => ?_⟩, fq_s (fq_s (fq_r _ _) (by simp [wb_m])) (by simp [wb_m])⟩
  simp at hi
  rw [gd_a hi]
  simp only [si_g]
  rw [if_neg (by omega)]
  by_cases e : i = w.length
  · simp [e]
  · rw [if_neg (by omega), if_neg e]; exact b3 i (by omega)
/-- the lengths, as the model has them -/
def wt_S (S : et_T) : Prop := S 61 1 ≤ 12 ∧ S 61 2 ≤ 6 ∧ (∀ s, s < S 61 1 → S 62 (9 * s) ≤ 8 ∧ ∀ i, i < S 62 (9 * s) → S 62 (9 * s + 1 + i) < 128) ∧ (∀ e, e < 15 → S 63 (9 * e) ≤ 8 ∧ ∀ i, i < S 63 (9 * e) → S 63 (9 * e + 1 + i) < 128) ∧ (∀ c, c < S 61 2 → ∀ q, q < 3 → S 64 (27 * c + 9 * q) ≤ 8 ∧ ∀ i, i < S 64 (27 * c + 9 * q) → S 64 (27 * c + 9 * q + 1 + i) < 128)
theorem wt_of {S : et_T} {g : et_G} (h : rc_tong S g) (hw : wf_town S) : wt_S S := by
  obtain ⟨-, -, h1, h2, h3, -⟩ := h
  exact ⟨hw.1, hw.2.1, fun s hs => ⟨(h1 s hs).2.1, fun i hi => by have := ((h1 s hs).2.2 i hi).2.2; omega⟩, fun s hs => ⟨(h2 s hs).2.1, fun i hi => by have := ((h2 s hs).2.2 i hi).2.2; omega⟩, fun c hc q hq => ⟨(h3 c hc q hq).2.1, fun i hi => by have := ((h3 c hc q hq).2.2 i hi).2.2; omega⟩⟩
theorem sl_eq {L len : Nat → Int32} {s o p q i : Nat} {A B : Nat → Nat} (h1 : sl_R L len s A o) (h2 : sl_R L len p B q) (hi : i + B q ≤ A o) : (∀ k, k < B q → L (8 * s + i + k) = L (8 * p + k)) ↔ ∀ k, k < B q → A (o + 1 + i + k) = B (q + 1 + k) := by
  obtain ⟨-, -, a3⟩ := h1
  obtain ⟨-, -, b3⟩ := h2
  constructor
  · intro h k hk
    have e := h k hk
    obtain ⟨x1, -, x2⟩ := a3 (i + k) (by omega)
    obtain ⟨y1, -, y2⟩ := b3 k hk
    rw [show 8 * s + i + k = 8 * s + (i + k) from by omega, x1, y1, nI_eq (by omega) (by omega)] at e
    rw [show o + 1 + i + k = o + 1 + (i + k) from by omega]
    exact e
  · intro h k hk
    have e := h k hk
    obtain ⟨x1, -, x2⟩ := a3 (i + k) (by omega)
    obtain ⟨y1, -, y2⟩ := b3 k hk
    rw [show 8 * s + i + k = 8 * s + (i + k) from by omega, x1, y1, show o + 1 + (i + k) = o + 1 + i + k from by omega, e]
theorem sa_R {g : et_G} {s o p q i : Nat} {A B : Nat → Nat} (hs : s < 46) (hp : p < 46) (h1 : sl_R (g.1 4) (g.1 5) s A o) (h2 : sl_R (g.1 4) (g.1 5) p B q) (hi : i ≤ 8) : fn_To_standsAt (nI s) (nI i) (nI p) g = some (io (i + B q ≤ A o ∧ ∀ k, k < B q → A (o + 1 + i + k) = B (q + 1 + k)) 1 0, g) := by
  rw [sa_c hs hp h1.1 h2.1 h1.2.1 h2.2.1 hi]
  congr 2
  apply io_c
  constructor
  · intro ⟨a, b⟩; exact ⟨a, (sl_eq h1 h2 a).mp b⟩
  · intro ⟨a, b⟩; exact ⟨a, (sl_eq h1 h2 a).mpr b⟩
theorem fc_c {S : et_T} {g : et_G} {s e : Nat} (hC : rc_tong S g) (hw : wf_town S) (hs : s < S 61 1) (he : e < 15) : ∀ d n c, c + d = S 61 2 → d < n → fn_To_firstChange_2 (nI s) (nI (12 + e)) n (nI c) g = some (if fc_n S s e d c = S 61 2 then -1 else nI (fc_n S s e d c), g) := by
  obtain ⟨-, e3, r1, r2, r3, -⟩ := hC
  have w1 : S 61 1 ≤ 12 := hw.1
  have w2 : S 61 2 ≤ 6 := hw.2.1
  have q1 := r1 s hs
  have q2 := r2 e he
  intro d
  induction d with
  | zero =>
    intro n c hc hn
    obtain ⟨n, rfl⟩ : ∃ m, n = m + 1 := ⟨n - 1, by omega⟩
    rw [fn_To_firstChange_2, e3, if_pos (nI_le (by omega) (by omega))]
    unfold fc_n
    rw [if_pos (by omega)]
  | succ d ih =>
    intro n c hc hn
    obtain ⟨n, rfl⟩ : ∃ m, n = m + 1 := ⟨n - 1, by omega⟩
    have q3 := r3 c (by omega) 0 (by omega)
    have q4 := r3 c (by omega) 1 (by omega)
    rw [fn_To_firstChange_2, e3, if_neg (nI_ge (by omega) (by omega))]
    unfold fn_To_changeSlot
    simp (disch := omega) only [bd_s, ni_of, nI_add, pk_mul, nI_clamp, ib_e, ck_t, et_b, q1.1, q3.1]
    have hne : en_P S s c ↔ (S 64 (27 * c) ≤ S 62 (9 * s) ∧ ∀ k, k < S 64 (27 * c) → S 62 (9 * s + 1 + (S 62 (9 * s) - S 64 (27 * c)) + k) = S 64 (27 * c + 1 + k)) := by
      unfold en_P
      constructor
      · intro ⟨a, b⟩; refine ⟨a, fun k hk => ?_⟩; rw [← b k hk]; congr 1; omega
      · intro ⟨a, b⟩; refine ⟨a, fun k hk => ?_⟩; rw [← b k hk]; congr 1; omega
    have e1 : fn_To_standsAt (nI s) (nI (S 62 (9 * s)) - nI (S 64 (27 * c + 9 * 0))) (nI (27 + 3 * c + 0)) g = some (io (en_P S s c) 1 0, g) := by
      by_cases hle : S 64 (27 * c) ≤ S 62 (9 * s)
      · have hA := q1.2.1
        rw [pk_sub (show S 64 (27 * c + 9 * 0) ≤ S 62 (9 * s) from hle), sa_R (by omega) (by omega) q1 q3 (by omega)]
        congr 2
        apply io_c
        rw [hne]
        have h00 : 27 * c + 9 * 0 = 27 * c := by omega
        rw [h00]
        constructor
        · intro ⟨a, b⟩; exact ⟨hle, b⟩
        · intro ⟨a, b⟩; exact ⟨by omega, b⟩
      · rw [sa_n (pk_sneg (by have := q3.2.1; omega) (show S 62 (9 * s) < S 64 (27 * c + 9 * 0) from Nat.lt_of_not_le hle)), io_f (fun h => hle h.1)]
    have e2 : fn_To_standsAt (nI (12 + e)) (nI 0) (nI (27 + 3 * c + 1)) g = some (io (be_P S e c) 1 0, g) := by
      rw [sa_R (by omega) (by omega) q2 q4 (by omega)]
      congr 2
      apply io_c
      unfold be_P
      rw [show 27 * c + 9 * 1 = 27 * c + 9 from by omega]
      simp only [Nat.zero_add, Nat.add_zero, show 27 * c + 9 + 1 = 27 * c + 10 from rfl]
    rw [e1, bd_s]
    conv => rhs; unfold fc_n
    by_cases h1 : en_P S s c
    · rw [io_t h1, if_neg (by decide), e2, bd_s]
      by_cases h2 : be_P S e c
      · rw [io_t h2, if_neg (by decide), io_t ⟨h1, h2⟩, if_neg (by omega)]
      · rw [io_f h2, if_pos (by decide), io_f (fun h => h2 h.2), ih n (c + 1) (by omega) (by omega)]
        rfl
    · rw [io_f h1, if_pos (by decide), io_f (fun h => h1 h.1), ih n (c + 1) (by omega) (by omega)]
      rfl
theorem wd_len {S : et_T} (hw : wt_S S) {s e : Nat} (hs : s < S 61 1) (he : e < 15) : (wd S s e).length ≤ 24 := by
  obtain ⟨-, -, h1, h2, h3⟩ := hw
  have a1 := (h1 s hs).1
  have a2 := (h2 e he).1
  unfold wd
  split
  · simp
  · split
    · simp only [List.length_append, seg_l]; omega
    · rename_i hn
      have hl := fc_le S s e (S 61 2) 0
      have a3 : S 64 (27 * fc S s e + 18) ≤ 8 := (h3 (fc S s e) (by unfold fc at hn ⊢; omega) 2 (by omega)).1
      simp only [List.length_append, seg_l]
      omega
theorem mk_c {S : et_T} {g : et_G} {s b h : Nat} (hC : rc_tong S g) (hw : wf_town S) (hs : s < S 61 1) (hb : b < 3) (hh : h < 5) : ev_Q (fn_To_make (nI s) (nI b) (nI h) g) (fun a g' => a = nI (wd S s (5 * b + h)).length ∧ bf_c g' (wd S s (5 * b + h)) ∧ fq wb_c g g') := by
  have hC0 := hC
  obtain ⟨-, e3, r1, r2, r3, -⟩ := hC
  have w1 : S 61 1 ≤ 12 := hw.1
  have w2 : S 61 2 ≤ 6 := hw.2.1
  have q1 := r1 s hs
  have q2 := r2 (5 * b + h) (by omega)
  generalize he : 5 * b + h = e at *
  have he15 : e < 15 := by omega
  unfold fn_To_make fn_To_endingSlot
  simp only [bd_s, ni_of, nI_add, pk_mul, et_b]
  rw [show 12 + 5 * b + h = 12 + e from by omega, ib_e (12 + e) 46 (by omega) (by decide), ck_t, nI_clamp (by omega)]
  have h53 : (et_si g 3 5 (nI 0)).1 5 (12 + e) = nI (S 63 (9 * e)) := by rw [si_g, if_neg (by omega), q2.1]
  rw [h53]
  have hA1 := q1.2.1
  have hA2 := q2.2.1
  generalize hg0 : et_si g 3 5 (nI 0) = g0
  have f0 : fq wb_c g g0 := by rw [← hg0]; exact fq_s (fq_r _ _) rfl
  have b0 : bf_c g0 [] := ⟨by rw [← hg0]; simp [si_g], by simp, fun i hi => by simp at hi⟩
  have c0 : rc_tong S g0 := rc_tong_q f0 (ag_r S) ⟨rfl, rfl, fun _ => rfl, fun _ => rfl⟩ ⟨rfl, rfl, fun _ => rfl, fun _ => rfl, fun _ => rfl, fun _ => rfl⟩ hC0
  by_cases hz : S 63 (9 * e) = 0
  · rw [if_pos (by rw [hz]), show wd S s e = [] from by unfold wd; rw [if_pos hz]]
    exact ev_r ⟨rfl, b0, f0⟩
  · rw [if_neg (by rw [ni_eq (by omega) (by omega)]; exact hz)]
    unfold fn_To_firstChange
    rw [show (0 : Int32) = nI 0 from rfl, fc_c c0 hw hs he15 (S 61 2) 1000000 0 (by omega) (by omega), bd_s]
    have hl := fc_le S s e (S 61 2) 0
    by_cases hc : fc_n S s e (S 61 2) 0 = S 61 2
    · rw [if_pos hc, if_pos (by decide), ib_e s 46 (by omega) (by decide), ck_t, nI_clamp (by omega)]
      have hwd : wd S s e = [] ++ seg (S 62) (9 * s + 1) (S 62 (9 * s)) ++ seg (S 63) (9 * e + 1) (S 63 (9 * e)) := by
        unfold wd
        rw [if_neg hz, if_pos (show fc S s e = S 61 2 from hc), List.nil_append]
      rw [f0.1 5 s rfl, q1.1]
      unfold fn_To_add
      have A1 := ad_c (A := S 62) (s := s) (q := 9 * s + 1) (by omega) (S 62 (9 * s)) 0 1000000 [] g0 (by omega) (by omega) b0 (by simp; omega) (fun i _ hi => by
        rw [f0.1 4 _ rfl]; have := q1.2.2 i (by omega); exact ⟨this.1, by omega⟩)
      rw [Nat.zero_add] at A1
      refine ev_d A1 (fun _ g1 h1 => ?_)
      obtain ⟨b1, f1⟩ := h1
      rw [ck_t, f1.1 5 _ rfl, f0.1 5 _ rfl, q2.1]
      have A2 := ad_c (A := S 63) (s := 12 + e) (q := 9 * e + 1) (by omega) (S 63 (9 * e)) 0 1000000 _ g1 (by omega) (by omega) b1 (by simp [seg_l]; omega) (fun i _ hi => by
        rw [f1.1 4 _ rfl, f0.1 4 _ rfl]; have := q2.2.2 i (by omega); exact ⟨this.1, by omega⟩)
      rw [Nat.zero_add] at A2
      refine ev_d A2 (fun _ g2 h2 => ?_)
      obtain ⟨b2, f2⟩ := h2
      rw [Nat.add_zero, Nat.add_zero, ← hwd] at b2
      exact ev_r ⟨b2.1, b2, fq_t (fq_t f0 f1) f2⟩
    · rw [if_neg hc]
      have hcl : fc_n S s e (S 61 2) 0 < S 61 2 := by omega
      obtain ⟨p1, p2⟩ := fc_be S s e (S 61 2) 0 (by omega)
      have hwd : wd S s e = [] ++ seg (S 62) (9 * s + 1) (S 62 (9 * s) - S 64 (27 * fc_n S s e (S 61 2) 0)) ++ seg (S 64) (27 * fc_n S s e (S 61 2) 0 + 19) (S 64 (27 * fc_n S s e (S 61 2) 0 + 18)) ++ seg (S 63) (9 * e + 1 + S 64 (27 * fc_n S s e (S 61 2) 0 + 9)) (S 63 (9 * e) - S 64 (27 * fc_n S s e (S 61 2) 0 + 9)) := by
        unfold wd
        rw [if_neg hz, if_neg (show ¬ fc S s e = S 61 2 from hc), List.nil_append]
        rfl
      generalize fc_n S s e (S 61 2) 0 = c at *
      have t0 := r3 c hcl 0 (by omega)
      have t1 := r3 c hcl 1 (by omega)
      have t2 := r3 c hcl 2 (by omega)
      have d1 : S 64 (27 * c) ≤ S 62 (9 * s) := p1.1
      have d2 : S 64 (27 * c + 9) ≤ S 63 (9 * e) := p2.1
      rw [if_neg (fun h => by have : ¬ nI c < 0 := nI_pos (by omega); rw [h] at this; exact this (by decide))]
      unfold fn_To_changeSlot
      simp (disch := omega) only [bd_s, ni_of, nI_add, pk_mul, nI_clamp, ib_e, ck_t]
      rw [f0.1 5 s rfl, q1.1, f0.1 5 _ rfl, t0.1, pk_sub (show S 64 (27 * c + 9 * 0) ≤ S 62 (9 * s) from d1)]
      unfold fn_To_add
      have A1 := ad_c (A := S 62) (s := s) (q := 9 * s + 1) (by omega) (S 62 (9 * s) - S 64 (27 * c)) 0 1000000 [] g0 (by omega) (by omega) b0 (by simp; omega) (fun i _ hi => by
        rw [f0.1 4 _ rfl]; have := q1.2.2 i (by omega); exact ⟨this.1, by omega⟩)
      rw [Nat.zero_add] at A1
      refine ev_d A1 (fun _ g1 h1 => ?_)
      obtain ⟨b1, f1⟩ := h1
      have u2 : S 64 (27 * c + 18) ≤ 8 := t2.2.1
      rw [f1.1 5 _ rfl, f0.1 5 _ rfl, t2.1]
      have A2 := ad_c (A := S 64) (s := 27 + 3 * c + 2) (q := 27 * c + 19) (by omega) (S 64 (27 * c + 18)) 0 1000000 _ g1 (by omega) (by omega) b1 (by simp [seg_l]; omega) (fun i _ hi => by
        rw [f1.1 4 _ rfl, f0.1 4 _ rfl]; have := t2.2.2 i (show i < S 64 (27 * c + 18) by omega)
        rw [show 27 * c + 19 + i = 27 * c + 9 * 2 + 1 + i from by omega]; exact ⟨this.1, by omega⟩)
      rw [Nat.zero_add] at A2
      refine ev_d A2 (fun _ g2 h2 => ?_)
      obtain ⟨b2, f2⟩ := h2
      rw [f2.1 5 (27 + 3 * c + 1) rfl, f1.1 5 (27 + 3 * c + 1) rfl, f0.1 5 (27 + 3 * c + 1) rfl, t1.1, f2.1 5 (12 + e) rfl, f1.1 5 (12 + e) rfl, f0.1 5 (12 + e) rfl, q2.1]
      have A3 := ad_c (A := S 63) (s := 12 + e) (q := 9 * e + 1) (by omega) (S 63 (9 * e) - S 64 (27 * c + 9)) (S 64 (27 * c + 9)) 1000000 _ g2 (by omega) (by omega) b2 (by simp [seg_l]; omega) (fun i _ hi => by
        rw [f2.1 4 _ rfl, f1.1 4 _ rfl, f0.1 4 _ rfl]; have := q2.2.2 i (by omega); exact ⟨this.1, by omega⟩)
      rw [show S 64 (27 * c + 9) + (S 63 (9 * e) - S 64 (27 * c + 9)) = S 63 (9 * e) from by omega] at A3
      refine ev_d A3 (fun _ g3 h3 => ?_)
      obtain ⟨b3, f3⟩ := h3
      rw [Nat.add_zero, Nat.add_zero, ← hwd] at b3
      exact ev_r ⟨b3.1, b3, fq_t (fq_t (fq_t f0 f1) f2) f3⟩
