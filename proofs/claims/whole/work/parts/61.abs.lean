/-! what is so of sayings and things, by S alone -/
def a_pl (S : et_T) (p h : Nat) : Nat := S 69 (24 * p + h)
/-- by one's eyes; by one's ears -/
def a_b0 (S : et_T) (p h t nt : Nat) : Prop := S 66 (5 * t + 2) ≤ h ∧ a_pl S p (S 66 (5 * t + 2)) = S 66 (5 * t + 1) ∧ S 66 (5 * t + 4) = nt
def a_b1 (S : et_T) (p h t nt : Nat) : Prop := S 66 (5 * t + 2) ≤ h ∧ nt = 0 ∧ S 66 (5 * t + 3) = 1 ∧ S 66 (5 * t + 4) = 0 ∧ (S 68 (a_pl S p (S 66 (5 * t + 2)))).testBit (S 66 (5 * t + 1)) = true
def a_hr (S : et_T) (p h s : Nat) : Prop := s < S 61 50 ∧ S 84 (5 * s + 1) ≤ h ∧ S 84 (5 * s) ≠ p ∧ a_pl S p (S 84 (5 * s + 1)) = a_pl S (S 84 (5 * s)) (S 84 (5 * s + 1))
def a_ab (S : et_T) (t nt s : Nat) : Prop := s < S 61 50 ∧ S 84 (5 * s + 2) = t ∧ S 84 (5 * s + 4) = nt
def a_dr (S : et_T) (s : Nat) : Prop := s < S 61 50 ∧ S 84 (5 * s + 3) = 4
def a_ow (S : et_T) (p h t : Nat) : Prop := t < S 61 5 ∧ (a_b0 S p h t 0 ∨ a_b1 S p h t 0)
/-- rule r gives t, out of C -/
def a_rl (S : et_T) (t : Nat) (C : Nat → Prop) (r : Nat) : Prop := r < S 61 6 ∧ S 67 (5 * r + 1) = t ∧ ∀ k, 1 ≤ k → k < S 67 (5 * r) → C (S 67 (5 * r + 1 + k))
def a_wo (S : et_T) (t : Nat) (C : Nat → Prop) : Prop := ∃ r, a_rl S t C r
def a_td (S : et_T) (T : Nat → Prop) (p h t nt : Nat) : Prop := ∃ s, T s ∧ a_hr S p h s ∧ a_ab S t nt s
/-- by which ending it stands, told by T and with C that one could say -/
def a_sh (S : et_T) (T C : Nat → Prop) (p h t nt w : Nat) : Prop := (w = 0 ∧ a_b0 S p h t nt) ∨ (w = 1 ∧ a_b1 S p h t nt) ∨ (w = 2 ∧ a_td S T p h t nt) ∨ (w = 3 ∧ nt = 0 ∧ a_wo S t C) ∨ w = 4
theorem a_rl_m {S : et_T} {t : Nat} {C D : Nat → Prop} (h : ∀ i, C i → D i) {r : Nat} (k : a_rl S t C r) : a_rl S t D r := ⟨k.1, k.2.1, fun j h1 h2 => h _ (k.2.2 j h1 h2)⟩
theorem a_wo_m {S : et_T} {t : Nat} {C D : Nat → Prop} (h : ∀ i, C i → D i) (k : a_wo S t C) : a_wo S t D := ⟨k.choose, a_rl_m h k.choose_spec⟩
theorem a_td_m {S : et_T} {T U : Nat → Prop} (h : ∀ i, T i → U i) {p q t nt : Nat} (k : a_td S T p q t nt) : a_td S U p q t nt := ⟨k.choose, h _ k.choose_spec.1, k.choose_spec.2⟩
theorem a_sh_m {S : et_T} {T U C D : Nat → Prop} (h1 : ∀ i, T i → U i) (h2 : ∀ i, C i → D i) {p h t nt w : Nat} (k : a_sh S T C p h t nt w) : a_sh S U D p h t nt w := by
  rcases k with k | k | k | k | k
  · exact Or.inl k
  · exact Or.inr (Or.inl k)
  · exact Or.inr (Or.inr (Or.inl ⟨k.1, a_td_m h1 k.2⟩))
  · exact Or.inr (Or.inr (Or.inr (Or.inl ⟨k.1, k.2.1, a_wo_m h2 k.2.2⟩)))
  · exact Or.inr (Or.inr (Or.inr (Or.inr k)))
theorem a_wo_t {S : et_T} (hw : wf_town S) {t : Nat} {C : Nat → Prop} (h : a_wo S t C) : t < S 61 5 := by
  obtain ⟨r, h1, h2, -⟩ := h
  obtain ⟨-, -, -, -, -, -, -, -, wr, -⟩ := hw
  obtain ⟨q1, q2, q3⟩ := wr r h1
  rw [← h2]
  exact q3 0 (by omega)
theorem a_ab_m {S : et_T} {s : Nat} (h : s < S 61 50) : a_ab S (S 84 (5 * s + 2)) (S 84 (5 * s + 4)) s := ⟨h, rfl, rfl⟩
/-- the rounds: which hold (X are there, Y are changed), which one could say -/
def a_st (S : et_T) (T : Nat → Prop) (C : Nat → Nat → Nat → Prop) (Y : Nat → Prop) (s : Nat) : Prop :=
  (Y s → ∃ w, w < 4 ∧ a_sh S T (C (S 84 (5 * s)) (S 84 (5 * s + 1))) (S 84 (5 * s)) (S 84 (5 * s + 1)) (S 84 (5 * s + 2)) (S 84 (5 * s + 4)) w) ∧
  (¬ Y s → a_sh S T (C (S 84 (5 * s)) (S 84 (5 * s + 1))) (S 84 (5 * s)) (S 84 (5 * s + 1)) (S 84 (5 * s + 2)) (S 84 (5 * s + 4)) (S 84 (5 * s + 3)))
def a_cs (S : et_T) (T C : Nat → Prop) (p h t : Nat) : Prop := t < S 61 5 ∧ ∃ w, w < 4 ∧ a_sh S T C p h t 0 w
def a_so (S : et_T) (Y H : Nat → Prop) (s : Nat) : Prop := H s ∧ (S 84 (5 * s + 3) ≠ 4 ∨ Y s)
def a_lv (S : et_T) (X Y : Nat → Prop) : Nat → (Nat → Prop) × (Nat → Nat → Nat → Prop)
  | 0 => (fun _ => False, fun _ _ _ => False)
  | r + 1 => (fun s => s < S 61 50 ∧ X s ∧ a_st S (a_so S Y (a_lv S X Y r).1) (a_lv S X Y r).2 Y s,
      fun p h t => a_cs S (a_so S Y (a_lv S X Y r).1) ((a_lv S X Y r).2 p h) p h t)
def a_H (S : et_T) (X Y : Nat → Prop) (r s : Nat) : Prop := (a_lv S X Y r).1 s
def a_C (S : et_T) (X Y : Nat → Prop) (r p h t : Nat) : Prop := (a_lv S X Y r).2 p h t
def a_T (S : et_T) (X Y : Nat → Prop) (r s : Nat) : Prop := a_so S Y (a_H S X Y r) s
theorem a_H0 (S : et_T) (X Y : Nat → Prop) (s : Nat) : ¬ a_H S X Y 0 s := fun h => h
theorem a_C0 (S : et_T) (X Y : Nat → Prop) (p h t : Nat) : ¬ a_C S X Y 0 p h t := fun h => h
theorem a_Hs (S : et_T) (X Y : Nat → Prop) (r s : Nat) : a_H S X Y (r + 1) s ↔ s < S 61 50 ∧ X s ∧ a_st S (a_T S X Y r) (a_C S X Y r) Y s := Iff.rfl
theorem a_Cs (S : et_T) (X Y : Nat → Prop) (r p h t : Nat) : a_C S X Y (r + 1) p h t ↔ a_cs S (a_T S X Y r) (a_C S X Y r p h) p h t := Iff.rfl
theorem a_so_m {S : et_T} {Y H K : Nat → Prop} (h : ∀ i, H i → K i) {s : Nat} (k : a_so S Y H s) : a_so S Y K s := ⟨h s k.1, k.2⟩
theorem a_st_m {S : et_T} {T U : Nat → Prop} {C D : Nat → Nat → Nat → Prop} {Y : Nat → Prop} (h1 : ∀ i, T i → U i) (h2 : ∀ p h t, C p h t → D p h t) {s : Nat} (k : a_st S T C Y s) : a_st S U D Y s := by
  refine ⟨fun y => ?_, fun y => a_sh_m h1 (h2 _ _) (k.2 y)⟩
  obtain ⟨w, hw, h⟩ := k.1 y
  exact ⟨w, hw, a_sh_m h1 (h2 _ _) h⟩
theorem a_cs_m {S : et_T} {T U C D : Nat → Prop} (h1 : ∀ i, T i → U i) (h2 : ∀ t, C t → D t) {p h t : Nat} (k : a_cs S T C p h t) : a_cs S U D p h t := by
  obtain ⟨h0, w, hw, h⟩ := k
  exact ⟨h0, w, hw, a_sh_m h1 h2 h⟩
theorem a_up1 (S : et_T) (X Y : Nat → Prop) : ∀ r, (∀ s, a_H S X Y r s → a_H S X Y (r + 1) s) ∧ (∀ p h t, a_C S X Y r p h t → a_C S X Y (r + 1) p h t) := by
  intro r
  induction r with
  | zero => exact ⟨fun s h => h.elim, fun p h t k => k.elim⟩
  | succ r ih =>
    refine ⟨fun s h => ?_, fun p h t k => ?_⟩
    · rw [a_Hs] at h ⊢
      exact ⟨h.1, h.2.1, a_st_m (fun i => a_so_m ih.1) ih.2 h.2.2⟩
    · rw [a_Cs] at k ⊢
      exact a_cs_m (fun i => a_so_m ih.1) (ih.2 _ _) k
theorem a_Hm {S : et_T} {X Y : Nat → Prop} {r q s : Nat} (h : r ≤ q) (k : a_H S X Y r s) : a_H S X Y q s := by
  induction q with
  | zero => rw [show r = 0 from by omega] at k; exact k
  | succ q ih =>
    by_cases e : r = q + 1
    · subst e; exact k
    · exact (a_up1 S X Y q).1 s (ih (by omega))
theorem a_Cm {S : et_T} {X Y : Nat → Prop} {r q p h t : Nat} (hq : r ≤ q) (k : a_C S X Y r p h t) : a_C S X Y q p h t := by
  induction q with
  | zero => rw [show r = 0 from by omega] at k; exact k
  | succ q ih =>
    by_cases e : r = q + 1
    · subst e; exact k
    · exact (a_up1 S X Y q).2 p h t (ih (by omega))
theorem a_Tm {S : et_T} {X Y : Nat → Prop} {r q s : Nat} (h : r ≤ q) (k : a_T S X Y r s) : a_T S X Y q s := ⟨a_Hm h k.1, k.2⟩
/-- in the end -/
def a_HH (S : et_T) (X Y : Nat → Prop) (s : Nat) : Prop := ∃ r, a_H S X Y r s
def a_TT (S : et_T) (X Y : Nat → Prop) (s : Nat) : Prop := a_so S Y (a_HH S X Y) s
def a_lev (S : et_T) (X Y : Nat → Prop) (s c : Nat) : Prop := a_H S X Y c s ∧ ∀ r, r < c → ¬ a_H S X Y r s
theorem a_lev_u {S : et_T} {X Y : Nat → Prop} {s c d : Nat} (h1 : a_lev S X Y s c) (h2 : a_lev S X Y s d) : c = d := by
  rcases Nat.lt_trichotomy c d with h | h | h
  · exact absurd h1.1 (h2.2 c h)
  · exact h
  · exact absurd h2.1 (h1.2 d h)
theorem a_lev_1 {S : et_T} {X Y : Nat → Prop} {s c : Nat} (h : a_lev S X Y s c) : 1 ≤ c := by
  rcases Nat.eq_zero_or_pos c with e | e
  · subst e; exact h.1.elim
  · exact e
theorem a_HH_n {S : et_T} {X Y : Nat → Prop} {s : Nat} (h : a_HH S X Y s) : s < S 61 50 ∧ X s := by
  obtain ⟨r, h⟩ := h
  cases r with
  | zero => exact h.elim
  | succ r => exact ⟨h.1, h.2.1⟩
/-- what one could say in the end, told by T -/
def a_cl (S : et_T) (T : Nat → Prop) (p h : Nat) : Nat → Nat → Prop
  | 0, _ => False
  | r + 1, t => a_cs S T (a_cl S T p h r) p h t
def a_CL (S : et_T) (T : Nat → Prop) (p h t : Nat) : Prop := ∃ r, a_cl S T p h r t
theorem a_cl_s {S : et_T} {T : Nat → Prop} {p h : Nat} : ∀ r t, a_cl S T p h r t → a_cl S T p h (r + 1) t := by
  intro r
  induction r with
  | zero => intro t h; exact h.elim
  | succ r ih => intro t h; exact a_cs_m (fun _ h => h) ih h
theorem a_cl_m {S : et_T} {T : Nat → Prop} {p h r q t : Nat} (hq : r ≤ q) (k : a_cl S T p h r t) : a_cl S T p h q t := by
  induction q with
  | zero => rw [show r = 0 from by omega] at k; exact k
  | succ q ih =>
    by_cases e : r = q + 1
    · subst e; exact k
    · exact a_cl_s q t (ih (by omega))
/-- a set that is closed holds all of it -/
theorem a_CL_le {S : et_T} {T D : Nat → Prop} {p h : Nat} (hc : ∀ t, a_cs S T D p h t → D t) {t : Nat} (k : a_CL S T p h t) : D t := by
  obtain ⟨r, k⟩ := k
  revert t
  induction r with
  | zero => intro t k; exact k.elim
  | succ r ih => intro t k; exact hc t (a_cs_m (fun _ h => h) (fun u hu => ih hu) k)
/-- finitely many have come by one round -/
theorem a_fin {P : Nat → Nat → Prop} (hm : ∀ r q i, r ≤ q → P r i → P q i) : ∀ N, ∃ R, ∀ i, i < N → (∃ r, P r i) → P R i := by
  intro N
  induction N with
  | zero => exact ⟨0, fun i hi => by omega⟩
  | succ N ih =>
    obtain ⟨R, hR⟩ := ih
    by_cases h : ∃ r, P r N
    · obtain ⟨r, hr⟩ := h
      refine ⟨R + r, fun i hi hp => ?_⟩
      by_cases e : i = N
      · subst e; exact hm r _ i (by omega) hr
      · exact hm R _ i (by omega) (hR i (by omega) hp)
    · refine ⟨R, fun i hi hp => ?_⟩
      by_cases e : i = N
      · subst e; exact absurd hp h
      · exact hR i (by omega) hp
theorem a_CL_cl {S : et_T} (hw : wf_town S) {T : Nat → Prop} {p h t : Nat} (k : a_cs S T (a_CL S T p h) p h t) : a_CL S T p h t := by
  obtain ⟨R, hR⟩ := a_fin (P := fun r i => a_cl S T p h r i) (fun r q i h1 h2 => a_cl_m h1 h2) (S 61 5)
  refine ⟨R + 1, a_cs_m (C := fun u => u < S 61 5 ∧ a_CL S T p h u) (fun _ h => h) (fun u hu => hR u hu.1 hu.2) ?_⟩
  obtain ⟨h0, w, hw1, h1⟩ := k
  refine ⟨h0, w, hw1, ?_⟩
  rcases h1 with k | k | k | k | k
  · exact Or.inl k
  · exact Or.inr (Or.inl k)
  · exact Or.inr (Or.inr (Or.inl k))
  · refine Or.inr (Or.inr (Or.inr (Or.inl ⟨k.1, k.2.1, ?_⟩)))
    obtain ⟨r, r1, r2, r3⟩ := k.2.2
    exact ⟨r, r1, r2, fun j h1 h2 => ⟨(hw.2.2.2.2.2.2.2.2.1 r r1).2.2 j h2, r3 j h1 h2⟩⟩
  · omega
/-- the rounds' end is closed -/
theorem a_fin_T {S : et_T} {X Y : Nat → Prop} : ∃ R, ∀ s, a_HH S X Y s → a_H S X Y R s := by
  obtain ⟨R, hR⟩ := a_fin (P := fun r i => a_H S X Y r i) (fun r q i h1 h2 => a_Hm h1 h2) (S 61 50)
  exact ⟨R, fun s h => hR s (a_HH_n h).1 h⟩
theorem a_C_CL {S : et_T} (hw : wf_town S) {X Y : Nat → Prop} {p h t : Nat} : (∃ r, a_C S X Y r p h t) ↔ a_CL S (a_TT S X Y) p h t := by
  constructor
  · intro ⟨r, k⟩
    revert t
    induction r with
    | zero => intro t k; exact k.elim
    | succ r ih =>
      intro t k
      exact a_CL_cl hw (a_cs_m (fun i hi => ⟨⟨r, hi.1⟩, hi.2⟩) (fun u hu => ih hu) k)
  · obtain ⟨R, hR⟩ := a_fin_T (S := S) (X := X) (Y := Y)
    intro ⟨r, k⟩
    refine ⟨R + r, ?_⟩
    revert t
    induction r with
    | zero => intro t k; exact k.elim
    | succ r ih =>
      intro t k
      rw [show R + (r + 1) = (R + r) + 1 from by omega, a_Cs]
      exact a_cs_m (fun i hi => ⟨a_Hm (by omega) (hR i hi.1), hi.2⟩) (fun u hu => ih hu) k
theorem a_HH_cl {S : et_T} (hw : wf_town S) {X Y : Nat → Prop} {s : Nat} : a_HH S X Y s ↔ s < S 61 50 ∧ X s ∧ a_st S (a_TT S X Y) (a_CL S (a_TT S X Y)) Y s := by
  constructor
  · intro ⟨r, k⟩
    cases r with
    | zero => exact k.elim
    | succ r =>
      rw [a_Hs] at k
      exact ⟨k.1, k.2.1, a_st_m (fun i hi => ⟨⟨r, hi.1⟩, hi.2⟩) (fun p h t hc => (a_C_CL hw).mp ⟨r, hc⟩) k.2.2⟩
  · intro ⟨h1, h2, h3⟩
    obtain ⟨R, hR⟩ := a_fin_T (S := S) (X := X) (Y := Y)
    obtain ⟨R2, hR2⟩ := a_fin (P := fun r i => a_C S X Y r (S 84 (5 * s)) (S 84 (5 * s + 1)) i) (fun r q i h1 h2 => a_Cm h1 h2) (S 61 5)
    refine ⟨R + R2 + 1, ?_⟩
    rw [a_Hs]
    refine ⟨h1, h2, ?_⟩
    have ht : ∀ i, a_TT S X Y i → a_T S X Y (R + R2) i := fun i hi => ⟨a_Hm (by omega) (hR i hi.1), hi.2⟩
    have hc : ∀ t, a_CL S (a_TT S X Y) (S 84 (5 * s)) (S 84 (5 * s + 1)) t → a_C S X Y (R + R2) (S 84 (5 * s)) (S 84 (5 * s + 1)) t := fun t k => by
      have ht5 : t < S 61 5 := by
        obtain ⟨r, k⟩ := k
        cases r with
        | zero => exact k.elim
        | succ r => exact k.1
      exact a_Cm (by omega) (hR2 t ht5 ((a_C_CL hw).mpr k))
    refine ⟨fun y => ?_, fun y => a_sh_m ht hc (h3.2 y)⟩
    obtain ⟨w, hw, h⟩ := h3.1 y
    exact ⟨w, hw, a_sh_m ht hc h⟩
