/-! village: the reader's states, and its small steps -/
def w_rd (k _j : Nat) : Bool := Nat.ble 15 k && Nat.ble k 28
def w_mr (k j : Nat) : Bool := (k == 61 && (Nat.ble 18 j && Nat.ble j 36)) || (Nat.ble 73 k && Nat.ble k 81)
def pq (g : et_G) : Prop := (∃ q, q ≤ 6 ∧ g.1 15 3 = nI q) ∧ Jb g
theorem pq_q {g g' : et_G} (e : g'.1 15 3 = g.1 15 3) (r : ∀ j, g'.1 17 j = g.1 17 j) (p : pq g) : pq g' := by
  obtain ⟨⟨q, q1, q2⟩, J⟩ := p
  exact ⟨⟨q, q1, by rw [e]; exact q2⟩, fun j hj => by rw [r]; exact J j hj⟩
/-- the class is to read on from i; it holds the token from a on; it has found a fault -/
def kC (S : et_T) (n i : Nat) (g0 g : et_G) : Prop := fq w_rd g0 g ∧ (∀ j, j < 800 → g.1 1 j = c8 (S 71 j)) ∧ g.1 28 1 = nI n ∧ g.1 28 2 = nI i ∧ i ≤ n ∧ g.1 28 9 = nI 0 ∧ g.1 28 10 = -1 ∧ pq g
def tC (S : et_T) (n a : Nat) (g0 g : et_G) : Prop := kC S n (tkE S n a) g0 g ∧ tkC S n a g ∧ a ≤ n
def fC (n f a : Nat) (g0 g : et_G) : Prop := fq w_rd g0 g ∧ g.1 28 9 = nI f ∧ g.1 28 10 = nI a ∧ pq g ∧ 1 ≤ f ∧ f ≤ 5 ∧ a ≤ n
def uM (S : et_T) (n a : Nat) (h0 h : et_G) : Prop := fq w_mr h0 h ∧ (∀ j, j < 800 → h.1 71 j = nI (S 71 j)) ∧ h.1 61 21 = nI n ∧ tkM S n a h ∧ a ≤ n ∧ h.1 61 18 = nI 0 ∧ h.1 61 19 = -1
def fM (n f a : Nat) (h0 h : et_G) : Prop := fq w_mr h0 h ∧ h.1 61 18 = nI f ∧ h.1 61 19 = nI a ∧ 1 ≤ f ∧ f ≤ 5 ∧ a ≤ n
noncomputable def nuF (S : et_T) (n a lo m : Nat) : Nat := io (tkK S n a = 2) (io (tkE S n a - a ≤ 3 ∧ lo ≤ tkV S n a ∧ tkV S n a ≤ m) 0 2) 1
noncomputable def onF (S : et_T) (n a m : Nat) : Nat := io (tkK S n a = 2) (io (tkE S n a - a ≤ 3) (io (tkV S n a < m) 0 3) 2) 1
noncomputable def leF (S : et_T) (n a : Nat) : Nat := io (tkK S n a = 1) (io (tkE S n a - a ≤ 8) 0 2) 1
def e2 {α β : Type} (F : Option (α × et_G)) (G : Option (β × et_G)) (Q : α → et_G → β → et_G → Prop) : Prop := ∃ a g b h, F = some (a, g) ∧ G = some (b, h) ∧ Q a g b h
section E2
variable {α β γ : Type} {F : Option (α × et_G)} {G : Option (β × et_G)} {Q : α → et_G → β → et_G → Prop}
theorem e2_q {a : α} {g : et_G} {b : β} {h : et_G} (k : Q a g b h) : e2 (some (a, g)) (some (b, h)) Q := ⟨a, g, b, h, rfl, rfl, k⟩
theorem e2_l {H : Option (γ × et_G)} {f : γ → et_G → Option (α × et_G)} {P : γ → et_G → Prop} (h : ev_Q H P) (k : ∀ a g, P a g → e2 (f a g) G Q) : e2 (et_bd H f) G Q := by
  obtain ⟨a, g, e, p⟩ := h
  rw [e]; exact k a g p
theorem e2_r {H : Option (γ × et_G)} {f : γ → et_G → Option (β × et_G)} {P : γ → et_G → Prop} (h : ev_Q H P) (k : ∀ a g, P a g → e2 F (f a g) Q) : e2 F (et_bd H f) Q := by
  obtain ⟨a, g, e, p⟩ := h
  rw [e]; exact k a g p
theorem e2_b {x : γ} {f : γ → Option (α × et_G)} (h : e2 (f x) G Q) : e2 (et_b x f) G Q := h
theorem e2_d {x : γ} {f : γ → Option (β × et_G)} (h : e2 F (f x) Q) : e2 F (et_b x f) Q := h
theorem e2_k {c : Bool} (hc : c = true) (h : e2 F G Q) : e2 (et_ck c F) G Q := by rw [hc]; exact h
theorem e2_m {c : Bool} (hc : c = true) (h : e2 F G Q) : e2 F (et_ck c G) Q := by rw [hc]; exact h
theorem e2_w {P : α → et_G → β → et_G → Prop} (h : e2 F G P) (k : ∀ a g b h, P a g b h → Q a g b h) : e2 F G Q := by
  obtain ⟨a, g, b, h', e1, e3, p⟩ := h
  exact ⟨a, g, b, h', e1, e3, k a g b h' p⟩
theorem e2_n (h : ev_Q F (fun a g => ev_Q G (fun b h => Q a g b h))) : e2 F G Q := by
  obtain ⟨a, g, e, b, h, e1, p⟩ := h
  exact ⟨a, g, b, h, e, e1, p⟩
theorem e2_bl {H : Option (γ × et_G)} {f : γ → et_G → Option (α × et_G)} {P : γ → et_G → β → et_G → Prop} (h : e2 H G P) (k : ∀ c g b h', P c g b h' → ev_Q (f c g) (fun a g' => Q a g' b h')) : e2 (et_bd H f) G Q := by
  obtain ⟨c, g, b, h', e1, e3, p⟩ := h
  obtain ⟨a, g', e4, q⟩ := k c g b h' p
  rw [e1, e3]
  exact ⟨a, g', b, h', e4, rfl, q⟩
end E2
theorem st_rd {g g' : et_G} (h : fq w_st g g') : fq w_rd g g' := fq_w h (fun k j e => by
  cases q : w_st k j with
  | false => rfl
  | true =>
    unfold w_st at q
    simp only [Bool.and_eq_true, beq_iff_eq] at q
    rw [q.1] at e; cases e)
theorem ms_mr {g g' : et_G} (h : fq w_ms g g') : fq w_mr g g' := fq_w h (fun k j e => by
  cases q : w_ms k j with
  | false => rfl
  | true =>
    unfold w_ms at q
    simp only [Bool.and_eq_true, beq_iff_eq, Nat.ble_eq] at q
    unfold w_mr at e
    simp only [Bool.or_eq_false_iff, q.1, beq_self_eq_true, Bool.true_and, Nat.ble_eq_true_of_le (show 18 ≤ j by omega), Nat.ble_eq_true_of_le (show j ≤ 36 by omega)] at e
    exact absurd e.1 (by decide))
section PR
variable {S : et_T} {n : Nat} {g0 h0 : et_G}
theorem tkFE {a : Nat} (h1 : 1 ≤ tkK S n a) (h3 : tkK S n a ≤ 3) : tkF S n a = tkE S n a ∧ a < tkE S n a ∧ tkE S n a ≤ n := by
  have : tkK S n a = 1 ∨ tkK S n a = 2 ∨ tkK S n a = 3 := by omega
  rcases this with h | h | h
  · obtain ⟨e0, e1, e2, e3, e4, e5, e6⟩ := tx_1 h; omega
  · obtain ⟨e0, e1, e2, e3, e4, e5⟩ := tx_2 h; omega
  · obtain ⟨e0, e1, e2⟩ := tx_3 h; omega
theorem nuF_0 {a lo m : Nat} (h : nuF S n a lo m = 0) : tkK S n a = 2 ∧ tkE S n a - a ≤ 3 ∧ lo ≤ tkV S n a ∧ tkV S n a ≤ m := by
  unfold nuF at h
  by_cases q : tkK S n a = 2
  · rw [io_t q] at h
    by_cases z : tkE S n a - a ≤ 3 ∧ lo ≤ tkV S n a ∧ tkV S n a ≤ m
    · exact ⟨q, z⟩
    · rw [io_f z] at h; cases h
  · rw [io_f q] at h; cases h
theorem onF_0 {a m : Nat} (h : onF S n a m = 0) : tkK S n a = 2 ∧ tkE S n a - a ≤ 3 ∧ tkV S n a < m := by
  unfold onF at h
  by_cases q : tkK S n a = 2
  · rw [io_t q] at h
    by_cases z : tkE S n a - a ≤ 3
    · rw [io_t z] at h
      by_cases y : tkV S n a < m
      · exact ⟨q, z, y⟩
      · rw [io_f y] at h; cases h
    · rw [io_f z] at h; cases h
  · rw [io_f q] at h; cases h
theorem leF_0 {a : Nat} (h : leF S n a = 0) : tkK S n a = 1 ∧ tkE S n a - a ≤ 8 := by
  unfold leF at h
  by_cases q : tkK S n a = 1
  · rw [io_t q] at h
    by_cases z : tkE S n a - a ≤ 8
    · exact ⟨q, z⟩
    · rw [io_f z] at h; cases h
  · rw [io_f q] at h; cases h
/-! the class -/
theorem kC_s {i k j : Nat} {g : et_G} {x : Int32} (c : kC S n i g0 g) (h : ((Nat.ble 15 k && Nat.ble k 27 && !(k == 15 && j == 3) && !(k == 17)) || (k == 28 && (j == 7 || j == 8))) = true) : kC S n i g0 (et_si g k j x) := by
  obtain ⟨f, ht, h1, h2, hi, h9, h10, q⟩ := c
  have hk : (15 ≤ k ∧ k ≤ 27 ∧ (k = 15 → j ≠ 3) ∧ k ≠ 17) ∨ (k = 28 ∧ (j = 7 ∨ j = 8)) := by
    simp only [Bool.or_eq_true, Bool.and_eq_true, beq_iff_eq, Nat.ble_eq, Bool.not_eq_true', Bool.and_eq_false_iff, beq_eq_false_iff_ne] at h
    omega
  refine ⟨fq_s f ?_, fun j' hj => ?_, ?_, ?_, hi, ?_, ?_, pq_q (by rw [si_g, if_neg (by omega)]) (fun j' => by rw [si_g, if_neg (by omega)]) q⟩
  · unfold w_rd; rw [Nat.ble_eq.mpr (show 15 ≤ k by omega), Nat.ble_eq.mpr (show k ≤ 28 by omega)]; rfl
  · rw [si_x (by omega)]; exact ht j' hj
  all_goals
    rw [si_g, if_neg (by omega)]; assumption
theorem stp_c {i : Nat} {g : et_G} (hn : n ≤ 800) (hb8 : ∀ i, i < 800 → S 71 i < 256) (c : kC S n i g0 g) : ev_Q (fn_Re_step g) (fun _ g' => tC S n (bk S n i) g0 g' ∧ fq w_st g g') := by
  obtain ⟨f, ht, h1, h2, hi, h9, h10, q⟩ := c
  have b := bk_b S hi
  refine ev_w (st_c hn hb8 hi ht h1 h2) (fun _ g' ⟨t, w⟩ => ⟨⟨⟨fq_t f (st_rd w), fun j hj => ?_, ?_, t.2.2.1, (tkE_b b.2).2, ?_, ?_, pq_q (w.1 15 3 rfl) (fun j => w.1 17 j rfl) q⟩, t, b.2⟩, w⟩)
  · rw [w.1 1 j rfl]; exact ht j hj
  · rw [w.1 28 1 rfl]; exact h1
  · rw [w.1 28 9 rfl]; exact h9
  · rw [w.1 28 10 rfl]; exact h10
theorem ref_c {a f : Nat} {g : et_G} (t : tC S n a g0 g) (hf : 1 ≤ f ∧ f ≤ 5) : ev_Q (fn_Re_refuse (nI f) g) (fun v g' => v = 0 ∧ fC n f a g0 g') := by
  obtain ⟨⟨f0, ht, h1, h2, hi, h9, h10, q⟩, ⟨t4, t3, t2, t5, t6⟩, ha⟩ := t
  unfold fn_Re_refuse
  refine eb_q (eb_q (ev_r ⟨rfl, fq_s (fq_s f0 rfl) rfl, ?_, ?_, pq_q (by rw [si_x (by decide), si_x (by decide)]) (fun j => by rw [si_x (by decide), si_x (by decide)]) q, hf.1, hf.2, ha⟩))
  · rw [si_j (by decide), si_e]
  · rw [si_e, si_j (by decide), t4]
theorem isn_1 {a m : Nat} {g : et_G} (hn : n ≤ 800) (t : tC S n a g0 g) (hm : m < 2 ^ 31) (hf : nuF S n a 0 m = 0) : fn_Re_isNumber (nI m) g = some (1, g) := by
  obtain ⟨f1, f2, f3, f4⟩ := nuF_0 hf
  obtain ⟨-, ⟨t4, t3, t2, t5, t6⟩, ha⟩ := t
  unfold fn_Re_isNumber
  rw [t3, t5, t6, f1, if_pos (show nI 2 = (2 : Int32) from rfl), if_neg (show ¬ (3 : Int32) < nI (tkE S n a - a) from nI_nlt (a := 3) f2 (by decide)), if_pos (nI_le f4 hm)]
theorem isn_0 {a m : Nat} {g : et_G} (hn : n ≤ 800) (t : tC S n a g0 g) (hm : m < 2 ^ 31) (hf : ¬ nuF S n a 0 m = 0) : ev_Q (fn_Re_isNumber (nI m) g) (fun v g' => v = 0 ∧ fC n (nuF S n a 0 m) a g0 g') := by
  have T := t
  obtain ⟨-, ⟨t4, t3, t2, t5, t6⟩, ha⟩ := t
  have k4 := tkK_4 (S := S) n a
  have eb := tkE_b (S := S) ha
  unfold fn_Re_isNumber
  rw [t3, t5, t6]
  have R : ev_Q (fn_Re_isNumber_30 g) (fun v g' => v = 0 ∧ fC n 2 a g0 g') := by
    unfold fn_Re_isNumber_30
    refine ev_d (ref_c T (f := 2) (by decide)) (fun v g' ⟨e, c⟩ => ?_)
    rw [e, if_pos rfl]
    exact ev_r ⟨rfl, c⟩
  unfold nuF at hf ⊢
  by_cases q : tkK S n a = 2
  · rw [io_t q] at hf ⊢
    have v9 := (tx_2 q).2.2.2.2.2
    rw [q, if_pos (show nI 2 = (2 : Int32) from rfl)]
    by_cases z : tkE S n a - a ≤ 3 ∧ 0 ≤ tkV S n a ∧ tkV S n a ≤ m
    · rw [io_t z] at hf; exact absurd rfl hf
    · rw [io_f z]
      by_cases z1 : tkE S n a - a ≤ 3
      · rw [if_neg (show ¬ (3 : Int32) < nI (tkE S n a - a) from nI_nlt (a := 3) z1 (by decide)), if_neg (nI_ge (by omega) (by omega))]
        exact R
      · rw [if_pos (show (3 : Int32) < nI (tkE S n a - a) from nI_lt (a := 3) (by omega) (by omega))]
        exact R
  · rw [io_f q]
    rw [if_neg (nq2 q (by omega))]
    refine ev_d (ref_c T (f := 1) (by decide)) (fun v g' ⟨e, c⟩ => ?_)
    rw [e]
    exact ev_r ⟨rfl, c⟩
theorem num_c1 {i m : Nat} {g : et_G} (hn : n ≤ 800) (hb8 : ∀ i, i < 800 → S 71 i < 256) (c : kC S n i g0 g) (hm : m < 2 ^ 31) (hf : nuF S n (bk S n i) 0 m = 0) : ev_Q (fn_Re_number (nI m) g) (fun v g' => v = 1 ∧ tC S n (bk S n i) g0 g' ∧ fq w_st g g') := by
  unfold fn_Re_number
  refine ev_d (stp_c hn hb8 c) (fun _ g' ⟨t, w⟩ => ?_)
  rw [isn_1 hn t hm hf, bd_s]
  exact ev_r ⟨rfl, t, w⟩
theorem num_c0 {i m : Nat} {g : et_G} (hn : n ≤ 800) (hb8 : ∀ i, i < 800 → S 71 i < 256) (c : kC S n i g0 g) (hm : m < 2 ^ 31) (hf : ¬ nuF S n (bk S n i) 0 m = 0) : ev_Q (fn_Re_number (nI m) g) (fun v g' => v = 0 ∧ fC n (nuF S n (bk S n i) 0 m) (bk S n i) g0 g') := by
  unfold fn_Re_number
  refine ev_d (stp_c hn hb8 c) (fun _ g' ⟨t, w⟩ => ?_)
  refine ev_d (isn_0 hn t hm hf) (fun v g1 ⟨e, d⟩ => ?_)
  rw [e]
  exact ev_r ⟨rfl, d⟩
theorem on_c1 {i m : Nat} {g : et_G} (hn : n ≤ 800) (hb8 : ∀ i, i < 800 → S 71 i < 256) (c : kC S n i g0 g) (hm : m < 2 ^ 31) (hf : onF S n (bk S n i) m = 0) : ev_Q (fn_Re_oneOf (nI m) g) (fun v g' => v = 1 ∧ tC S n (bk S n i) g0 g' ∧ fq w_st g g') := by
  obtain ⟨f1, f2, f3⟩ := onF_0 hf
  have v9 := (tx_2 f1).2.2.2.2.2
  unfold fn_Re_oneOf
  refine ev_d (stp_c hn hb8 c) (fun _ g' ⟨t, w⟩ => ?_)
  rw [show (999 : Int32) = nI 999 from rfl, isn_1 hn t (by decide) (by unfold nuF; rw [io_t f1, io_t ⟨f2, Nat.zero_le _, v9⟩]), bd_s, if_neg (by decide), t.2.1.2.2.2.2, if_pos (nI_lt f3 hm)]
  exact ev_r ⟨rfl, t, w⟩
theorem on_c0 {i m : Nat} {g : et_G} (hn : n ≤ 800) (hb8 : ∀ i, i < 800 → S 71 i < 256) (c : kC S n i g0 g) (hm : m < 2 ^ 31) (hf : ¬ onF S n (bk S n i) m = 0) : ev_Q (fn_Re_oneOf (nI m) g) (fun v g' => v = 0 ∧ fC n (onF S n (bk S n i) m) (bk S n i) g0 g') := by
  unfold fn_Re_oneOf
  refine ev_d (stp_c hn hb8 c) (fun _ g' ⟨t, w⟩ => ?_)
  rw [show (999 : Int32) = nI 999 from rfl]
  have N : ∀ x, nuF S n (bk S n i) 0 999 = x → ¬ x = 0 → x = onF S n (bk S n i) m → ev_Q (et_bd (fn_Re_isNumber (nI 999) g') (fun v3 g4 => if v3 = 0 then some ((0 : Int32), g4) else if (g4.1 28 6) < nI m then some ((1 : Int32), g4) else et_bd (fn_Re_refuse (3 : Int32) g4) (fun v5 g6 => if v5 = 0 then some ((0 : Int32), g6) else some ((1 : Int32), g6)))) (fun v g' => v = 0 ∧ fC n (onF S n (bk S n i) m) (bk S n i) g0 g') := fun x ex nx ox => by
    refine ev_d (isn_0 hn t (by decide) (by rw [ex]; exact nx)) (fun v g1 ⟨e, d⟩ => ?_)
    rw [e, if_pos rfl, ← ox, ← ex]
    exact ev_r ⟨rfl, d⟩
  unfold onF at hf N ⊢
  by_cases q : tkK S n (bk S n i) = 2
  · have v9 := (tx_2 q).2.2.2.2.2
    by_cases z : tkE S n (bk S n i) - bk S n i ≤ 3
    · by_cases y : tkV S n (bk S n i) < m
      · rw [io_t q, io_t z, io_t y] at hf; exact absurd rfl hf
      · rw [isn_1 hn t (by decide) (by unfold nuF; rw [io_t q, io_t ⟨z, Nat.zero_le _, v9⟩]), bd_s, if_neg (by decide), t.2.1.2.2.2.2, if_neg (nI_nlt (by omega) (by omega))]
        refine ev_d (ref_c t (f := 3) (by decide)) (fun v g1 ⟨e, d⟩ => ?_)
        rw [e, if_pos rfl, io_t q, io_t z, io_f y]
        exact ev_r ⟨rfl, d⟩
    · exact N 2 (by unfold nuF; rw [io_t q, io_f (fun w => z w.1)]) (by decide) (by rw [io_t q, io_f z])
  · exact N 1 (by unfold nuF; rw [io_f q]) (by decide) (by rw [io_f q])
/-! the model -/
theorem uM_s {a k j : Nat} {h : et_G} {x : Int32} (t : uM S n a h0 h) (hk : ((Nat.ble 73 k && Nat.ble k 81) || (k == 61 && Nat.ble 28 j && Nat.ble j 36)) = true) : uM S n a h0 (et_si h k j x) := by
  obtain ⟨f, ht, h1, ⟨t4, t3, t2, t5, t6, t7⟩, ha, h18, h19⟩ := t
  have hk' : (73 ≤ k ∧ k ≤ 81) ∨ (k = 61 ∧ 28 ≤ j ∧ j ≤ 36) := by
    simp only [Bool.or_eq_true, Bool.and_eq_true, beq_iff_eq, Nat.ble_eq] at hk
    omega
  refine ⟨fq_s f ?_, fun j' hj => ?_, ?_, ⟨?_, ?_, ?_, ?_, ?_, t7⟩, ha, ?_, ?_⟩
  · unfold w_mr
    rcases hk' with w | w
    · rw [Nat.ble_eq.mpr w.1, Nat.ble_eq.mpr w.2]; simp
    · rw [w.1, Nat.ble_eq.mpr (show 18 ≤ j by omega), Nat.ble_eq.mpr w.2.2]; rfl
  · rw [si_x (by omega)]; exact ht j' hj
  all_goals
    rw [si_g, if_neg (by omega)]; assumption
theorem stp_m {a : Nat} {h : et_G} (hn : n ≤ 800) (hb8 : ∀ i, i < 800 → S 71 i < 256) (t : uM S n a h0 h) (k1 : 1 ≤ tkK S n a) (k3 : tkK S n a ≤ 3) : ev_Q (fn_Mo_steps h) (fun _ h' => uM S n (bk S n (tkE S n a)) h0 h' ∧ fq w_ms h h') := by
  obtain ⟨f, ht, h1, ⟨t4, t3, t2, t5, t6, t7⟩, ha, h18, h19⟩ := t
  obtain ⟨e1, e2, e3⟩ := tkFE k1 k3
  refine ev_w (sm_c hn hb8 e3 ht h1 (by rw [t2, e1])) (fun _ h' ⟨t, w⟩ => ⟨⟨fq_t f (ms_mr w), fun j hj => ?_, ?_, t, (bk_b S e3).2, ?_, ?_⟩, w⟩)
  · rw [w.1 71 j rfl]; exact ht j hj
  · rw [w.1 61 21 rfl]; exact h1
  · rw [w.1 61 18 rfl]; exact h18
  · rw [w.1 61 19 rfl]; exact h19
theorem fau_m {a f : Nat} {h : et_G} (t : uM S n a h0 h) (hf : 1 ≤ f ∧ f ≤ 5) : ev_Q (fn_Mo_faults (nI f) h) (fun _ h' => fM n f a h0 h' ∧ fq w_mr h h') := by
  obtain ⟨f0, ht, h1, ⟨t4, t3, t2, t5, t6, t7⟩, ha, h18, h19⟩ := t
  unfold fn_Mo_faults
  rw [h18, if_pos nI_0]
  refine eb_q (eb_q (ev_r ⟨⟨fq_s (fq_s f0 rfl) rfl, ?_, ?_, hf.1, hf.2, ha⟩, fq_s (fq_s (fq_r _ _) rfl) rfl⟩))
  · rw [si_j (by decide), si_e]
  · rw [si_e, si_j (by decide), t4]
theorem fM_n {f a : Nat} {h : et_G} (t : fM n f a h0 h) : ¬ h.1 61 18 = 0 := fun e => by
  obtain ⟨f0, h18, h19, f1, f5, ha⟩ := t
  rw [h18] at e
  have := (nI_eq (b := 0) (by omega) (by decide)).mp e
  omega
theorem gd_0 {f a : Nat} {h : et_G} (t : fM n f a h0 h) : fn_Mo_isGood h = some (0, h) := by
  unfold fn_Mo_isGood
  rw [if_neg (fM_n t)]
theorem gd_1 {a : Nat} {h : et_G} (t : uM S n a h0 h) : fn_Mo_isGood h = some (1, h) := by
  unfold fn_Mo_isGood
  rw [t.2.2.2.2.2.1, if_pos nI_0]
theorem fau_0 {f a : Nat} {h : et_G} {x : Int32} (t : fM n f a h0 h) : fn_Mo_faults x h = some ((), h) := by
  unfold fn_Mo_faults
  rw [if_neg (fM_n t)]
theorem ned_0 {f a : Nat} {h : et_G} {x : Int32} (t : fM n f a h0 h) : fn_Mo_need x h = some ((), h) := by
  unfold fn_Mo_need
  rw [gd_0 t, bd_s, if_pos rfl]
theorem l47_0 {f a : Nat} {h : et_G} (t : fM n f a h0 h) : fn_Mo_line_470 h = some ((), h) := by
  unfold fn_Mo_line_470 fn_Mo_line_484
  rw [ned_0 t, ned_0 t, bd_s]
  split <;> rfl
theorem num_0 {f a : Nat} {h : et_G} {x y : Int32} (t : fM n f a h0 h) : fn_Mo_number x y h = some (0, h) := by
  unfold fn_Mo_number
  rw [gd_0 t, bd_s, if_pos rfl]
theorem amh_0 {f a : Nat} {h : et_G} {x : Int32} (t : fM n f a h0 h) : fn_Mo_amongHere x h = some (0, h) := by
  unfold fn_Mo_amongHere
  rw [gd_0 t, bd_s, if_pos rfl]
theorem am_0 {f a : Nat} {h : et_G} {x : Int32} (t : fM n f a h0 h) : fn_Mo_among x h = some (0, h) := by
  unfold fn_Mo_among fn_Mo_among_16
  rw [amh_0 t, bd_s, if_pos rfl, gd_0 t, bd_s, if_pos rfl]
theorem num_m1 {a lo m : Nat} {h : et_G} (hn : n ≤ 800) (hb8 : ∀ i, i < 800 → S 71 i < 256) (t : uM S n a h0 h) (hm : m < 2 ^ 31) (hf : nuF S n a lo m = 0) : ev_Q (fn_Mo_number (nI lo) (nI m) h) (fun v h' => v = nI (tkV S n a) ∧ uM S n (bk S n (tkE S n a)) h0 h' ∧ fq w_ms h h') := by
  obtain ⟨f1, f2, f3, f4⟩ := nuF_0 hf
  have T := t
  obtain ⟨f, ht, h1, ⟨t4, t3, t2, t5, t6, t7⟩, ha, h18, h19⟩ := t
  unfold fn_Mo_number
  rw [gd_1 T, bd_s, if_neg (by decide), t3, t5, t6, f1, (tkFE (S := S) (n := n) (a := a) (by omega) (by omega)).1, if_pos (show nI 2 = (2 : Int32) from rfl), if_neg (show ¬ (3 : Int32) < nI (tkE S n a - a) from nI_nlt (a := 3) f2 (by decide)), if_neg (nI_nlt f3 (by omega)), if_pos (nI_le f4 hm)]
  unfold fn_Mo_number_54
  refine eb_q ?_
  rw [gd_1 T, bd_s, if_neg (by decide)]
  refine ev_d (stp_m hn hb8 T (by omega) (by omega)) (fun _ h' ⟨t, w⟩ => ?_)
  exact ev_r ⟨t6, t, w⟩
theorem n54_0 {f a : Nat} {h : et_G} (t : fM n f a h0 h) : ev_Q (fn_Mo_number_54 h) (fun _ h' => h' = h) := by
  unfold fn_Mo_number_54
  refine eb_q ?_
  rw [gd_0 t, bd_s, if_pos rfl]
  exact ev_r rfl
theorem num_m0 {a lo m : Nat} {h : et_G} (hn : n ≤ 800) (t : uM S n a h0 h) (hm : m < 2 ^ 31) (hlo : lo < 2 ^ 31) (hf : ¬ nuF S n a lo m = 0) : ev_Q (fn_Mo_number (nI lo) (nI m) h) (fun _ h' => fM n (nuF S n a lo m) a h0 h' ∧ fq w_mr h h') := by
  have T := t
  obtain ⟨f, ht, h1, ⟨t4, t3, t2, t5, t6, t7⟩, ha, h18, h19⟩ := t
  have k4 := tkK_4 (S := S) n a
  have eb := tkE_b (S := S) ha
  unfold fn_Mo_number
  rw [gd_1 T, bd_s, if_neg (by decide), t3, t5, t6]
  have R : ev_Q (fn_Mo_number_49 h) (fun _ h' => fM n 2 a h0 h' ∧ fq w_mr h h') := by
    unfold fn_Mo_number_49
    refine ev_d (fau_m T (f := 2) (by decide)) (fun _ h' ⟨c, w⟩ => ?_)
    exact ev_w (n54_0 c) (fun _ h2 e => by rw [e]; exact ⟨c, w⟩)
  unfold nuF at hf ⊢
  by_cases q : tkK S n a = 2
  · rw [io_t q] at hf ⊢
    have v9 := (tx_2 q).2.2.2.2.2
    rw [q, (tkFE (S := S) (n := n) (a := a) (by omega) (by omega)).1, if_pos (show nI 2 = (2 : Int32) from rfl)]
    by_cases z : tkE S n a - a ≤ 3 ∧ lo ≤ tkV S n a ∧ tkV S n a ≤ m
    · rw [io_t z] at hf; exact absurd rfl hf
    · rw [io_f z]
      by_cases z1 : tkE S n a - a ≤ 3
      · rw [if_neg (show ¬ (3 : Int32) < nI (tkE S n a - a) from nI_nlt (a := 3) z1 (by decide))]
        by_cases z2 : tkV S n a < lo
        · rw [if_pos (nI_lt z2 hlo)]; exact R
        · rw [if_neg (nI_nlt (by omega) (by omega)), if_neg (nI_ge (by omega) (by omega))]
          exact R
      · rw [if_pos (show (3 : Int32) < nI (tkE S n a - a) from nI_lt (a := 3) (by omega) (by omega))]
        exact R
  · rw [io_f q]
    rw [if_neg (nq2 q (by omega))]
    refine ev_d (fau_m T (f := 1) (by decide)) (fun _ h' ⟨c, w⟩ => ?_)
    exact ev_w (n54_0 c) (fun _ h2 e => by rw [e]; exact ⟨c, w⟩)
theorem amh_m1 {a m : Nat} {h : et_G} (t : uM S n a h0 h) (hm : m < 2 ^ 31) (hf : onF S n a m = 0) : fn_Mo_amongHere (nI m) h = some (1, h) := by
  obtain ⟨f1, f2, f3⟩ := onF_0 hf
  have T := t
  obtain ⟨f, ht, h1, ⟨t4, t3, t2, t5, t6, t7⟩, ha, h18, h19⟩ := t
  unfold fn_Mo_amongHere fn_Mo_amongHere_54
  rw [gd_1 T, bd_s, if_neg (by decide), t3, t5, t6, f1, (tkFE (S := S) (n := n) (a := a) (by omega) (by omega)).1, if_pos (show nI 2 = (2 : Int32) from rfl), if_pos (show nI (tkE S n a - a) ≤ (3 : Int32) from nI_le (b := 3) f2 (by decide)), if_pos (nI_lt f3 hm), gd_1 T, bd_s]
  rfl
theorem amh_m0 {a m : Nat} {h : et_G} (hn : n ≤ 800) (t : uM S n a h0 h) (hf : ¬ onF S n a m = 0) : ev_Q (fn_Mo_amongHere (nI m) h) (fun v h' => v = 0 ∧ fM n (onF S n a m) a h0 h' ∧ fq w_mr h h') := by
  have T := t
  obtain ⟨f, ht, h1, ⟨t4, t3, t2, t5, t6, t7⟩, ha, h18, h19⟩ := t
  have k4 := tkK_4 (S := S) n a
  have eb := tkE_b (S := S) ha
  have R : ∀ x, 1 ≤ x ∧ x ≤ 5 → ev_Q (et_bd (fn_Mo_faults (nI x) h) (fun _ g8 => fn_Mo_amongHere_54 g8)) (fun v h' => v = 0 ∧ fM n x a h0 h' ∧ fq w_mr h h') := fun x hx => by
    refine ev_d (fau_m T hx) (fun _ h' ⟨c, w⟩ => ?_)
    unfold fn_Mo_amongHere_54
    rw [gd_0 c, bd_s]
    exact ev_r ⟨rfl, c, w⟩
  unfold fn_Mo_amongHere
  rw [gd_1 T, bd_s, if_neg (by decide), t3, t5, t6]
  unfold onF at hf ⊢
  by_cases q : tkK S n a = 2
  · rw [io_t q] at hf ⊢
    have v9 := (tx_2 q).2.2.2.2.2
    rw [q, (tkFE (S := S) (n := n) (a := a) (by omega) (by omega)).1, if_pos (show nI 2 = (2 : Int32) from rfl)]
    by_cases z : tkE S n a - a ≤ 3
    · rw [io_t z] at hf ⊢
      by_cases y : tkV S n a < m
      · rw [io_t y] at hf; exact absurd rfl hf
      · rw [io_f y, if_pos (show nI (tkE S n a - a) ≤ (3 : Int32) from nI_le (b := 3) z (by decide)), if_neg (nI_nlt (by omega) (by omega))]
        exact R 3 (by decide)
    · rw [io_f z, if_neg (show ¬ nI (tkE S n a - a) ≤ (3 : Int32) from nI_ge (a := 3) (by omega) (by omega))]
      exact R 2 (by decide)
  · rw [io_f q, if_neg (nq2 q (by omega))]
    exact R 1 (by decide)
theorem am_m1 {a m : Nat} {h : et_G} (hn : n ≤ 800) (hb8 : ∀ i, i < 800 → S 71 i < 256) (t : uM S n a h0 h) (hm : m < 2 ^ 31) (hf : onF S n a m = 0) : ev_Q (fn_Mo_among (nI m) h) (fun v h' => v = nI (tkV S n a) ∧ uM S n (bk S n (tkE S n a)) h0 h' ∧ fq w_ms h h') := by
  obtain ⟨f1, f2, f3⟩ := onF_0 hf
  unfold fn_Mo_among fn_Mo_among_16
  rw [amh_m1 t hm hf, bd_s, if_neg (by decide), gd_1 t, bd_s, if_neg (by decide)]
  refine ev_d (stp_m hn hb8 t (by omega) (by omega)) (fun _ h' ⟨t', w⟩ => ?_)
  exact ev_r ⟨t.2.2.2.1.2.2.2.2.1, t', w⟩
theorem am_m0 {a m : Nat} {h : et_G} (hn : n ≤ 800) (t : uM S n a h0 h) (hf : ¬ onF S n a m = 0) : ev_Q (fn_Mo_among (nI m) h) (fun _ h' => fM n (onF S n a m) a h0 h' ∧ fq w_mr h h') := by
  unfold fn_Mo_among fn_Mo_among_16
  refine ev_d (amh_m0 hn t hf) (fun v h' ⟨e, c, w⟩ => ?_)
  rw [e, if_pos rfl, gd_0 c, bd_s, if_pos rfl]
  exact ev_r ⟨c, w⟩
end PR
