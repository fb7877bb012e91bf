/-! village: a row of letters, read and kept on both sides -/
def wS (X : Nat → Nat → Bool) (k j : Nat) : Bool := w_st k j || X k j
def mS (X : Nat → Nat → Bool) (k j : Nat) : Bool := w_ms k j || X k j
theorem wS_l {X : Nat → Nat → Bool} {g g' : et_G} (h : fq w_st g g') : fq (wS X) g g' := fq_w h (fun k j e => by unfold wS at e; exact (Bool.or_eq_false_iff.mp e).1)
theorem mS_l {X : Nat → Nat → Bool} {g g' : et_G} (h : fq w_ms g g') : fq (mS X) g g' := fq_w h (fun k j e => by unfold mS at e; exact (Bool.or_eq_false_iff.mp e).1)
theorem wS_m {X Y : Nat → Nat → Bool} {g g' : et_G} (h : fq (wS X) g g') (xy : ∀ k j, Y k j = false → X k j = false) : fq (wS Y) g g' := fq_w h (fun k j e => by
  unfold wS at e ⊢
  have e := Bool.or_eq_false_iff.mp e
  exact Bool.or_eq_false_iff.mpr ⟨e.1, xy k j e.2⟩)
theorem mS_m {X Y : Nat → Nat → Bool} {g g' : et_G} (h : fq (mS X) g g') (xy : ∀ k j, Y k j = false → X k j = false) : fq (mS Y) g g' := fq_w h (fun k j e => by
  unfold mS at e ⊢
  have e := Bool.or_eq_false_iff.mp e
  exact Bool.or_eq_false_iff.mpr ⟨e.1, xy k j e.2⟩)
def cW (S : et_T) (s a m : Nat) (g g' : et_G) : Prop := g'.1 18 s = nI m ∧ (∀ j, j ≠ s → g'.1 18 j = g.1 18 j) ∧ (∀ i, i < m → g'.1 17 (8 * s + i) = nI (S 71 (a + i))) ∧ (∀ j, (j < 8 * s ∨ 8 * s + m ≤ j) → g'.1 17 j = g.1 17 j)
def mW (S : et_T) (K o a m : Nat) (h h' : et_G) : Prop := h'.1 K o = nI m ∧ (∀ i, i < m → h'.1 K (o + 1 + i) = nI (S 71 (a + i))) ∧ (∀ q, (q < o ∨ o + 9 ≤ q) → h'.1 K q = h.1 K q)
theorem fit_8 : ∀ b, b < 256 → fits .byte (.int (c8 b)) = true := by decide +kernel
theorem fit_l : ∀ b, b ≤ 122 → fits .byte (.int (nI b)) = true := by decide +kernel
section LE
variable {S : et_T} {n : Nat} {g0 h0 : et_G}
theorem le_c1 {i s : Nat} {g : et_G} (hn : n ≤ 800) (hb8 : ∀ i, i < 800 → S 71 i < 256) (c : kC S n i g0 g) (hs : s < 46) (hf : leF S n (bk S n i) = 0) : ev_Q (fn_Re_letters_16 (nI s) g) (fun v g' => v = 1 ∧ tC S n (bk S n i) g0 g' ∧ fq (wS (fun k _ => k == 17 || k == 18)) g g' ∧ cW S s (bk S n i) (tkE S n (bk S n i) - bk S n i) g g') := by
  obtain ⟨f1, f2⟩ := leF_0 hf
  unfold fn_Re_letters_16
  refine ev_d (stp_c hn hb8 c) (fun _ g1 ⟨t, w⟩ => ?_)
  obtain ⟨z0, z1, z2, z3, z4, z5, z6⟩ := tx_1 f1
  generalize bk S n i = a at f1 f2 t z0 z1 z2 z3 z4 z5 z6
  have T := t
  obtain ⟨⟨f0, ht, h1, h2, hi, h9, h10, q, J⟩, ⟨t4, t3, t2, t5, t6⟩, ha⟩ := t
  rw [t3, t4, t5, f1, if_pos (show nI 1 = (1 : Int32) from rfl), if_pos (show nI (tkE S n a - a) ≤ (8 : Int32) from nI_le (b := 8) f2 (by decide))]
  unfold fn_To_put_16_1
  rw [if_neg (show ¬ (8 : Int32) < nI (tkE S n a - a) from nI_nlt (a := 8) f2 (by decide)), if_neg (show ¬ nI a < (0 : Int32) from nI_nlt (b := 0) (Nat.zero_le _) (by omega)), nI_add, if_pos (show nI (a + (tkE S n a - a)) ≤ (800 : Int32) from nI_le (b := 800) (by omega) (by decide)), ib_e s 46 hs (by decide), ck_t, nI_clamp (by omega), show (8 : Int32) = nI 8 from rfl, pk_mul]
  have k1 : et_cf .byte (et_si g1 18 s (nI (tkE S n a - a))) 1 (nI a) (nI (tkE S n a - a)) = true := by
    unfold et_cf
    rw [nI_clamp (by omega), nI_clamp (by omega), List.all_eq_true]
    intro x hx
    have hx := List.mem_range.mp hx
    show fits .byte (.int ((et_si g1 18 s (nI (tkE S n a - a))).1 1 (a + x))) = true
    rw [si_x (by decide), ht _ (by omega)]
    exact fit_8 _ (hb8 _ (by omega))
  have k2 : et_cc (nI a) (nI (s * 8)) (nI (tkE S n a - a)) 800 368 = true := by
    unfold et_cc
    rw [nI_clamp (by omega), nI_clamp (by omega), nI_clamp (by omega)]
    exact decide_eq_true ⟨show ¬ nI a < nI 0 from nI_nlt (Nat.zero_le _) (by omega), show ¬ nI (s * 8) < nI 0 from nI_nlt (Nat.zero_le _) (by omega), show ¬ nI (tkE S n a - a) < nI 0 from nI_nlt (Nat.zero_le _) (by omega), by omega, by omega⟩
  show ev_Q (et_bd (et_ck (et_cf .byte (et_si g1 18 s (nI (tkE S n a - a))) 1 (nI a) (nI (tkE S n a - a)) && et_cc (nI a) (nI (s * 8)) (nI (tkE S n a - a)) 800 368) (some ((), et_cp (et_si g1 18 s (nI (tkE S n a - a))) 1 17 (nI a).toNatClampNeg (nI (s * 8)).toNatClampNeg (nI (tkE S n a - a)).toNatClampNeg))) (fun _ g4 => some ((1 : Int32), g4))) _
  rw [k1, k2, nI_clamp (by omega), nI_clamp (by omega), nI_clamp (by omega)]
  show ev_Q (some ((1 : Int32), et_cp (et_si g1 18 s (nI (tkE S n a - a))) 1 17 a (s * 8) (tkE S n a - a))) _
  have L : ∀ x, x < tkE S n a - a → (et_cp (et_si g1 18 s (nI (tkE S n a - a))) 1 17 a (s * 8) (tkE S n a - a)).1 17 (8 * s + x) = nI (S 71 (a + x)) := fun x hx => by
    rw [cp_g, if_pos ⟨rfl, by omega, by omega⟩, si_x (by decide), show a + (8 * s + x - s * 8) = a + x by omega, ht _ (by omega)]
    exact c8_i _ (by have := z6 x (by omega); omega)
  have M : ∀ k j, k ≠ 17 → (et_cp (et_si g1 18 s (nI (tkE S n a - a))) 1 17 a (s * 8) (tkE S n a - a)).1 k j = (et_si g1 18 s (nI (tkE S n a - a))).1 k j := fun k j hk => by
    rw [cp_g, if_neg (fun z => hk z.1)]
  have O : ∀ j, (j < 8 * s ∨ 8 * s + (tkE S n a - a) ≤ j) → (et_cp (et_si g1 18 s (nI (tkE S n a - a))) 1 17 a (s * 8) (tkE S n a - a)).1 17 j = g1.1 17 j := fun j hj => by
    rw [cp_g, if_neg (by omega), si_x (by decide)]
  have F : fq (wS (fun k _ => k == 17 || k == 18)) g1 (et_cp (et_si g1 18 s (nI (tkE S n a - a))) 1 17 a (s * 8) (tkE S n a - a)) := fq_c (fq_s (fq_r _ _) rfl) (fun j _ _ => rfl)
  generalize et_cp (et_si g1 18 s (nI (tkE S n a - a))) 1 17 a (s * 8) (tkE S n a - a) = g2 at L M O F
  have M28 : ∀ j, g2.1 28 j = g1.1 28 j := fun j => by rw [M 28 j (by decide), si_x (by decide)]
  have M1 : ∀ j, g2.1 1 j = g1.1 1 j := fun j => by rw [M 1 j (by decide), si_x (by decide)]
  refine ev_r ⟨rfl, ⟨⟨fq_t f0 (fq_w F (fun k j e => ?_)), fun j hj => by rw [M1]; exact ht j hj, by rw [M28]; exact h1, by rw [M28]; exact h2, hi, by rw [M28]; exact h9, by rw [M28]; exact h10, ?_, fun j hj => ?_⟩, ⟨by rw [M28]; exact t4, by rw [M28]; exact t3, by rw [M28]; exact t2, by rw [M28]; exact t5, by rw [M28]; exact t6⟩, ha⟩, fq_t (wS_l w) F, ?_, fun j hj => ?_, L, fun j hj => ?_⟩
  · cases z : wS (fun k _ => k == 17 || k == 18) k j with
    | false => rfl
    | true =>
      unfold wS w_st at z
      simp only [Bool.or_eq_true, Bool.and_eq_true, beq_iff_eq] at z
      unfold w_rd at e
      rcases z with z | z | z
      · rw [z.1] at e; cases e
      · rw [z] at e; cases e
      · rw [z] at e; cases e
  · obtain ⟨q, q1, q2⟩ := q
    exact ⟨q, q1, by rw [M 15 3 (by decide), si_x (by decide)]; exact q2⟩
  · by_cases z : 8 * s ≤ j ∧ j < 8 * s + (tkE S n a - a)
    · rw [show j = 8 * s + (j - 8 * s) by omega, L _ (by omega)]
      exact fit_l _ (z6 (j - 8 * s) (by omega)).2
    · rw [O j (by omega)]; exact J j hj
  · rw [M 18 s (by decide), si_e]
  · rw [M 18 j (by decide), si_j hj]; exact w.1 18 j rfl
  · rw [O j hj]; exact w.1 17 j rfl
theorem le_c0 {i : Nat} {g : et_G} {s : Int32} (hn : n ≤ 800) (hb8 : ∀ i, i < 800 → S 71 i < 256) (c : kC S n i g0 g) (hf : ¬ leF S n (bk S n i) = 0) : ev_Q (fn_Re_letters_16 s g) (fun v g' => v = 0 ∧ fC n (leF S n (bk S n i)) (bk S n i) g0 g') := by
  unfold fn_Re_letters_16
  refine ev_d (stp_c hn hb8 c) (fun _ g1 ⟨t, w⟩ => ?_)
  generalize bk S n i = a at hf t
  have T := t
  obtain ⟨-, ⟨t4, t3, t2, t5, t6⟩, ha⟩ := t
  have k4 := tkK_4 (S := S) n a
  have eb := tkE_b (S := S) ha
  rw [t3, t5]
  unfold leF at hf ⊢
  by_cases q : tkK S n a = 1
  · rw [io_t q] at hf ⊢
    rw [q, if_pos (show nI 1 = (1 : Int32) from rfl)]
    by_cases z : tkE S n a - a ≤ 8
    · rw [io_t z] at hf; exact absurd rfl hf
    · rw [io_f z, if_neg (show ¬ nI (tkE S n a - a) ≤ (8 : Int32) from nI_ge (a := 8) (by omega) (by omega))]
      refine ev_d (ref_c T (f := 2) (by decide)) (fun v g' ⟨e, c⟩ => ?_)
      rw [e]
      exact ev_r ⟨rfl, c⟩
  · rw [io_f q, if_neg (nq1 q (by omega))]
    refine ev_d (ref_c T (f := 1) (by decide)) (fun v g' ⟨e, c⟩ => ?_)
    rw [e]
    exact ev_r ⟨rfl, c⟩
theorem w0l_73 {a o : Nat} (hn : n ≤ 800) (hb8 : ∀ i, i < 800 → S 71 i < 256) (hf : leF S n a = 0) (ho : o + 9 ≤ 108) : ∀ d m j (h : et_G), j + d = tkE S n a - a → d < m → uM S n a h0 h → ev_Q (fn_Mo_word0_73_55 (nI o) m (nI j) h) (fun _ h' => uM S n (bk S n (tkE S n a)) h0 h' ∧ fq (mS (fun k _ => k == 73)) h h' ∧ (∀ i, j ≤ i → i < tkE S n a - a → h'.1 73 (o + 1 + i) = nI (S 71 (a + i))) ∧ (∀ q, (q < o + 1 + j ∨ o + 9 ≤ q) → h'.1 73 q = h.1 73 q)) := by
  obtain ⟨f1, f2⟩ := leF_0 hf
  obtain ⟨e1, e3, e4⟩ := tkFE (S := S) (n := n) (a := a) (by omega) (by omega)
  intro d
  induction d with
  | zero =>
    intro m j h hj hm t
    obtain ⟨m, rfl⟩ : ∃ q, m = q + 1 := ⟨m - 1, by omega⟩
    rw [fn_Mo_word0_73_55, t.2.2.2.1.2.2.2.1, if_pos (nI_le (by omega) (by omega))]
    unfold fn_Mo_word0_73_86
    refine ev_d (stp_m hn hb8 t (by omega) (by omega)) (fun _ h' ⟨t', w⟩ => ev_r ⟨t', mS_l w, fun i h1 h2 => ?_, fun q _ => w.1 73 q rfl⟩)
    omega
  | succ d ih =>
    intro m j h hj hm t
    obtain ⟨m, rfl⟩ : ∃ q, m = q + 1 := ⟨m - 1, by omega⟩
    have by1 := bya (i := a + j) hn (by omega) t.2.1 t.2.2.1
    rw [io_f (by omega)] at by1
    rw [fn_Mo_word0_73_55, t.2.2.2.1.2.2.2.1, if_neg (nI_ge (by omega) (by omega)), t.2.2.2.1.1, nI_add, by1, bd_s, show (1 : Int32) = nI 1 from rfl, nI_add, nI_add, nI_add, ib_e (o + 1 + j) 108 (by omega) (by decide), ck_t, nI_clamp (by omega)]
    refine eb_q (eb_q ?_)
    refine ev_w (ih m (j + 1) _ (by omega) (by omega) (uM_s t rfl)) (fun _ h' ⟨t', w, c1, c2⟩ => ⟨t', fq_t (fq_s (fq_r _ _) rfl) w, fun i h1 h2 => ?_, fun q hq => ?_⟩)
    · by_cases e : i = j
      · subst e; rw [c2 _ (Or.inl (by omega)), si_e]
      · exact c1 i (by omega) h2
    · rw [c2 q (by omega), si_j (by omega)]
theorem w01_73 {a o : Nat} {h : et_G} (hn : n ≤ 800) (hb8 : ∀ i, i < 800 → S 71 i < 256) (hf : leF S n a = 0) (ho : o + 9 ≤ 108) (t : uM S n a h0 h) : ev_Q (fn_Mo_word0_73 (nI o) h) (fun _ h' => uM S n (bk S n (tkE S n a)) h0 h' ∧ fq (mS (fun k _ => k == 73)) h h' ∧ mW S 73 o a (tkE S n a - a) h h') := by
  obtain ⟨f1, f2⟩ := leF_0 hf
  obtain ⟨e1, e3, e4⟩ := tkFE (S := S) (n := n) (a := a) (by omega) (by omega)
  unfold fn_Mo_word0_73 fn_Mo_word0_73_38
  rw [gd_1 t, bd_s, if_neg (by decide), t.2.2.2.1.2.1, t.2.2.2.1.2.2.2.1, f1, e1, if_pos (show nI 1 = (1 : Int32) from rfl), if_pos (show nI (tkE S n a - a) ≤ (8 : Int32) from nI_le (b := 8) f2 (by decide)), gd_1 t, bd_s, if_neg (by decide), ib_e o 108 (by omega) (by decide), ck_t, nI_clamp (by omega), t.2.2.2.1.2.2.2.1, e1]
  refine eb_q ?_
  refine ev_w (w0l_73 hn hb8 hf ho (tkE S n a - a) 1000000 0 _ (by omega) (by omega) (uM_s t rfl)) (fun _ h' ⟨t', w, c1, c2⟩ => ⟨t', fq_t (fq_s (fq_r _ _) rfl) w, ?_, fun i hi => c1 i (by omega) hi, fun q hq => ?_⟩)
  · rw [c2 o (by omega), si_e]
  · rw [c2 q (by omega), si_j (by omega)]
theorem w00_73 {a : Nat} {h : et_G} {o : Int32} (hn : n ≤ 800) (hf : ¬ leF S n a = 0) (t : uM S n a h0 h) : ev_Q (fn_Mo_word0_73 o h) (fun _ h' => fM n (leF S n a) a h0 h') := by
  have T := t
  obtain ⟨f, ht, h1, ⟨t4, t3, t2, t5, t6, t7⟩, ha, h18, h19⟩ := t
  have k4 := tkK_4 (S := S) n a
  have eb := tkE_b (S := S) ha
  have R : ∀ x, 1 ≤ x ∧ x ≤ 5 → ev_Q (et_bd (fn_Mo_faults (nI x) h) (fun _ g8 => fn_Mo_word0_73_38 o g8)) (fun _ h' => fM n x a h0 h') := fun x hx => by
    refine ev_d (fau_m T hx) (fun _ h' ⟨c, w⟩ => ?_)
    unfold fn_Mo_word0_73_38
    rw [gd_0 c, bd_s, if_pos rfl]
    exact ev_r c
  unfold fn_Mo_word0_73
  rw [gd_1 T, bd_s, if_neg (by decide), t3, t5]
  unfold leF at hf ⊢
  by_cases q : tkK S n a = 1
  · rw [io_t q] at hf ⊢
    rw [q, (tkFE (S := S) (n := n) (a := a) (by omega) (by omega)).1, if_pos (show nI 1 = (1 : Int32) from rfl)]
    by_cases z : tkE S n a - a ≤ 8
    · rw [io_t z] at hf; exact absurd rfl hf
    · rw [io_f z, if_neg (show ¬ nI (tkE S n a - a) ≤ (8 : Int32) from nI_ge (a := 8) (by omega) (by omega))]
      exact R 2 (by decide)
  · rw [io_f q, if_neg (nq1 q (by omega))]
    exact R 1 (by decide)
theorem w0z_73 {f a : Nat} {h : et_G} {x : Int32} (t : fM n f a h0 h) : fn_Mo_word0_73 x h = some ((), h) := by
  unfold fn_Mo_word0_73
  rw [gd_0 t, bd_s, if_pos rfl]
theorem w0l_74 {a o : Nat} (hn : n ≤ 800) (hb8 : ∀ i, i < 800 → S 71 i < 256) (hf : leF S n a = 0) (ho : o + 9 ≤ 135) : ∀ d m j (h : et_G), j + d = tkE S n a - a → d < m → uM S n a h0 h → ev_Q (fn_Mo_word0_74_55 (nI o) m (nI j) h) (fun _ h' => uM S n (bk S n (tkE S n a)) h0 h' ∧ fq (mS (fun k _ => k == 74)) h h' ∧ (∀ i, j ≤ i → i < tkE S n a - a → h'.1 74 (o + 1 + i) = nI (S 71 (a + i))) ∧ (∀ q, (q < o + 1 + j ∨ o + 9 ≤ q) → h'.1 74 q = h.1 74 q)) := by
  obtain ⟨f1, f2⟩ := leF_0 hf
  obtain ⟨e1, e3, e4⟩ := tkFE (S := S) (n := n) (a := a) (by omega) (by omega)
  intro d
  induction d with
  | zero =>
    intro m j h hj hm t
    obtain ⟨m, rfl⟩ : ∃ q, m = q + 1 := ⟨m - 1, by omega⟩
    rw [fn_Mo_word0_74_55, t.2.2.2.1.2.2.2.1, if_pos (nI_le (by omega) (by omega))]
    unfold fn_Mo_word0_74_86
    refine ev_d (stp_m hn hb8 t (by omega) (by omega)) (fun _ h' ⟨t', w⟩ => ev_r ⟨t', mS_l w, fun i h1 h2 => ?_, fun q _ => w.1 74 q rfl⟩)
    omega
  | succ d ih =>
    intro m j h hj hm t
    obtain ⟨m, rfl⟩ : ∃ q, m = q + 1 := ⟨m - 1, by omega⟩
    have by1 := bya (i := a + j) hn (by omega) t.2.1 t.2.2.1
    rw [io_f (by omega)] at by1
    rw [fn_Mo_word0_74_55, t.2.2.2.1.2.2.2.1, if_neg (nI_ge (by omega) (by omega)), t.2.2.2.1.1, nI_add, by1, bd_s, show (1 : Int32) = nI 1 from rfl, nI_add, nI_add, nI_add, ib_e (o + 1 + j) 135 (by omega) (by decide), ck_t, nI_clamp (by omega)]
    refine eb_q (eb_q ?_)
    refine ev_w (ih m (j + 1) _ (by omega) (by omega) (uM_s t rfl)) (fun _ h' ⟨t', w, c1, c2⟩ => ⟨t', fq_t (fq_s (fq_r _ _) rfl) w, fun i h1 h2 => ?_, fun q hq => ?_⟩)
    · by_cases e : i = j
      · subst e; rw [c2 _ (Or.inl (by omega)), si_e]
      · exact c1 i (by omega) h2
    · rw [c2 q (by omega), si_j (by omega)]
theorem w01_74 {a o : Nat} {h : et_G} (hn : n ≤ 800) (hb8 : ∀ i, i < 800 → S 71 i < 256) (hf : leF S n a = 0) (ho : o + 9 ≤ 135) (t : uM S n a h0 h) : ev_Q (fn_Mo_word0_74 (nI o) h) (fun _ h' => uM S n (bk S n (tkE S n a)) h0 h' ∧ fq (mS (fun k _ => k == 74)) h h' ∧ mW S 74 o a (tkE S n a - a) h h') := by
  obtain ⟨f1, f2⟩ := leF_0 hf
  obtain ⟨e1, e3, e4⟩ := tkFE (S := S) (n := n) (a := a) (by omega) (by omega)
  unfold fn_Mo_word0_74 fn_Mo_word0_74_38
  rw [gd_1 t, bd_s, if_neg (by decide), t.2.2.2.1.2.1, t.2.2.2.1.2.2.2.1, f1, e1, if_pos (show nI 1 = (1 : Int32) from rfl), if_pos (show nI (tkE S n a - a) ≤ (8 : Int32) from nI_le (b := 8) f2 (by decide)), gd_1 t, bd_s, if_neg (by decide), ib_e o 135 (by omega) (by decide), ck_t, nI_clamp (by omega), t.2.2.2.1.2.2.2.1, e1]
  refine eb_q ?_
  refine ev_w (w0l_74 hn hb8 hf ho (tkE S n a - a) 1000000 0 _ (by omega) (by omega) (uM_s t rfl)) (fun _ h' ⟨t', w, c1, c2⟩ => ⟨t', fq_t (fq_s (fq_r _ _) rfl) w, ?_, fun i hi => c1 i (by omega) hi, fun q hq => ?_⟩)
  · rw [c2 o (by omega), si_e]
  · rw [c2 q (by omega), si_j (by omega)]
theorem w00_74 {a : Nat} {h : et_G} {o : Int32} (hn : n ≤ 800) (hf : ¬ leF S n a = 0) (t : uM S n a h0 h) : ev_Q (fn_Mo_word0_74 o h) (fun _ h' => fM n (leF S n a) a h0 h') := by
  have T := t
  obtain ⟨f, ht, h1, ⟨t4, t3, t2, t5, t6, t7⟩, ha, h18, h19⟩ := t
  have k4 := tkK_4 (S := S) n a
  have eb := tkE_b (S := S) ha
  have R : ∀ x, 1 ≤ x ∧ x ≤ 5 → ev_Q (et_bd (fn_Mo_faults (nI x) h) (fun _ g8 => fn_Mo_word0_74_38 o g8)) (fun _ h' => fM n x a h0 h') := fun x hx => by
    refine ev_d (fau_m T hx) (fun _ h' ⟨c, w⟩ => ?_)
    unfold fn_Mo_word0_74_38
    rw [gd_0 c, bd_s, if_pos rfl]
    exact ev_r c
  unfold fn_Mo_word0_74
  rw [gd_1 T, bd_s, if_neg (by decide), t3, t5]
  unfold leF at hf ⊢
  by_cases q : tkK S n a = 1
  · rw [io_t q] at hf ⊢
    rw [q, (tkFE (S := S) (n := n) (a := a) (by omega) (by omega)).1, if_pos (show nI 1 = (1 : Int32) from rfl)]
    by_cases z : tkE S n a - a ≤ 8
    · rw [io_t z] at hf; exact absurd rfl hf
    · rw [io_f z, if_neg (show ¬ nI (tkE S n a - a) ≤ (8 : Int32) from nI_ge (a := 8) (by omega) (by omega))]
      exact R 2 (by decide)
  · rw [io_f q, if_neg (nq1 q (by omega))]
    exact R 1 (by decide)
theorem w0z_74 {f a : Nat} {h : et_G} {x : Int32} (t : fM n f a h0 h) : fn_Mo_word0_74 x h = some ((), h) := by
  unfold fn_Mo_word0_74
  rw [gd_0 t, bd_s, if_pos rfl]
theorem w0l_75 {a o : Nat} (hn : n ≤ 800) (hb8 : ∀ i, i < 800 → S 71 i < 256) (hf : leF S n a = 0) (ho : o + 9 ≤ 162) : ∀ d m j (h : et_G), j + d = tkE S n a - a → d < m → uM S n a h0 h → ev_Q (fn_Mo_word0_75_55 (nI o) m (nI j) h) (fun _ h' => uM S n (bk S n (tkE S n a)) h0 h' ∧ fq (mS (fun k _ => k == 75)) h h' ∧ (∀ i, j ≤ i → i < tkE S n a - a → h'.1 75 (o + 1 + i) = nI (S 71 (a + i))) ∧ (∀ q, (q < o + 1 + j ∨ o + 9 ≤ q) → h'.1 75 q = h.1 75 q)) := by
  obtain ⟨f1, f2⟩ := leF_0 hf
  obtain ⟨e1, e3, e4⟩ := tkFE (S := S) (n := n) (a := a) (by omega) (by omega)
  intro d
  induction d with
  | zero =>
    intro m j h hj hm t
    obtain ⟨m, rfl⟩ : ∃ q, m = q + 1 := ⟨m - 1, by omega⟩
    rw [fn_Mo_word0_75_55, t.2.2.2.1.2.2.2.1, if_pos (nI_le (by omega) (by omega))]
    unfold fn_Mo_word0_75_86
    refine ev_d (stp_m hn hb8 t (by omega) (by omega)) (fun _ h' ⟨t', w⟩ => ev_r ⟨t', mS_l w, fun i h1 h2 => ?_, fun q _ => w.1 75 q rfl⟩)
    omega
  | succ d ih =>
    intro m j h hj hm t
    obtain ⟨m, rfl⟩ : ∃ q, m = q + 1 := ⟨m - 1, by omega⟩
    have by1 := bya (i := a + j) hn (by omega) t.2.1 t.2.2.1
    rw [io_f (by omega)] at by1
    rw [fn_Mo_word0_75_55, t.2.2.2.1.2.2.2.1, if_neg (nI_ge (by omega) (by omega)), t.2.2.2.1.1, nI_add, by1, bd_s, show (1 : Int32) = nI 1 from rfl, nI_add, nI_add, nI_add, ib_e (o + 1 + j) 162 (by omega) (by decide), ck_t, nI_clamp (by omega)]
    refine eb_q (eb_q ?_)
    refine ev_w (ih m (j + 1) _ (by omega) (by omega) (uM_s t rfl)) (fun _ h' ⟨t', w, c1, c2⟩ => ⟨t', fq_t (fq_s (fq_r _ _) rfl) w, fun i h1 h2 => ?_, fun q hq => ?_⟩)
    · by_cases e : i = j
      · subst e; rw [c2 _ (Or.inl (by omega)), si_e]
      · exact c1 i (by omega) h2
    · rw [c2 q (by omega), si_j (by omega)]
theorem w01_75 {a o : Nat} {h : et_G} (hn : n ≤ 800) (hb8 : ∀ i, i < 800 → S 71 i < 256) (hf : leF S n a = 0) (ho : o + 9 ≤ 162) (t : uM S n a h0 h) : ev_Q (fn_Mo_word0_75 (nI o) h) (fun _ h' => uM S n (bk S n (tkE S n a)) h0 h' ∧ fq (mS (fun k _ => k == 75)) h h' ∧ mW S 75 o a (tkE S n a - a) h h') := by
  obtain ⟨f1, f2⟩ := leF_0 hf
  obtain ⟨e1, e3, e4⟩ := tkFE (S := S) (n := n) (a := a) (by omega) (by omega)
  unfold fn_Mo_word0_75 fn_Mo_word0_75_38
  rw [gd_1 t, bd_s, if_neg (by decide), t.2.2.2.1.2.1, t.2.2.2.1.2.2.2.1, f1, e1, if_pos (show nI 1 = (1 : Int32) from rfl), if_pos (show nI (tkE S n a - a) ≤ (8 : Int32) from nI_le (b := 8) f2 (by decide)), gd_1 t, bd_s, if_neg (by decide), ib_e o 162 (by omega) (by decide), ck_t, nI_clamp (by omega), t.2.2.2.1.2.2.2.1, e1]
  refine eb_q ?_
  refine ev_w (w0l_75 hn hb8 hf ho (tkE S n a - a) 1000000 0 _ (by omega) (by omega) (uM_s t rfl)) (fun _ h' ⟨t', w, c1, c2⟩ => ⟨t', fq_t (fq_s (fq_r _ _) rfl) w, ?_, fun i hi => c1 i (by omega) hi, fun q hq => ?_⟩)
  · rw [c2 o (by omega), si_e]
  · rw [c2 q (by omega), si_j (by omega)]
theorem w00_75 {a : Nat} {h : et_G} {o : Int32} (hn : n ≤ 800) (hf : ¬ leF S n a = 0) (t : uM S n a h0 h) : ev_Q (fn_Mo_word0_75 o h) (fun _ h' => fM n (leF S n a) a h0 h') := by
  have T := t
  obtain ⟨f, ht, h1, ⟨t4, t3, t2, t5, t6, t7⟩, ha, h18, h19⟩ := t
  have k4 := tkK_4 (S := S) n a
  have eb := tkE_b (S := S) ha
  have R : ∀ x, 1 ≤ x ∧ x ≤ 5 → ev_Q (et_bd (fn_Mo_faults (nI x) h) (fun _ g8 => fn_Mo_word0_75_38 o g8)) (fun _ h' => fM n x a h0 h') := fun x hx => by
    refine ev_d (fau_m T hx) (fun _ h' ⟨c, w⟩ => ?_)
    unfold fn_Mo_word0_75_38
    rw [gd_0 c, bd_s, if_pos rfl]
    exact ev_r c
  unfold fn_Mo_word0_75
  rw [gd_1 T, bd_s, if_neg (by decide), t3, t5]
  unfold leF at hf ⊢
  by_cases q : tkK S n a = 1
  · rw [io_t q] at hf ⊢
    rw [q, (tkFE (S := S) (n := n) (a := a) (by omega) (by omega)).1, if_pos (show nI 1 = (1 : Int32) from rfl)]
    by_cases z : tkE S n a - a ≤ 8
    · rw [io_t z] at hf; exact absurd rfl hf
    · rw [io_f z, if_neg (show ¬ nI (tkE S n a - a) ≤ (8 : Int32) from nI_ge (a := 8) (by omega) (by omega))]
      exact R 2 (by decide)
  · rw [io_f q, if_neg (nq1 q (by omega))]
    exact R 1 (by decide)
theorem w0z_75 {f a : Nat} {h : et_G} {x : Int32} (t : fM n f a h0 h) : fn_Mo_word0_75 x h = some ((), h) := by
  unfold fn_Mo_word0_75
  rw [gd_0 t, bd_s, if_pos rfl]
theorem w0l_76 {a o : Nat} (hn : n ≤ 800) (hb8 : ∀ i, i < 800 → S 71 i < 256) (hf : leF S n a = 0) (ho : o + 9 ≤ 9) : ∀ d m j (h : et_G), j + d = tkE S n a - a → d < m → uM S n a h0 h → ev_Q (fn_Mo_word0_76_55 (nI o) m (nI j) h) (fun _ h' => uM S n (bk S n (tkE S n a)) h0 h' ∧ fq (mS (fun k _ => k == 76)) h h' ∧ (∀ i, j ≤ i → i < tkE S n a - a → h'.1 76 (o + 1 + i) = nI (S 71 (a + i))) ∧ (∀ q, (q < o + 1 + j ∨ o + 9 ≤ q) → h'.1 76 q = h.1 76 q)) := by
  obtain ⟨f1, f2⟩ := leF_0 hf
  obtain ⟨e1, e3, e4⟩ := tkFE (S := S) (n := n) (a := a) (by omega) (by omega)
  intro d
  induction d with
  | zero =>
    intro m j h hj hm t
    obtain ⟨m, rfl⟩ : ∃ q, m = q + 1 := ⟨m - 1, by omega⟩
    rw [fn_Mo_word0_76_55, t.2.2.2.1.2.2.2.1, if_pos (nI_le (by omega) (by omega))]
    unfold fn_Mo_word0_76_86
    refine ev_d (stp_m hn hb8 t (by omega) (by omega)) (fun _ h' ⟨t', w⟩ => ev_r ⟨t', mS_l w, fun i h1 h2 => ?_, fun q _ => w.1 76 q rfl⟩)
    omega
  | succ d ih =>
    intro m j h hj hm t
    obtain ⟨m, rfl⟩ : ∃ q, m = q + 1 := ⟨m - 1, by omega⟩
    have by1 := bya (i := a + j) hn (by omega) t.2.1 t.2.2.1
    rw [io_f (by omega)] at by1
    rw [fn_Mo_word0_76_55, t.2.2.2.1.2.2.2.1, if_neg (nI_ge (by omega) (by omega)), t.2.2.2.1.1, nI_add, by1, bd_s, show (1 : Int32) = nI 1 from rfl, nI_add, nI_add, nI_add, ib_e (o + 1 + j) 9 (by omega) (by decide), ck_t, nI_clamp (by omega)]
    refine eb_q (eb_q ?_)
    refine ev_w (ih m (j + 1) _ (by omega) (by omega) (uM_s t rfl)) (fun _ h' ⟨t', w, c1, c2⟩ => ⟨t', fq_t (fq_s (fq_r _ _) rfl) w, fun i h1 h2 => ?_, fun q hq => ?_⟩)
    · by_cases e : i = j
      · subst e; rw [c2 _ (Or.inl (by omega)), si_e]
      · exact c1 i (by omega) h2
    · rw [c2 q (by omega), si_j (by omega)]
theorem w01_76 {a o : Nat} {h : et_G} (hn : n ≤ 800) (hb8 : ∀ i, i < 800 → S 71 i < 256) (hf : leF S n a = 0) (ho : o + 9 ≤ 9) (t : uM S n a h0 h) : ev_Q (fn_Mo_word0_76 (nI o) h) (fun _ h' => uM S n (bk S n (tkE S n a)) h0 h' ∧ fq (mS (fun k _ => k == 76)) h h' ∧ mW S 76 o a (tkE S n a - a) h h') := by
  obtain ⟨f1, f2⟩ := leF_0 hf
  obtain ⟨e1, e3, e4⟩ := tkFE (S := S) (n := n) (a := a) (by omega) (by omega)
  unfold fn_Mo_word0_76 fn_Mo_word0_76_38
  rw [gd_1 t, bd_s, if_neg (by decide), t.2.2.2.1.2.1, t.2.2.2.1.2.2.2.1, f1, e1, if_pos (show nI 1 = (1 : Int32) from rfl), if_pos (show nI (tkE S n a - a) ≤ (8 : Int32) from nI_le (b := 8) f2 (by decide)), gd_1 t, bd_s, if_neg (by decide), ib_e o 9 (by omega) (by decide), ck_t, nI_clamp (by omega), t.2.2.2.1.2.2.2.1, e1]
  refine eb_q ?_
  refine ev_w (w0l_76 hn hb8 hf ho (tkE S n a - a) 1000000 0 _ (by omega) (by omega) (uM_s t rfl)) (fun _ h' ⟨t', w, c1, c2⟩ => ⟨t', fq_t (fq_s (fq_r _ _) rfl) w, ?_, fun i hi => c1 i (by omega) hi, fun q hq => ?_⟩)
  · rw [c2 o (by omega), si_e]
  · rw [c2 q (by omega), si_j (by omega)]
theorem w00_76 {a : Nat} {h : et_G} {o : Int32} (hn : n ≤ 800) (hf : ¬ leF S n a = 0) (t : uM S n a h0 h) : ev_Q (fn_Mo_word0_76 o h) (fun _ h' => fM n (leF S n a) a h0 h') := by
  have T := t
  obtain ⟨f, ht, h1, ⟨t4, t3, t2, t5, t6, t7⟩, ha, h18, h19⟩ := t
  have k4 := tkK_4 (S := S) n a
  have eb := tkE_b (S := S) ha
  have R : ∀ x, 1 ≤ x ∧ x ≤ 5 → ev_Q (et_bd (fn_Mo_faults (nI x) h) (fun _ g8 => fn_Mo_word0_76_38 o g8)) (fun _ h' => fM n x a h0 h') := fun x hx => by
    refine ev_d (fau_m T hx) (fun _ h' ⟨c, w⟩ => ?_)
    unfold fn_Mo_word0_76_38
    rw [gd_0 c, bd_s, if_pos rfl]
    exact ev_r c
  unfold fn_Mo_word0_76
  rw [gd_1 T, bd_s, if_neg (by decide), t3, t5]
  unfold leF at hf ⊢
  by_cases q : tkK S n a = 1
  · rw [io_t q] at hf ⊢
    rw [q, (tkFE (S := S) (n := n) (a := a) (by omega) (by omega)).1, if_pos (show nI 1 = (1 : Int32) from rfl)]
    by_cases z : tkE S n a - a ≤ 8
    · rw [io_t z] at hf; exact absurd rfl hf
    · rw [io_f z, if_neg (show ¬ nI (tkE S n a - a) ≤ (8 : Int32) from nI_ge (a := 8) (by omega) (by omega))]
      exact R 2 (by decide)
  · rw [io_f q, if_neg (nq1 q (by omega))]
    exact R 1 (by decide)
theorem w0z_76 {f a : Nat} {h : et_G} {x : Int32} (t : fM n f a h0 h) : fn_Mo_word0_76 x h = some ((), h) := by
  unfold fn_Mo_word0_76
  rw [gd_0 t, bd_s, if_pos rfl]
end LE
