/-! word; ways -/
/-- the words of a person, letter by letter -/
noncomputable def wo_o (S : et_T) (p b h i : Int32) : et_oc := io (iN p (S 61 1) ∧ iN b 3 ∧ iN h 5) (if i = -1 then .inr (nI (wd S p.toNatClampNeg (5 * b.toNatClampNeg + h.toNatClampNeg)).length) else io (iN i (wd S p.toNatClampNeg (5 * b.toNatClampNeg + h.toNatClampNeg)).length) (.inr (nI ((wd S p.toNatClampNeg (5 * b.toNatClampNeg + h.toNatClampNeg)).getD i.toNatClampNeg 0))) (.inl 0)) (.inl 0)
theorem wo_c {S : et_T} {g : et_G} (hC : rc_tong S g) (hw : wf_town S) (p b h i : Int32) : ev_Q (fn_Et_word p b h i g) (fun o g' => o = wo_o S p b h i ∧ fq wb_c g g') := by
  have hwt := wt_of hC hw
  have e2 := hC.1
  have w1 : S 61 1 ≤ 12 := hw.1
  unfold fn_Et_word wo_o fn_To_hasStem
  rw [e2]
  by_cases h1 : iN p (S 61 1)
  · rw [if_neg h1.1, if_neg h1.2, bd_s, if_neg (by decide)]
    by_cases h2 : iN b 3
    · rw [if_neg h2.1, if_neg (show ¬ (3 : Int32) ≤ b from h2.2)]
      by_cases h3 : iN h 5
      · obtain ⟨s, hs, rfl⟩ := iN_e h1 (by omega)
        obtain ⟨b, hb, rfl⟩ := iN_e h2 (by omega)
        obtain ⟨h, hh, rfl⟩ := iN_e h3 (by omega)
        rw [if_neg h3.1, if_pos (show nI h < 5 from nI_lt (b := 5) hh (by decide)), io_t ⟨h1, h2, h3⟩, nI_clamp (by omega), nI_clamp (by omega), nI_clamp (by omega)]
        have hl := wd_len hwt hs (show 5 * b + h < 15 by omega)
        refine ev_d (mk_c hC hw hs hb hh) (fun a g1 h1 => ?_)
        obtain ⟨rfl, b1, f1⟩ := h1
        by_cases hi : i = -1
        · rw [if_pos hi, if_pos hi]; exact ev_r ⟨rfl, f1⟩
        · rw [if_neg hi, if_neg hi]
          by_cases h4 : i < 0
          · rw [if_pos h4, io_f (fun e => e.1 h4)]; exact ev_r ⟨rfl, f1⟩
          · rw [if_neg h4]
            by_cases h5 : nI (wd S s (5 * b + h)).length ≤ i
            · rw [if_neg (Int32.not_lt.mpr h5), io_f (fun e => e.2 h5)]; exact ev_r ⟨rfl, f1⟩
            · obtain ⟨j, hj, rfl⟩ := iN_e (⟨h4, h5⟩ : iN i _) (by omega)
              rw [if_pos (nI_lt hj (by omega)), io_t ⟨h4, h5⟩, nI_clamp (by omega), ib_e j 24 (by omega) (by decide), ck_t, b1.2.2 j hj]
              exact ev_r ⟨rfl, f1⟩
      · rw [io_f (fun e => h3 e.2.2)]
        by_cases h4 : h < 0
        · rw [if_pos h4]; exact ev_r ⟨rfl, fq_r _ _⟩
        · rw [if_neg h4, if_neg (fun h5 : h < (5 : Int32) => h3 ⟨h4, Int32.not_le.mpr h5⟩)]; exact ev_r ⟨rfl, fq_r _ _⟩
    · rw [io_f (fun e => h2 e.2.1)]
      by_cases h4 : b < 0
      · rw [if_pos h4]; exact ev_r ⟨rfl, fq_r _ _⟩
      · rw [if_neg h4, if_pos (show (3 : Int32) ≤ b from Classical.byContradiction fun h5 => h2 ⟨h4, h5⟩)]; exact ev_r ⟨rfl, fq_r _ _⟩
  · rw [io_f (fun e => h1 e.1)]
    by_cases h4 : p < 0
    · rw [if_pos h4, bd_s, if_pos rfl]; exact ev_r ⟨rfl, fq_r _ _⟩
    · rw [if_neg h4, if_pos (Classical.byContradiction fun h5 => h1 ⟨h4, h5⟩), bd_s, if_pos rfl]; exact ev_r ⟨rfl, fq_r _ _⟩
def wm_t (k j : Nat) : Bool := wb_m k j || (k == 61 && j == 0)
theorem wm_t0 {g : et_G} (x : Int32) : fq wm_t g (et_si g 61 0 x) := fq_s (fq_r _ _) (by simp [wm_t])
theorem wm_tb {g g' : et_G} (h : fq wb_m g g') : fq wm_t g g' := fq_w h (fun k j h => by simp [wm_t] at h; exact h.1)
theorem wm_mq : ∀ k j, mq k j = true → wm_t k j = false := by
  intro k j h
  simp [mq, mp, wm_t, wb_m] at *
  omega
theorem wo_46 {g : et_G} (h0 : g.1 61 0 = 0) (p b h i : Int32) : fn_Mo_word_46 p b h i g = some (0, et_si g 61 0 1) := by
  unfold fn_Mo_word_46 fn_Mo_word_47
  rw [ri_n h0 _ (by decide), bd_s, if_pos rfl]
theorem wo_m {S : et_T} {g : et_G} (hM : rc_M S g) (hw : wt_S S) (p b h i : Int32) : ev_Q (fn_Mo_word p b h i g) (fun v g' => v = va_o (wo_o S p b h i) ∧ g'.1 61 0 = th_o (wo_o S p b h i) ∧ fq wm_t g g') := by
  have w1 : S 61 1 ≤ 12 := hw.1
  have f0 := wm_t0 (g := g) 0
  have h0 : (et_si g 61 0 0).1 61 0 = 0 := by simp [si_g]
  have m0 := rc_M_q f0 wm_mq hM
  have bad : ∀ o : et_oc, o = .inl 0 → ev_Q (fn_Mo_word_46 p b h i (et_si g 61 0 0)) (fun v g' => v = va_o o ∧ g'.1 61 0 = th_o o ∧ fq wm_t g g') := by
    rintro _ rfl
    rw [wo_46 h0, si_si]
    exact ev_r ⟨rfl, by simp [si_g, th_o], wm_t0 _⟩
  unfold fn_Mo_word
  simp only [et_b]
  rw [m0.1 61 1 rfl]
  by_cases h1 : iN p (S 61 1)
  · rw [if_neg h1.1, if_neg h1.2, show (2 : Int32) = nI 2 from rfl, wi_c b 2 (by decide), bd_s]
    by_cases h2 : iN b 3
    · rw [io_t h2, if_neg (by decide), show (4 : Int32) = nI 4 from rfl, wi_c h 4 (by decide), bd_s]
      by_cases h3 : iN h 5
      · rw [io_t h3, if_neg (by decide)]
        by_cases h4 : i < -1
        · rw [if_pos h4]
          refine bad _ ?_
          have hn : ¬ i = -1 := fun e => by rw [e] at h4; exact absurd h4 (by decide)
          have h0 : i < 0 := Int32.lt_of_lt_of_le h4 (by decide)
          unfold wo_o
          rw [io_t ⟨h1, h2, h3⟩, if_neg hn, io_f (fun e => e.1 h0)]
        · rw [if_neg h4]
          obtain ⟨s, hs, rfl⟩ := iN_e h1 (by omega)
          obtain ⟨b, hb, rfl⟩ := iN_e h2 (by omega)
          obtain ⟨h, hh, rfl⟩ := iN_e h3 (by omega)
          unfold fn_Mo_word_47 wo_o
          rw [io_t ⟨h1, h2, h3⟩, ri_y h0 _ _ (by decide), bd_s, if_neg (by decide), nI_clamp (by omega), nI_clamp (by omega), nI_clamp (by omega)]
          simp only [ni_of, pk_mul, nI_add]
          refine ev_d (sp_m hw hs (show 5 * b + h < 15 by omega) m0) (fun _ g1 hg => ?_)
          obtain ⟨b1, f1⟩ := hg
          have h01 : g1.1 61 0 = 0 := by rw [f1.1 61 0 rfl]; exact h0
          have hl := wd_len hw hs (show 5 * b + h < 15 by omega)
          rw [b1.1]
          unfold fn_Mo_word_81
          by_cases h5 : nI (wd S s (5 * b + h)).length ≤ i
          · have hn : ¬ i = -1 := fun e => by
              rw [e] at h5
              exact absurd (Int32.le_trans (nI_pos' (by omega)) h5) (by decide)
            rw [if_pos h5, show nI 0 = 0 from rfl, ri_n h01 _ (by decide), bd_s, if_pos rfl, if_neg (show ¬ i = -nI 1 from hn), io_f (fun e => e.2 h5)]
            exact ev_r ⟨rfl, by simp [si_g, th_o], fq_s (fq_t f0 (wm_tb f1)) (by simp [wm_t])⟩
          · rw [if_neg h5, ri_y h01 _ _ (by decide), bd_s, if_neg (by decide)]
            by_cases hi : i = -1
            · rw [if_pos hi, if_pos (show i = -nI 1 from hi), b1.1]
              exact ev_r ⟨rfl, h01, fq_t f0 (wm_tb f1)⟩
            · rw [if_neg hi, if_neg (show ¬ i = -nI 1 from hi)]
              have h6 : ¬ i < 0 := by
                intro h6
                rw [Int32.lt_iff_toInt_lt] at h4 h6
                have : i.toInt = -1 := by
                  have e1 : (-1 : Int32).toInt = -1 := by decide
                  have e2 : (0 : Int32).toInt = 0 := by decide
                  omega
                exact hi (Int32.toInt_inj.mp (by rw [this]; decide))
              obtain ⟨j, hj, rfl⟩ := iN_e (⟨h6, h5⟩ : iN i _) (by omega)
              rw [io_t ⟨h6, h5⟩, nI_clamp (by omega), ib_e j 32 (by omega) (by decide), ck_t, b1.2.2 j hj]
              exact ev_r ⟨rfl, h01, fq_t f0 (wm_tb f1)⟩
      · rw [io_f h3, if_pos rfl]
        refine bad _ ?_
        unfold wo_o
        rw [io_f (fun e => h3 e.2.2)]
    · rw [io_f h2, if_pos rfl]
      refine bad _ ?_
      unfold wo_o
      rw [io_f (fun e => h2 e.2.1)]
  · have hb : ev_Q (fn_Mo_word_46 p b h i (et_si g 61 0 0)) (fun v g' => v = va_o (wo_o S p b h i) ∧ g'.1 61 0 = th_o (wo_o S p b h i) ∧ fq wm_t g g') := bad _ (by unfold wo_o; rw [io_f (fun e => h1 e.1)])
    by_cases h4 : p < 0
    · rw [if_pos h4]; exact hb
    · rw [if_neg h4, if_pos (Classical.byContradiction fun h5 => h1 ⟨h4, h5⟩)]; exact hb
/-! the ways of a row of letters -/
def ma_P (S : et_T) (lo n v : Nat) : Prop := 0 < n ∧ wd S (v / 15) (v % 15) = seg (S 71) lo n
noncomputable def wl (S : et_T) (lo n : Nat) : Nat → List Nat
  | 0 => []
  | v + 1 => io (ma_P S lo n v) (wl S lo n v ++ [v]) (wl S lo n v)
theorem wl_len (S : et_T) (lo n : Nat) : ∀ v, (wl S lo n v).length ≤ v := by
  intro v
  induction v with
  | zero => exact Nat.le_refl _
  | succ v ih =>
    unfold wl
    by_cases h : ma_P S lo n v
    · rw [io_t h]; simp; exact ih
    · rw [io_f h]; omega
theorem wl_lt (S : et_T) (lo n : Nat) : ∀ v, ∀ x ∈ wl S lo n v, x < v := by
  intro v
  induction v with
  | zero => intro x hx; cases hx
  | succ v ih =>
    intro x
    unfold wl
    by_cases h : ma_P S lo n v
    · rw [io_t h]
      intro hx
      rcases List.mem_append.mp hx with h1 | h1
      · have := ih x h1; omega
      · have := List.mem_singleton.mp h1; omega
    · rw [io_f h]
      intro hx
      have := ih x hx; omega
def wr (g : et_G) (a b : Nat) (l : List Nat) : Prop := g.1 a 1 = nI l.length ∧ ∀ i, i < l.length → g.1 b i = nI (l.getD i 0)
theorem list_eq_seg {w : List Nat} {A : Nat → Nat} {o n : Nat} (hl : w.length = n) : w = seg A o n ↔ ∀ i, i < n → w.getD i 0 = A (o + i) := by
  constructor
  · rintro h i hi
    rw [h]
    simp [seg, List.getD_eq_getElem?_getD, hi]
  · intro h
    apply List.ext_getElem
    · rw [hl, seg_l]
    · intro i h1 h2
      have := h i (by omega)
      rw [List.getD_eq_getElem?_getD, List.getElem?_eq_getElem h1] at this
      simp [seg]
      exact this
theorem c8_eq : ∀ a, a < 128 → ∀ b, b < 256 → (nI a = c8 b ↔ a = b) := by
  have h : ∀ b, b < 256 → (c8 b = nI b ∧ b < 128) ∨ (c8 b < 0 ∧ 128 ≤ b) := by decide +kernel
  intro a ha b hb
  rcases h b hb with ⟨h1, h2⟩ | ⟨h1, h2⟩
  · rw [h1, nI_eq (by omega) (by omega)]
  · constructor
    · intro e
      rw [← e] at h1
      exact absurd h1 (nI_pos (by omega))
    · intro e; omega
theorem wd_lt {S : et_T} (hw : wt_S S) {s e : Nat} (hs : s < S 61 1) (he : e < 15) : ∀ x ∈ wd S s e, x < 128 := by
  obtain ⟨-, -, h1, h2, h3⟩ := hw
  have a1 := (h1 s hs).2
  have a2 := (h2 e he).2
  have sg : ∀ (A : Nat → Nat) (o n x : Nat), x ∈ seg A o n → ∃ i, i < n ∧ x = A (o + i) := by
    intro A o n x hx
    simp only [seg, List.mem_map, List.mem_range] at hx
    obtain ⟨i, hi, e⟩ := hx
    exact ⟨i, hi, e.symm⟩
  intro x
  unfold wd
  split
  · intro hx; cases hx
  · split
    · intro hx
      rcases List.mem_append.mp hx with h | h
      · obtain ⟨i, hi, rfl⟩ := sg _ _ _ _ h; exact a1 i hi
      · obtain ⟨i, hi, rfl⟩ := sg _ _ _ _ h; exact a2 i hi
    · rename_i hn
      have hl := fc_le S s e (S 61 2) 0
      have hlt : fc S s e < S 61 2 := by unfold fc at hn ⊢; omega
      have a3 := (h3 (fc S s e) hlt 2 (by omega)).2
      intro hx
      rcases List.mem_append.mp hx with h | h
      · rcases List.mem_append.mp h with h | h
        · obtain ⟨i, hi, rfl⟩ := sg _ _ _ _ h; exact a1 i (by omega)
        · obtain ⟨i, hi, rfl⟩ := sg _ _ _ _ h
          exact a3 i hi
      · obtain ⟨i, hi, rfl⟩ := sg _ _ _ _ h
        have := a2 (S 64 (27 * fc S s e + 9) + i) (by omega)
        rw [show 9 * e + 1 + S 64 (27 * fc S s e + 9) + i = 9 * e + 1 + (S 64 (27 * fc S s e + 9) + i) from by omega]
        exact this
theorem gd_mem {w : List Nat} {i : Nat} (h : i < w.length) : w.getD i 0 ∈ w := by
  rw [List.getD_eq_getElem?_getD, List.getElem?_eq_getElem h]
  exact List.getElem_mem h
/-- is what was made what stands on the tape? -/
theorem im_c {S : et_T} {g : et_G} {w : List Nat} {lo n : Nat} (hb : bf_c g w) (hw : ∀ x ∈ w, x < 128) (ht : ∀ i, i < 800 → g.1 1 i = c8 (S 71 i)) (hb8 : ∀ i, i < 800 → S 71 i < 256) (hn : lo + n ≤ 800) (hl : w.length = n) : fn_To_isMade_1 (nI lo) (nI n) g = some (io (w = seg (S 71) lo n) 1 0, g) := by
  unfold fn_To_isMade_1
  have h24 := hb.2.1
  rw [hb.1, if_pos (by rw [hl]), show (0 : Int32) = nI 0 from rfl, as_61 (by omega) hn, bd_s]
  have e : (∀ i, i < n → g.1 6 (0 + i) = g.1 1 (lo + i)) ↔ w = seg (S 71) lo n := by
    rw [list_eq_seg hl]
    constructor
    · intro h i hi
      have := h i hi
      rw [Nat.zero_add, hb.2.2 i (by omega), ht (lo + i) (by omega), c8_eq _ (hw _ (gd_mem (by omega))) _ (hb8 _ (by omega))] at this
      exact this
    · intro h i hi
      rw [Nat.zero_add, hb.2.2 i (by omega), ht (lo + i) (by omega), c8_eq _ (hw _ (gd_mem (by omega))) _ (hb8 _ (by omega))]
      exact h i hi
  rw [io_c e]
  by_cases h : w = seg (S 71) lo n
  · rw [io_t h, io_t h, if_neg (by decide)]
  · rw [io_f h, io_f h, if_pos (by decide)]
def ww_29 (k j : Nat) : Bool := wb_c k j || k == 30 || (k == 29 && j == 1)
theorem f29_k {g : et_G} {l : List Nat} {v : Nat} (hl : l.length < 180) (h : wr g 29 30 l) : ev_Q (fn_Wa_keep (nI v) g) (fun _ g' => wr g' 29 30 (l ++ [v]) ∧ fq ww_29 g g') := by
  unfold fn_Wa_keep
  rw [h.1]
  simp (disch := omega) only [ni_of, ni_le, nI_clamp, ib_e, ck_t, et_b]
  rw [if_neg (by omega)]
  refine ev_r ⟨⟨by simp [si_g, h.1, nI_add], fun i hi => ?_⟩, fq_s (fq_s (fq_r _ _) (by simp [ww_29])) (by simp [ww_29])⟩
  simp at hi
  rw [gd_a hi]
  simp only [si_g]
  rw [if_neg (by omega)]
  by_cases e : i = l.length
  · simp [e]
  · rw [if_neg (by omega), if_neg e]; exact h.2 i (by omega)
/-- what holds while one looks for the ways: those below v are found -/
def f29_I (S : et_T) (g0 : et_G) (lo n v : Nat) (g : et_G) : Prop := wr g 29 30 (wl S lo n v) ∧ fq ww_29 g0 g
section F29
variable {S : et_T} {g0 : et_G} {lo n : Nat} {Q : Unit → et_G → Prop}
theorem f29_43 (hC : rc_tong S g0) (hw : wf_town S) (ht : ∀ i, i < 800 → g0.1 1 i = c8 (S 71 i)) (hb8 : ∀ i, i < 800 → S 71 i < 256) (hn : lo + n ≤ 800) (h0 : 0 < n) (h24 : n ≤ 24) {r22 r34 : Int32 → et_G → Option (Unit × et_G)} {s b : Nat} (hs : s < S 61 1) (hb : b < 3) (kk : ∀ g', f29_I S g0 lo n (15 * s + 5 * b + 5) g' → ev_Q (r34 (nI (b + 1)) g') Q) :
    ∀ d m h g, h + d = 5 → d < m → f29_I S g0 lo n (15 * s + 5 * b + h) g → ev_Q (fn_Wa_find_1_43 r22 r34 (nI lo) (nI n) (nI s) (nI b) m (nI h) g) Q := by
  have hwt := wt_of hC hw
  have w1 : S 61 1 ≤ 12 := hw.1
  intro d
  induction d with
  | zero =>
    intro m h g hd hm hI
    obtain ⟨m, rfl⟩ : ∃ k, m = k + 1 := ⟨m - 1, by omega⟩
    rw [fn_Wa_find_1_43]
    simp (disch := omega) only [ni_of, ni_le, nI_add, et_b]
    rw [if_pos (by omega)]
    exact kk g (by rw [show 15 * s + 5 * b + 5 = 15 * s + 5 * b + h from by omega]; exact hI)
  | succ d ih =>
    intro m h g hd hm hI
    obtain ⟨m, rfl⟩ : ∃ k, m = k + 1 := ⟨m - 1, by omega⟩
    rw [fn_Wa_find_1_43]
    simp (disch := omega) only [ni_of, ni_le, nI_add, et_b, pk_mul]
    rw [if_neg (by omega)]
    obtain ⟨i1, i2⟩ := hI
    have c1 : rc_tong S g := rc_tong_q i2 (ag_r S) ⟨rfl, rfl, fun _ => rfl, fun _ => rfl⟩ ⟨rfl, rfl, fun _ => rfl, fun _ => rfl, fun _ => rfl, fun _ => rfl⟩ hC
    have hv : (15 * s + 5 * b + h) / 15 = s ∧ (15 * s + 5 * b + h) % 15 = 5 * b + h := by omega
    have hl15 := wl_len S lo n (15 * s + 5 * b + h)
    refine ev_d (mk_c c1 hw hs hb (show h < 5 by omega)) (fun a g1 h1 => ?_)
    obtain ⟨rfl, b1, f1⟩ := h1
    have fw : fq ww_29 g g1 := fq_w f1 (fun k j h => by simp [ww_29] at h; exact h.1.1)
    have r1 : wr g1 29 30 (wl S lo n (15 * s + 5 * b + h)) := ⟨by rw [f1.1 29 1 rfl]; exact i1.1, fun i hi => by rw [f1.1 30 i rfl]; exact i1.2 i hi⟩
    have hlen := wd_len hwt hs (show 5 * b + h < 15 by omega)
    by_cases hq : (wd S s (5 * b + h)).length = n
    · rw [if_pos (by rw [hq])]
      have ht1 : ∀ i, i < 800 → g1.1 1 i = c8 (S 71 i) := fun i hi => by rw [f1.1 1 i rfl, i2.1 1 i rfl]; exact ht i hi
      rw [im_c b1 (wd_lt hwt hs (show 5 * b + h < 15 by omega)) ht1 hb8 hn hq, bd_s]
      by_cases hm : wd S s (5 * b + h) = seg (S 71) lo n
      · rw [io_t hm, if_neg (by decide)]
        refine ev_d (f29_k (by omega) r1) (fun _ g2 h2 => ?_)
        refine ih m (h + 1) g2 (by omega) (by omega) ⟨?_, fq_t (fq_t i2 fw) h2.2⟩
        show wr g2 29 30 (wl S lo n (15 * s + 5 * b + h + 1))
        unfold wl
        rw [io_t ⟨h0, by rw [hv.1, hv.2]; exact hm⟩]
        exact h2.1
      · rw [io_f hm, if_pos (by decide)]
        refine ih m (h + 1) g1 (by omega) (by omega) ⟨?_, fq_t i2 fw⟩
        show wr g1 29 30 (wl S lo n (15 * s + 5 * b + h + 1))
        unfold wl
        rw [io_f (fun e => hm (by have := e.2; rw [hv.1, hv.2] at this; exact this))]
        exact r1
    · rw [if_neg (by rw [ni_eq (by omega) (by omega)]; exact hq)]
      refine ih m (h + 1) g1 (by omega) (by omega) ⟨?_, fq_t i2 fw⟩
      show wr g1 29 30 (wl S lo n (15 * s + 5 * b + h + 1))
      unfold wl
      rw [io_f (fun e => hq (by have := e.2; rw [hv.1, hv.2] at this; rw [this, seg_l]))]
      exact r1
theorem f29_34 (hC : rc_tong S g0) (hw : wf_town S) (ht : ∀ i, i < 800 → g0.1 1 i = c8 (S 71 i)) (hb8 : ∀ i, i < 800 → S 71 i < 256) (hn : lo + n ≤ 800) (h0 : 0 < n) (h24 : n ≤ 24) {r22 : Int32 → et_G → Option (Unit × et_G)} {s : Nat} (hs : s < S 61 1) (kk : ∀ g', f29_I S g0 lo n (15 * (s + 1)) g' → ev_Q (r22 (nI (s + 1)) g') Q) :
    ∀ d m b g, b + d = 3 → d < m → f29_I S g0 lo n (15 * s + 5 * b) g → ev_Q (fn_Wa_find_1_34 r22 (nI lo) (nI n) (nI s) m (nI b) g) Q := by
  intro d
  induction d with
  | zero =>
    intro m b g hd hm hI
    obtain ⟨m, rfl⟩ : ∃ k, m = k + 1 := ⟨m - 1, by omega⟩
    rw [fn_Wa_find_1_34]
    simp (disch := omega) only [ni_of, ni_le, nI_add, et_b]
    rw [if_pos (by omega)]
    exact kk g (by rw [show 15 * (s + 1) = 15 * s + 5 * b from by omega]; exact hI)
  | succ d ih =>
    intro m b g hd hm hI
    obtain ⟨m, rfl⟩ : ∃ k, m = k + 1 := ⟨m - 1, by omega⟩
    rw [fn_Wa_find_1_34]
    simp (disch := omega) only [ni_of, ni_le, nI_add, et_b]
    rw [if_neg (by omega)]
    exact f29_43 hC hw ht hb8 hn h0 h24 hs (show b < 3 by omega) (fun g' hI' => ih m (b + 1) g' (by omega) (by omega) hI') 5 1000000 0 g (by omega) (by omega) hI
theorem f29_22 (hC : rc_tong S g0) (hw : wf_town S) (ht : ∀ i, i < 800 → g0.1 1 i = c8 (S 71 i)) (hb8 : ∀ i, i < 800 → S 71 i < 256) (hn : lo + n ≤ 800) (h0 : 0 < n) (h24 : n ≤ 24) :
    ∀ d m s g, s + d = S 61 1 → d < m → f29_I S g0 lo n (15 * s) g → ev_Q (fn_Wa_find_1_22 (nI lo) (nI n) m (nI s) g) (fun _ g' => f29_I S g0 lo n (15 * S 61 1) g') := by
  have w1 : S 61 1 ≤ 12 := hw.1
  intro d
  induction d with
  | zero =>
    intro m s g hd hm hI
    obtain ⟨m, rfl⟩ : ∃ k, m = k + 1 := ⟨m - 1, by omega⟩
    rw [fn_Wa_find_1_22, hI.2.1 3 2 rfl, hC.1, if_pos (nI_le (by omega) (by omega))]
    exact ev_r (by rw [show S 61 1 = s from by omega]; exact hI)
  | succ d ih =>
    intro m s g hd hm hI
    obtain ⟨m, rfl⟩ : ∃ k, m = k + 1 := ⟨m - 1, by omega⟩
    rw [fn_Wa_find_1_22, hI.2.1 3 2 rfl, hC.1, if_neg (nI_ge (by omega) (by omega))]
    exact f29_34 hC hw ht hb8 hn h0 h24 (show s < S 61 1 by omega) (fun g' hI' => ih m (s + 1) g' (by omega) (by omega) hI') 3 1000000 0 g (by omega) (by omega) (by rw [Nat.mul_zero, Nat.add_zero]; exact hI)
end F29
theorem wl_none {S : et_T} {lo n : Nat} (hwt : wt_S S) (hn : n = 0 ∨ 24 < n) : ∀ v, v ≤ 15 * S 61 1 → wl S lo n v = [] := by
  intro v
  induction v with
  | zero => intro _; rfl
  | succ v ih =>
    intro hv
    unfold wl
    rw [io_f (fun e => ?_), ih (by omega)]
    rcases hn with h | h
    · have := e.1; omega
    · have h1 := wd_len hwt (show v / 15 < S 61 1 by omega) (show v % 15 < 15 by omega)
      rw [e.2, seg_l] at h1
      omega
theorem f29_e {S : et_T} {g : et_G} {lo n : Nat} (hC : rc_tong S g) (hw : wf_town S) (ht : ∀ i, i < 800 → g.1 1 i = c8 (S 71 i)) (hb8 : ∀ i, i < 800 → S 71 i < 256) (hn : lo + n ≤ 800) : ev_Q (fn_Wa_find_1 (nI lo) (nI n) g) (fun _ g' => wr g' 29 30 (wl S lo n (15 * S 61 1)) ∧ fq ww_29 g g') := by
  unfold fn_Wa_find_1
  simp (disch := omega) only [ni_of, ni_lt, ni_le, et_b]
  have f0 : fq ww_29 g (et_si g 29 1 (nI 0)) := fq_s (fq_r _ _) rfl
  have r0 : wr (et_si g 29 1 (nI 0)) 29 30 [] := ⟨by simp [si_g], fun i hi => by simp at hi⟩
  by_cases h1 : n < 1
  · rw [if_pos h1, wl_none (wt_of hC hw) (Or.inl (by omega)) _ (Nat.le_refl _)]
    exact ev_r ⟨r0, f0⟩
  · rw [if_neg h1]
    by_cases h2 : n ≤ 24
    · rw [if_pos h2]
      have w1 : S 61 1 ≤ 12 := hw.1
      exact f29_22 hC hw ht hb8 hn (by omega) h2 (S 61 1) 1000000 0 _ (by omega) (by omega) ⟨r0, f0⟩
    · rw [if_neg h2, wl_none (wt_of hC hw) (Or.inr (by omega)) _ (Nat.le_refl _)]
      exact ev_r ⟨r0, f0⟩
def ww_32 (k j : Nat) : Bool := wb_c k j || k == 33 || (k == 32 && j == 1)
theorem f32_k {g : et_G} {l : List Nat} {v : Nat} (hl : l.length < 180) (h : wr g 32 33 l) : ev_Q (fn_Wa_keep_32 (nI v) g) (fun _ g' => wr g' 32 33 (l ++ [v]) ∧ fq ww_32 g g') := by
  unfold fn_Wa_keep_32
  rw [h.1]
  simp (disch := omega) only [ni_of, ni_le, nI_clamp, ib_e, ck_t, et_b]
  rw [if_neg (by omega)]
  refine ev_r ⟨⟨by simp [si_g, h.1, nI_add], fun i hi => ?_⟩, fq_s (fq_s (fq_r _ _) (by simp [ww_32])) (by simp [ww_32])⟩
  simp at hi
  rw [gd_a hi]
  simp only [si_g]
  rw [if_neg (by omega)]
  by_cases e : i = l.length
  · simp [e]
  · rw [if_neg (by omega), if_neg e]; exact h.2 i (by omega)
/-- what holds while one looks for the ways: those below v are found -/
def f32_I (S : et_T) (g0 : et_G) (lo n v : Nat) (g : et_G) : Prop := wr g 32 33 (wl S lo n v) ∧ fq ww_32 g0 g
section F32
variable {S : et_T} {g0 : et_G} {lo n : Nat} {Q : Unit → et_G → Prop}
theorem f32_43 (hC : rc_tong S g0) (hw : wf_town S) (ht : ∀ i, i < 800 → g0.1 1 i = c8 (S 71 i)) (hb8 : ∀ i, i < 800 → S 71 i < 256) (hn : lo + n ≤ 800) (h0 : 0 < n) (h24 : n ≤ 24) {r22 r34 : Int32 → et_G → Option (Unit × et_G)} {s b : Nat} (hs : s < S 61 1) (hb : b < 3) (kk : ∀ g', f32_I S g0 lo n (15 * s + 5 * b + 5) g' → ev_Q (r34 (nI (b + 1)) g') Q) :
    ∀ d m h g, h + d = 5 → d < m → f32_I S g0 lo n (15 * s + 5 * b + h) g → ev_Q (fn_Wa_find_32_1_43 r22 r34 (nI lo) (nI n) (nI s) (nI b) m (nI h) g) Q := by
  have hwt := wt_of hC hw
  have w1 : S 61 1 ≤ 12 := hw.1
  intro d
  induction d with
  | zero =>
    intro m h g hd hm hI
    obtain ⟨m, rfl⟩ : ∃ k, m = k + 1 := ⟨m - 1, by omega⟩
    rw [fn_Wa_find_32_1_43]
    simp (disch := omega) only [ni_of, ni_le, nI_add, et_b]
    rw [if_pos (by omega)]
    exact kk g (by rw [show 15 * s + 5 * b + 5 = 15 * s + 5 * b + h from by omega]; exact hI)
  | succ d ih =>
    intro m h g hd hm hI
    obtain ⟨m, rfl⟩ : ∃ k, m = k + 1 := ⟨m - 1, by omega⟩
    rw [fn_Wa_find_32_1_43]
    simp (disch := omega) only [ni_of, ni_le, nI_add, et_b, pk_mul]
    rw [if_neg (by omega)]
    obtain ⟨i1, i2⟩ := hI
    have c1 : rc_tong S g := rc_tong_q i2 (ag_r S) ⟨rfl, rfl, fun _ => rfl, fun _ => rfl⟩ ⟨rfl, rfl, fun _ => rfl, fun _ => rfl, fun _ => rfl, fun _ => rfl⟩ hC
    have hv : (15 * s + 5 * b + h) / 15 = s ∧ (15 * s + 5 * b + h) % 15 = 5 * b + h := by omega
    have hl15 := wl_len S lo n (15 * s + 5 * b + h)
    refine ev_d (mk_c c1 hw hs hb (show h < 5 by omega)) (fun a g1 h1 => ?_)
    obtain ⟨rfl, b1, f1⟩ := h1
    have fw : fq ww_32 g g1 := fq_w f1 (fun k j h => by simp [ww_32] at h; exact h.1.1)
    have r1 : wr g1 32 33 (wl S lo n (15 * s + 5 * b + h)) := ⟨by rw [f1.1 32 1 rfl]; exact i1.1, fun i hi => by rw [f1.1 33 i rfl]; exact i1.2 i hi⟩
    have hlen := wd_len hwt hs (show 5 * b + h < 15 by omega)
    by_cases hq : (wd S s (5 * b + h)).length = n
    · rw [if_pos (by rw [hq])]
      have ht1 : ∀ i, i < 800 → g1.1 1 i = c8 (S 71 i) := fun i hi => by rw [f1.1 1 i rfl, i2.1 1 i rfl]; exact ht i hi
      rw [im_c b1 (wd_lt hwt hs (show 5 * b + h < 15 by omega)) ht1 hb8 hn hq, bd_s]
      by_cases hm : wd S s (5 * b + h) = seg (S 71) lo n
      · rw [io_t hm, if_neg (by decide)]
        refine ev_d (f32_k (by omega) r1) (fun _ g2 h2 => ?_)
        refine ih m (h + 1) g2 (by omega) (by omega) ⟨?_, fq_t (fq_t i2 fw) h2.2⟩
        show wr g2 32 33 (wl S lo n (15 * s + 5 * b + h + 1))
        unfold wl
        rw [io_t ⟨h0, by rw [hv.1, hv.2]; exact hm⟩]
        exact h2.1
      · rw [io_f hm, if_pos (by decide)]
        refine ih m (h + 1) g1 (by omega) (by omega) ⟨?_, fq_t i2 fw⟩
        show wr g1 32 33 (wl S lo n (15 * s + 5 * b + h + 1))
        unfold wl
        rw [io_f (fun e => hm (by have := e.2; rw [hv.1, hv.2] at this; exact this))]
        exact r1
    · rw [if_neg (by rw [ni_eq (by omega) (by omega)]; exact hq)]
      refine ih m (h + 1) g1 (by omega) (by omega) ⟨?_, fq_t i2 fw⟩
      show wr g1 32 33 (wl S lo n (15 * s + 5 * b + h + 1))
      unfold wl
      rw [io_f (fun e => hq (by have := e.2; rw [hv.1, hv.2] at this; rw [this, seg_l]))]
      exact r1
theorem f32_34 (hC : rc_tong S g0) (hw : wf_town S) (ht : ∀ i, i < 800 → g0.1 1 i = c8 (S 71 i)) (hb8 : ∀ i, i < 800 → S 71 i < 256) (hn : lo + n ≤ 800) (h0 : 0 < n) (h24 : n ≤ 24) {r22 : Int32 → et_G → Option (Unit × et_G)} {s : Nat} (hs : s < S 61 1) (kk : ∀ g', f32_I S g0 lo n (15 * (s + 1)) g' → ev_Q (r22 (nI (s + 1)) g') Q) :
    ∀ d m b g, b + d = 3 → d < m → f32_I S g0 lo n (15 * s + 5 * b) g → ev_Q (fn_Wa_find_32_1_34 r22 (nI lo) (nI n) (nI s) m (nI b) g) Q := by
  intro d
  induction d with
  | zero =>
    intro m b g hd hm hI
    obtain ⟨m, rfl⟩ : ∃ k, m = k + 1 := ⟨m - 1, by omega⟩
    rw [fn_Wa_find_32_1_34]
    simp (disch := omega) only [ni_of, ni_le, nI_add, et_b]
    rw [if_pos (by omega)]
    exact kk g (by rw [show 15 * (s + 1) = 15 * s + 5 * b from by omega]; exact hI)
  | succ d ih =>
    intro m b g hd hm hI
    obtain ⟨m, rfl⟩ : ∃ k, m = k + 1 := ⟨m - 1, by omega⟩
    rw [fn_Wa_find_32_1_34]
    simp (disch := omega) only [ni_of, ni_le, nI_add, et_b]
    rw [if_neg (by omega)]
    exact f32_43 hC hw ht hb8 hn h0 h24 hs (show b < 3 by omega) (fun g' hI' => ih m (b + 1) g' (by omega) (by omega) hI') 5 1000000 0 g (by omega) (by omega) hI
theorem f32_22 (hC : rc_tong S g0) (hw : wf_town S) (ht : ∀ i, i < 800 → g0.1 1 i = c8 (S 71 i)) (hb8 : ∀ i, i < 800 → S 71 i < 256) (hn : lo + n ≤ 800) (h0 : 0 < n) (h24 : n ≤ 24) :
    ∀ d m s g, s + d = S 61 1 → d < m → f32_I S g0 lo n (15 * s) g → ev_Q (fn_Wa_find_32_1_22 (nI lo) (nI n) m (nI s) g) (fun _ g' => f32_I S g0 lo n (15 * S 61 1) g') := by
  have w1 : S 61 1 ≤ 12 := hw.1
  intro d
  induction d with
  | zero =>
    intro m s g hd hm hI
    obtain ⟨m, rfl⟩ : ∃ k, m = k + 1 := ⟨m - 1, by omega⟩
    rw [fn_Wa_find_32_1_22, hI.2.1 3 2 rfl, hC.1, if_pos (nI_le (by omega) (by omega))]
    exact ev_r (by rw [show S 61 1 = s from by omega]; exact hI)
  | succ d ih =>
    intro m s g hd hm hI
    obtain ⟨m, rfl⟩ : ∃ k, m = k + 1 := ⟨m - 1, by omega⟩
    rw [fn_Wa_find_32_1_22, hI.2.1 3 2 rfl, hC.1, if_neg (nI_ge (by omega) (by omega))]
    exact f32_34 hC hw ht hb8 hn h0 h24 (show s < S 61 1 by omega) (fun g' hI' => ih m (s + 1) g' (by omega) (by omega) hI') 3 1000000 0 g (by omega) (by omega) (by rw [Nat.mul_zero, Nat.add_zero]; exact hI)
end F32
theorem wl_none_32 {S : et_T} {lo n : Nat} (hwt : wt_S S) (hn : n = 0 ∨ 24 < n) : ∀ v, v ≤ 15 * S 61 1 → wl S lo n v = [] := by
  intro v
  induction v with
  | zero => intro _; rfl
  | succ v ih =>
    intro hv
    unfold wl
    rw [io_f (fun e => ?_), ih (by omega)]
    rcases hn with h | h
    · have := e.1; omega
    · have h1 := wd_len hwt (show v / 15 < S 61 1 by omega) (show v % 15 < 15 by omega)
      rw [e.2, seg_l] at h1
      omega
theorem f32_e {S : et_T} {g : et_G} {lo n : Nat} (hC : rc_tong S g) (hw : wf_town S) (ht : ∀ i, i < 800 → g.1 1 i = c8 (S 71 i)) (hb8 : ∀ i, i < 800 → S 71 i < 256) (hn : lo + n ≤ 800) : ev_Q (fn_Wa_find_32_1 (nI lo) (nI n) g) (fun _ g' => wr g' 32 33 (wl S lo n (15 * S 61 1)) ∧ fq ww_32 g g') := by
  unfold fn_Wa_find_32_1
  simp (disch := omega) only [ni_of, ni_lt, ni_le, et_b]
  have f0 : fq ww_32 g (et_si g 32 1 (nI 0)) := fq_s (fq_r _ _) rfl
  have r0 : wr (et_si g 32 1 (nI 0)) 32 33 [] := ⟨by simp [si_g], fun i hi => by simp at hi⟩
  by_cases h1 : n < 1
  · rw [if_pos h1, wl_none_32 (wt_of hC hw) (Or.inl (by omega)) _ (Nat.le_refl _)]
    exact ev_r ⟨r0, f0⟩
  · rw [if_neg h1]
    by_cases h2 : n ≤ 24
    · rw [if_pos h2]
      have w1 : S 61 1 ≤ 12 := hw.1
      exact f32_22 hC hw ht hb8 hn (by omega) h2 (S 61 1) 1000000 0 _ (by omega) (by omega) ⟨r0, f0⟩
    · rw [if_neg h2, wl_none_32 (wt_of hC hw) (Or.inr (by omega)) _ (Nat.le_refl _)]
      exact ev_r ⟨r0, f0⟩
