/-! the light calls -/
def iN (p : Int32) (n : Nat) : Prop := ¬ p < 0 ∧ ¬ nI n ≤ p
noncomputable def io (c : Prop) {α : Type} (a b : α) : α := @ite α c (Classical.propDecidable c) a b
theorem io_t {c : Prop} {α : Type} {a b : α} (h : c) : io c a b = a := if_pos h
theorem io_f {c : Prop} {α : Type} {a b : α} (h : ¬ c) : io c a b = b := if_neg h
theorem iN_e {p : Int32} {n : Nat} (h : iN p n) (hn : n < 2 ^ 31) : ∃ j, j < n ∧ p = nI j := by
  rcases pk_ix p hn with h1 | h1 | h1
  · exact absurd h1 h.1
  · exact absurd h1 h.2
  · exact h1
theorem iN_n {j n : Nat} (h : j < n) (hn : n < 2 ^ 31) : iN (nI j) n := ⟨nI_pos (by omega), nI_ge h hn⟩
theorem si_si (g : et_G) (k j : Nat) (x y : Int32) : et_si (et_si g k j x) k j y = et_si g k j y := by
  unfold et_si
  simp only [Prod.mk.injEq, and_true]
  funext a b
  by_cases h : a = k
  · subst h
    by_cases h2 : b = j
    · simp [upd, h2]
    · simp [upd, h2]
  · simp [h]
theorem hp_c {g : et_G} {P : Nat} (h : g.1 2 3 = nI P) (p : Int32) : fn_Tw_hasPerson p g = some (io (iN p P) 1 0, g) := by
  unfold fn_Tw_hasPerson
  rw [h]
  by_cases h1 : p < 0
  · rw [if_pos h1, io_f (fun e => e.1 h1)]
  · rw [if_neg h1]
    by_cases h2 : nI P ≤ p
    · rw [if_pos h2, io_f (fun e => e.2 h2)]
    · rw [if_neg h2, io_t ⟨h1, h2⟩]
theorem ht_c {g : et_G} {P : Nat} (h : g.1 2 5 = nI P) (p : Int32) : fn_Tw_hasThing p g = some (io (iN p P) 1 0, g) := by
  unfold fn_Tw_hasThing
  rw [h]
  by_cases h1 : p < 0
  · rw [if_pos h1, io_f (fun e => e.1 h1)]
  · rw [if_neg h1]
    by_cases h2 : nI P ≤ p
    · rw [if_pos h2, io_f (fun e => e.2 h2)]
    · rw [if_neg h2, io_t ⟨h1, h2⟩]
theorem hh_c (g : et_G) (p : Int32) : fn_Tw_isHour p g = some (io (iN p 24) 1 0, g) := by
  unfold fn_Tw_isHour
  by_cases h1 : p < 0
  · rw [if_pos h1, io_f (fun e => e.1 h1)]
  · rw [if_neg h1]
    by_cases h2 : nI 24 ≤ p
    · rw [if_pos (show (24 : Int32) ≤ p from h2), io_f (fun e => e.2 h2)]
    · rw [if_neg (show ¬ (24 : Int32) ≤ p from h2), io_t ⟨h1, h2⟩]
theorem np_c {g : et_G} {P : Nat} (h : g.1 2 3 = nI P) (p : Int32) : fn_Et_needPerson p g = some (io (iN p P) (.inr ()) (.inl 0), g) := by
  unfold fn_Et_needPerson
  rw [hp_c h, bd_s]
  by_cases h1 : iN p P
  · rw [io_t h1, io_t h1, if_neg (by decide)]
  · rw [io_f h1, io_f h1, if_pos rfl]
theorem nt_c {g : et_G} {P : Nat} (h : g.1 2 5 = nI P) (p : Int32) : fn_Et_needThing p g = some (io (iN p P) (.inr ()) (.inl 0), g) := by
  unfold fn_Et_needThing
  rw [ht_c h, bd_s]
  by_cases h1 : iN p P
  · rw [io_t h1, io_t h1, if_neg (by decide)]
  · rw [io_f h1, io_f h1, if_pos rfl]
theorem nh_c (g : et_G) (p : Int32) : fn_Et_needHour p g = some (io (iN p 24) (.inr ()) (.inl 0), g) := by
  unfold fn_Et_needHour
  rw [hh_c, bd_s]
  by_cases h1 : iN p 24
  · rw [io_t h1, io_t h1, if_neg (by decide)]
  · rw [io_f h1, io_f h1, if_pos rfl]
/-! the model's own checks -/
theorem ri_y {g : et_G} (h : g.1 61 0 = 0) (x w : Int32) (hx : ¬ x = 0) : fn_Mo_right x w g = some (1, g) := by
  unfold fn_Mo_right fn_Mo_right_16
  rw [if_pos h, if_neg hx, if_pos h]
theorem ri_n {g : et_G} (h : g.1 61 0 = 0) (w : Int32) (hw : ¬ w = 0) : fn_Mo_right 0 w g = some (0, et_si g 61 0 w) := by
  unfold fn_Mo_right fn_Mo_right_16
  rw [if_pos h, if_pos rfl]
  simp only [et_b]
  rw [if_neg (by simp [si_g, hw])]
theorem wi_c (p : Int32) (n : Nat) (hn : n < 2 ^ 31 - 1) (g : et_G) : fn_Mo_within p 0 (nI n) g = some (io (iN p (n + 1)) 1 0, g) := by
  unfold fn_Mo_within
  by_cases h1 : p < 0
  · rw [if_pos h1, io_f (fun e => e.1 h1)]
  · rw [if_neg h1]
    by_cases h2 : iN p (n + 1)
    · obtain ⟨j, hj, rfl⟩ := iN_e h2 (by omega)
      rw [io_t h2, if_neg (nI_nlt (by omega) (by omega))]
    · rw [io_f h2, if_pos]
      have h3 : nI (n + 1) ≤ p := Classical.byContradiction fun h => h2 ⟨h1, h⟩
      exact Int32.lt_of_lt_of_le (nI_lt (Nat.lt_succ_self n) (by omega)) h3
theorem iw_y {g : et_G} {P j h : Nat} (h0 : g.1 61 0 = 0) (hP : g.1 61 4 = nI P) (hP2 : P < 2 ^ 31) (hj : j < P) (hh : h < 24) : fn_Mo_isWho (nI j) (nI h) g = some (1, g) := by
  unfold fn_Mo_isWho
  rw [if_neg (nI_pos (by omega)), hP, if_neg (nI_ge hj hP2), show (23 : Int32) = nI 23 from rfl, wi_c _ 23 (by decide), io_t (iN_n (by omega) (by decide)), bd_s, if_neg (by decide)]
  unfold fn_Mo_isWho_28
  rw [ri_y h0 _ _ (by decide), bd_s]
  rfl
theorem iw_28 {g : et_G} (h0 : g.1 61 0 = 0) : fn_Mo_isWho_27 g = some (0, et_si g 61 0 1) := by
  unfold fn_Mo_isWho_27 fn_Mo_isWho_28
  rw [ri_n h0 _ (by decide), bd_s]
  rfl
theorem iw_n {g : et_G} {P : Nat} {p q : Int32} (h0 : g.1 61 0 = 0) (hP : g.1 61 4 = nI P) (hn : ¬ (iN p P ∧ iN q 24)) : fn_Mo_isWho p q g = some (0, et_si g 61 0 1) := by
  unfold fn_Mo_isWho
  rw [hP, show (23 : Int32) = nI 23 from rfl, wi_c _ 23 (by decide), bd_s, iw_28 h0]
  by_cases h1 : p < 0
  · rw [if_pos h1]
  · rw [if_neg h1]
    by_cases h2 : nI P ≤ p
    · rw [if_pos h2]
    · rw [if_neg h2, io_f (fun e => hn ⟨⟨h1, h2⟩, e⟩), if_pos rfl]
theorem it_y {g : et_G} {P j : Nat} (h0 : g.1 61 0 = 0) (hP : g.1 61 5 = nI P) (hP2 : P < 2 ^ 31) (hj : j < P) : fn_Mo_isThing (nI j) g = some (1, g) := by
  unfold fn_Mo_isThing
  rw [if_neg (nI_pos (by omega)), hP, if_neg (nI_ge hj hP2)]
  unfold fn_Mo_isThing_18
  rw [ri_y h0 _ _ (by decide), bd_s]
  rfl
theorem it_n {g : et_G} {P : Nat} {p : Int32} (h0 : g.1 61 0 = 0) (hP : g.1 61 5 = nI P) (hn : ¬ iN p P) : fn_Mo_isThing p g = some (0, et_si g 61 0 1) := by
  unfold fn_Mo_isThing fn_Mo_isThing_17 fn_Mo_isThing_18
  rw [hP, ri_n h0 _ (by decide), bd_s]
  by_cases h1 : p < 0
  · rw [if_pos h1]; rfl
  · rw [if_neg h1]
    by_cases h2 : nI P ≤ p
    · rw [if_pos h2]; rfl
    · exact absurd ⟨h1, h2⟩ hn
/-- an outcome: thrown, or a number; the model's code of it, its answer -/
abbrev et_oc : Type := Nat ⊕ Int32
def th_o (o : et_oc) : Int32 := match o with | .inl _ => 1 | .inr _ => 0
def va_o (o : et_oc) : Int32 := match o with | .inl _ => 0 | .inr v => v
/-! where -/
noncomputable def wh_o (S : et_T) (p q : Int32) : et_oc := io (iN p (S 61 4) ∧ iN q 24) (.inr (nI (S 69 (24 * p.toNatClampNeg + q.toNatClampNeg)))) (.inl 0)
theorem pa_c {S : et_T} {g : et_G} (hC : rc_town S g) (hP : S 61 4 ≤ 6) {j h : Nat} (hj : j < S 61 4) (hh : h < 24) : fn_Tw_placeAt (nI j) (nI h) g = some (nI (S 69 (24 * j + h)), g) := by
  obtain ⟨-, e2, -, -, -, e6, -⟩ := hC
  unfold fn_Tw_placeAt
  rw [e2]
  simp (disch := omega) only [ni_of, pk_mul, nI_add, ni_lt, ni_le, nI_clamp, ib_e, ck_t]
  rw [if_neg (by omega), if_neg (by omega), if_neg (by omega), if_pos (by omega), e6 _ (by omega), Nat.mul_comm]
theorem wh_c {S : et_T} {g : et_G} (hC : rc_town S g) (hw : wf_town S) (p q : Int32) : fn_Et_where p q g = some (wh_o S p q, g) := by
  have e2 := hC.2.1
  have hP : S 61 4 ≤ 6 := hw.2.2.2.2.1
  unfold fn_Et_where wh_o
  rw [np_c e2]
  by_cases h1 : iN p (S 61 4)
  · rw [io_t h1, bt_r, nh_c]
    by_cases h2 : iN q 24
    · rw [io_t h2, bt_r, io_t ⟨h1, h2⟩]
      obtain ⟨j, hj, rfl⟩ := iN_e h1 (by omega)
      obtain ⟨h, hh, rfl⟩ := iN_e h2 (by omega)
      rw [pa_c hC hP hj hh, bd_s, nI_clamp (by omega), nI_clamp (by omega)]
    · rw [io_f h2, bt_l, io_f (fun e => h2 e.2)]
  · rw [io_f h1, bt_l, io_f (fun e => h1 e.1)]
theorem wh_m {S : et_T} {g : et_G} (hM : rc_M S g) (hw : wf_town S) (p q : Int32) : fn_Mo_where p q g = some (va_o (wh_o S p q), et_si g 61 0 (th_o (wh_o S p q))) := by
  have e2 : g.1 61 4 = nI (S 61 4) := hM.1 61 4 rfl
  have hP : S 61 4 ≤ 6 := hw.2.2.2.2.1
  unfold fn_Mo_where wh_o
  simp only [et_b]
  have h0 : (et_si g 61 0 0).1 61 0 = 0 := by simp [si_g]
  have h4 : (et_si g 61 0 0).1 61 4 = nI (S 61 4) := by simp [si_g, e2]
  by_cases h : iN p (S 61 4) ∧ iN q 24
  · rw [io_t h]
    obtain ⟨j, hj, rfl⟩ := iN_e h.1 (by omega)
    obtain ⟨h, hh, rfl⟩ := iN_e h.2 (by omega)
    rw [iw_y h0 h4 (by omega) hj hh, bd_s, if_neg (by decide)]
    simp (disch := omega) only [ni_of, pk_mul, nI_add, nI_clamp, ib_e, ck_t, si_g]
    rw [if_neg (by omega), hM.1 69 _ rfl]
    rfl
  · rw [io_f h, iw_n h0 h4 h, bd_s, if_pos rfl, si_si]
    rfl
theorem iN_ne {q : Int32} {n j : Nat} (h : ¬ iN q n) (hn : n < 2 ^ 31) (hj : j < n) : ¬ q = nI j := fun e => h (e ▸ iN_n hj hn)
/-! thing -/
noncomputable def tg_o (S : et_T) (p q : Int32) : et_oc := io (iN p (S 61 5) ∧ iN q 5) (.inr (nI (S 66 (5 * p.toNatClampNeg + q.toNatClampNeg)))) (.inl 0)
theorem b1_v {b : Bool} {n : Nat} (h : b = true ↔ n = 1) (h2 : n ≤ 1) : (if b = true then (1 : Int32) else 0) = nI n := by
  by_cases e : b = true
  · rw [if_pos e, h.mp e]; rfl
  · rw [if_neg e, show n = 0 from by have := mt h.mpr e; omega]; rfl
theorem z1_v {n : Nat} (h2 : n ≤ 1) (g : et_G) : (if nI n = 0 then (some (.inr (0 : Int32), g) : Option (et_oc × et_G)) else some (.inr 1, g)) = some (.inr (nI n), g) := by
  match n, h2 with
  | 0, _ => rfl
  | 1, _ => rfl
theorem tg_c {S : et_T} {g : et_G} (hC : rc_town S g) (hw : wf_town S) (p q : Int32) : fn_Et_thing p q g = some (tg_o S p q, g) := by
  obtain ⟨-, -, e3, -, -, -, e7, -⟩ := hC
  obtain ⟨-, -, -, -, -, hT, -, wT, -⟩ := hw
  unfold fn_Et_thing tg_o
  rw [nt_c e3]
  by_cases h1 : iN p (S 61 5)
  · rw [io_t h1, bt_r]
    obtain ⟨j, hj, rfl⟩ := iN_e h1 (by omega)
    obtain ⟨t1, t2, t3, t4, t5⟩ := e7 j hj
    obtain ⟨-, -, -, u4, u5⟩ := wT j hj
    rw [nI_clamp (by omega), ib_e j 8 (by omega) (by decide)]
    by_cases h2 : iN q 5
    · rw [io_t ⟨h1, h2⟩]
      obtain ⟨h, hh, rfl⟩ := iN_e h2 (by omega)
      rw [nI_clamp (by omega)]
      match h, hh with
      | 0, _ => rw [if_pos (by decide), ck_t, t1]; rfl
      | 1, _ => rw [if_neg (by decide), if_pos (by decide), ck_t, t2]
      | 2, _ => rw [if_neg (by decide), if_neg (by decide), if_pos (by decide), ck_t, t3]
      | 3, _ => rw [if_neg (by decide), if_neg (by decide), if_neg (by decide), if_pos (by decide), hb_1 _ (by omega), bd_s, b1_v t4 u4, z1_v u4]
      | 4, _ => rw [if_neg (by decide), if_neg (by decide), if_neg (by decide), if_neg (by decide), if_pos (by decide), hb_1 _ (by omega), bd_s, b1_v t5 u5, z1_v u5]
      | h + 5, hh => omega
    · have n0 := iN_ne (j := 0) h2 (by decide) (by decide)
      have n1 := iN_ne (j := 1) h2 (by decide) (by decide)
      have n2 := iN_ne (j := 2) h2 (by decide) (by decide)
      have n3 := iN_ne (j := 3) h2 (by decide) (by decide)
      have n4 := iN_ne (j := 4) h2 (by decide) (by decide)
      rw [io_f (fun e => h2 e.2)]
      simp only [ni_of, n0, n1, n2, n3, n4, if_false]
  · rw [io_f h1, bt_l, io_f (fun e => h1 e.1)]
theorem tg_m {S : et_T} {g : et_G} (hM : rc_M S g) (hw : wf_town S) (p q : Int32) : fn_Mo_thing p q g = some (va_o (tg_o S p q), et_si g 61 0 (th_o (tg_o S p q))) := by
  have hT : S 61 5 ≤ 8 := hw.2.2.2.2.2.1
  unfold fn_Mo_thing tg_o
  simp only [et_b]
  have h0 : (et_si g 61 0 0).1 61 0 = 0 := by simp [si_g]
  have h5 : (et_si g 61 0 0).1 61 5 = nI (S 61 5) := by simp [si_g, hM.1 61 5 rfl]
  by_cases h1 : iN p (S 61 5)
  · obtain ⟨j, hj, rfl⟩ := iN_e h1 (by omega)
    rw [it_y h0 h5 (by omega) hj, bd_s, if_neg (by decide), show (4 : Int32) = nI 4 from rfl, wi_c q 4 (by decide), bd_s]
    by_cases h2 : iN q 5
    · obtain ⟨h, hh, rfl⟩ := iN_e h2 (by omega)
      rw [io_t h2, io_t ⟨h1, h2⟩, ri_y h0 _ _ (by decide), bd_s, if_neg (by decide)]
      simp (disch := omega) only [ni_of, pk_mul, nI_add, nI_clamp, ib_e, ck_t, si_g]
      rw [if_neg (by omega), hM.1 66 _ rfl]
      rfl
    · rw [io_f h2, io_f (fun e => h2 e.2), ri_n h0 _ (by decide), bd_s, if_pos rfl, si_si]
      rfl
  · rw [it_n h0 h5 h1, bd_s, if_pos rfl, io_f (fun e => h1 e.1), si_si]
    rfl
/-! count -/
def ct_S (S : et_T) (n : Nat) : Nat := match n with
  | 0 => S 61 1 | 1 => S 61 2 | 2 => S 61 3 | 3 => S 61 4 | 4 => S 61 5 | 5 => S 61 6 | 6 => S 61 50 | 7 => S 61 17 | 8 => S 72 0 | 9 => S 72 1 | 10 => S 72 2 | _ => pop 31 (S 61 68)
noncomputable def ct_o (S : et_T) (p : Int32) : et_oc := io (iN p 12) (.inr (nI (ct_S S p.toNatClampNeg))) (.inl 0)
theorem cn_c {S : et_T} {g : et_G} (hC : rc_C S g) (hw : wf_mind S) (p : Int32) : fn_Et_count p g = some (ct_o S p, g) := by
  obtain ⟨⟨a7, -⟩, ⟨a0, a1, -⟩, ⟨a2, a3, a4, a5, -⟩, ⟨a6, -⟩, -, ⟨-, a11⟩, -, -, -, a8, a9, a10⟩ := hC
  have hl : S 61 68 < 65536 := hw.2.1
  unfold fn_Et_count ct_o
  by_cases h2 : iN p 12
  · rw [io_t h2]
    obtain ⟨h, hh, rfl⟩ := iN_e h2 (by omega)
    rw [nI_clamp (by omega)]
    match h, hh with
    | 0, _ => rw [if_pos (by decide), a0]; rfl
    | 1, _ => rw [if_neg (by decide), if_pos (by decide), a1]; rfl
    | 2, _ => rw [if_neg (by decide), if_neg (by decide), if_pos (by decide), a2]; rfl
    | 3, _ => rw [if_neg (by decide), if_neg (by decide), if_neg (by decide), if_pos (by decide), a3]; rfl
    | 4, _ => rw [if_neg (by decide), if_neg (by decide), if_neg (by decide), if_neg (by decide), if_pos (by decide), a4]; rfl
    | 5, _ => rw [if_neg (by decide), if_neg (by decide), if_neg (by decide), if_neg (by decide), if_neg (by decide), if_pos (by decide), a5]; rfl
    | 6, _ => rw [if_neg (by decide), if_neg (by decide), if_neg (by decide), if_neg (by decide), if_neg (by decide), if_neg (by decide), if_pos (by decide), a6]; rfl
    | 7, _ => rw [if_neg (by decide), if_neg (by decide), if_neg (by decide), if_neg (by decide), if_neg (by decide), if_neg (by decide), if_neg (by decide), if_pos (by decide), a7]; rfl
    | 8, _ => rw [if_neg (by decide), if_neg (by decide), if_neg (by decide), if_neg (by decide), if_neg (by decide), if_neg (by decide), if_neg (by decide), if_neg (by decide), if_pos (by decide), a8]; rfl
    | 9, _ => rw [if_neg (by decide), if_neg (by decide), if_neg (by decide), if_neg (by decide), if_neg (by decide), if_neg (by decide), if_neg (by decide), if_neg (by decide), if_neg (by decide), if_pos (by decide), a9]; rfl
    | 10, _ => rw [if_neg (by decide), if_neg (by decide), if_neg (by decide), if_neg (by decide), if_neg (by decide), if_neg (by decide), if_neg (by decide), if_neg (by decide), if_neg (by decide), if_neg (by decide), if_pos (by decide), a10]; rfl
    | 11, _ => rw [if_neg (by decide), if_neg (by decide), if_neg (by decide), if_neg (by decide), if_neg (by decide), if_neg (by decide), if_neg (by decide), if_neg (by decide), if_neg (by decide), if_neg (by decide), if_neg (by decide), if_pos (by decide), a11, bc_e hl, bd_s]; rfl
    | h + 12, hh => omega
  · have n0 := iN_ne (j := 0) h2 (by decide) (by decide)
    have n1 := iN_ne (j := 1) h2 (by decide) (by decide)
    have n2 := iN_ne (j := 2) h2 (by decide) (by decide)
    have n3 := iN_ne (j := 3) h2 (by decide) (by decide)
    have n4 := iN_ne (j := 4) h2 (by decide) (by decide)
    have n5 := iN_ne (j := 5) h2 (by decide) (by decide)
    have n6 := iN_ne (j := 6) h2 (by decide) (by decide)
    have n7 := iN_ne (j := 7) h2 (by decide) (by decide)
    have n8 := iN_ne (j := 8) h2 (by decide) (by decide)
    have n9 := iN_ne (j := 9) h2 (by decide) (by decide)
    have n10 := iN_ne (j := 10) h2 (by decide) (by decide)
    have n11 := iN_ne (j := 11) h2 (by decide) (by decide)
    rw [io_f h2]
    simp only [ni_of, n0, n1, n2, n3, n4, n5, n6, n7, n8, n9, n10, n11, if_false]
theorem cn_m {S : et_T} {g : et_G} (hM : rc_M S g) (hw : wf_mind S) (p : Int32) : fn_Mo_count p g = some (va_o (ct_o S p), et_si g 61 0 (th_o (ct_o S p))) := by
  have hl : S 61 68 < 65536 := hw.2.1
  unfold fn_Mo_count ct_o
  simp only [et_b]
  have h0 : (et_si g 61 0 0).1 61 0 = 0 := by simp [si_g]
  rw [show (11 : Int32) = nI 11 from rfl, wi_c p 11 (by decide), bd_s]
  by_cases h2 : iN p 12
  · obtain ⟨h, hh, rfl⟩ := iN_e h2 (by omega)
    rw [io_t h2, io_t h2, ri_y h0 _ _ (by decide), bd_s, if_neg (by decide), nI_clamp (by omega)]
    match h, hh with
    | 0, _ => rw [if_pos (by decide)]; simp only [si_g]; rw [if_neg (by decide), hM.1 61 1 rfl]; rfl
    | 1, _ => rw [if_neg (by decide), if_pos (by decide)]; simp only [si_g]; rw [if_neg (by decide), hM.1 61 2 rfl]; rfl
    | 2, _ => rw [if_neg (by decide), if_neg (by decide), if_pos (by decide)]; simp only [si_g]; rw [if_neg (by decide), hM.1 61 3 rfl]; rfl
    | 3, _ => rw [if_neg (by decide), if_neg (by decide), if_neg (by decide), if_pos (by decide)]; simp only [si_g]; rw [if_neg (by decide), hM.1 61 4 rfl]; rfl
    | 4, _ => rw [if_neg (by decide), if_neg (by decide), if_neg (by decide), if_neg (by decide), if_pos (by decide)]; simp only [si_g]; rw [if_neg (by decide), hM.1 61 5 rfl]; rfl
    | 5, _ => rw [if_neg (by decide), if_neg (by decide), if_neg (by decide), if_neg (by decide), if_neg (by decide), if_pos (by decide)]; simp only [si_g]; rw [if_neg (by decide), hM.1 61 6 rfl]; rfl
    | 6, _ => rw [if_neg (by decide), if_neg (by decide), if_neg (by decide), if_neg (by decide), if_neg (by decide), if_neg (by decide), if_pos (by decide)]; simp only [si_g]; rw [if_neg (by decide), hM.1 61 50 rfl]; rfl
    | 7, _ => rw [if_neg (by decide), if_neg (by decide), if_neg (by decide), if_neg (by decide), if_neg (by decide), if_neg (by decide), if_neg (by decide), if_pos (by decide)]; simp only [si_g]; rw [if_neg (by decide), hM.1 61 17 rfl]; rfl
    | 8, _ => rw [if_neg (by decide), if_neg (by decide), if_neg (by decide), if_neg (by decide), if_neg (by decide), if_neg (by decide), if_neg (by decide), if_neg (by decide), if_pos (by decide), show nI 8 - 8 = nI 0 from rfl, ib_e 0 3 (by decide) (by decide), ck_t, nI_clamp (by decide)]; simp only [si_g]; rw [if_neg (by decide), hM.1 72 0 rfl]; rfl
    | 9, _ => rw [if_neg (by decide), if_neg (by decide), if_neg (by decide), if_neg (by decide), if_neg (by decide), if_neg (by decide), if_neg (by decide), if_neg (by decide), if_neg (by decide), if_pos (by decide), show nI 9 - 8 = nI 1 from rfl, ib_e 1 3 (by decide) (by decide), ck_t, nI_clamp (by decide)]; simp only [si_g]; rw [if_neg (by decide), hM.1 72 1 rfl]; rfl
    | 10, _ => rw [if_neg (by decide), if_neg (by decide), if_neg (by decide), if_neg (by decide), if_neg (by decide), if_neg (by decide), if_neg (by decide), if_neg (by decide), if_neg (by decide), if_neg (by decide), if_pos (by decide), show nI 10 - 8 = nI 2 from rfl, ib_e 2 3 (by decide) (by decide), ck_t, nI_clamp (by decide)]; simp only [si_g]; rw [if_neg (by decide), hM.1 72 2 rfl]; rfl
    | 11, _ => rw [if_neg (by decide), if_neg (by decide), if_neg (by decide), if_neg (by decide), if_neg (by decide), if_neg (by decide), if_neg (by decide), if_neg (by decide), if_neg (by decide), if_neg (by decide), if_neg (by decide), if_pos (by decide), si_g, if_neg (by decide), hM.1 61 68 rfl, bi_e (by omega), bd_s]; rfl
    | h + 12, hh => omega
  · rw [io_f h2, io_f h2, ri_n h0 _ (by decide), bd_s, if_pos rfl, si_si]
    rfl
