/-! the ground laid; which stand; settled -/
theorem si_x {g : et_G} {k j a b : Nat} {x : Int32} (h : a ≠ k) : (et_si g k j x).1 a b = g.1 a b := by
  rw [si_g, if_neg (fun e => h e.1)]
theorem si_e {g : et_G} {k j : Nat} {x : Int32} : (et_si g k j x).1 k j = x := by
  rw [si_g, if_pos ⟨rfl, rfl⟩]
theorem si_j {g : et_G} {k j a b : Nat} {x : Int32} (h : b ≠ j) : (et_si g k j x).1 a b = g.1 a b := by
  rw [si_g, if_neg (fun e => h e.2)]
theorem fil_52 (x : Int32) (g : et_G) : ev_Q (fn_Ja_fill_52 x g) (fun _ g' => fq (fun k _ => k == 52) g g' ∧ ∀ i, i < 16 → g'.1 52 i = x) := by
  unfold fn_Ja_fill_52
  refine lp0 (fun m i (s : et_G) => fn_Ja_fill_52_5 x 16 m i s) (fun o => ev_Q o (fun _ g' => fq (fun k _ => k == 52) g g' ∧ ∀ i, i < 16 → g'.1 52 i = x)) 16 (by omega) (fun k s => fq (fun k _ => k == 52) g s ∧ ∀ i, i < k → s.1 52 i = x) g ⟨fq_r _ _, fun i hi => by omega⟩ ?_ ?_
  · intro m s h
    show ev_Q (fn_Ja_fill_52_5 x 16 (m + 1) (nI 16) s) _
    rw [fn_Ja_fill_52_5, if_pos (by decide)]
    exact ev_r h
  · intro m k s hk ⟨h1, h2⟩ ih
    show ev_Q (fn_Ja_fill_52_5 x 16 (m + 1) (nI k) s) _
    rw [fn_Ja_fill_52_5]
    simp (disch := omega) only [ni_of, ni_le, nI_clamp, ib_e, ck_t, et_b, nI_add]
    rw [if_neg (by omega)]
    refine ih _ ⟨fq_s h1 rfl, fun i hi => ?_⟩
    rw [si_g]
    by_cases e : i = k
    · rw [if_pos ⟨rfl, e⟩]
    · rw [if_neg (fun z => e z.2)]; exact h2 i (by omega)
def w_ly (k j : Nat) : Bool := k == 49 || k == 50 || k == 51 || k == 52 || k == 53 || (k == 48 && j == 12)
def gL1 (S : et_T) (k : Nat) (g : et_G) : Prop := (∀ t, t < 8 → ∀ nt, nt < 2 → g.1 52 (2 * t + nt) = mI (fun s => s < k ∧ a_ab S t nt s)) ∧ g.1 48 12 = mI (fun s => s < k ∧ a_dr S s) ∧ ∀ i, i < k → g.1 49 i = mI (a_hr S (S 84 (5 * i)) (S 84 (5 * i + 1))) ∧ g.1 50 i = mI (a_ow S (S 84 (5 * i)) (S 84 (5 * i + 1))) ∧ g.1 51 i = mI (a_oh S (S 84 (5 * i)) (S 84 (5 * i + 1)) (S 84 (5 * i + 2)) (S 84 (5 * i + 4)))
section LY
variable {S : et_T}
theorem mI_k1 {P : Nat → Prop} {k : Nat} (hk : k < 31) (h : P k) : mI (fun s => s < k ∧ P s) ||| (nI 1 <<< (nI k &&& nI 31)) = mI (fun s => s < k + 1 ∧ P s) := by
  rw [mI_1 hk, mI_or]
  refine mI_c fun i _ => ⟨fun q => ?_, fun q => ?_⟩
  · rcases q with q | q
    · exact ⟨by omega, q.2⟩
    · subst q; exact ⟨by omega, h⟩
  · by_cases e : i = k
    · exact Or.inr e
    · exact Or.inl ⟨by omega, q.2⟩
theorem mI_k0 {P : Nat → Prop} {k : Nat} (h : ¬ P k) : mI (fun s => s < k ∧ P s) = mI (fun s => s < k + 1 ∧ P s) := by
  refine mI_c fun i _ => ⟨fun q => ⟨by omega, q.2⟩, fun q => ?_⟩
  by_cases e : i = k
  · subst e; exact absurd q.2 h
  · exact ⟨by omega, q.2⟩
theorem lyg_171 {g0 : et_G} (A : gA S g0) (L : gL1 S (S 61 50) g0) : ev_Q (fn_Gr_lay_171 1000000 0 g0) (fun _ g => gL S g ∧ fq w_ly g0 g) := by
  have hn := (gA_n A).2
  refine lp0 (fun m i (s : et_G) => fn_Gr_lay_171 m i s) (fun o => ev_Q o (fun _ g => gL S g ∧ fq w_ly g0 g)) (S 61 50) (by omega)
    (fun k s => fq w_ly g0 s ∧ gL1 S (S 61 50) s ∧ ∀ i, i < k → s.1 53 i = mI (fun q => a_hr S (S 84 (5 * i)) (S 84 (5 * i + 1)) q ∧ a_ab S (S 84 (5 * i + 2)) (S 84 (5 * i + 4)) q)) g0 ⟨fq_r _ _, L, fun i hi => by omega⟩ ?_ ?_
  · intro m s ⟨h1, ⟨h2, h3, h4⟩, h5⟩
    show ev_Q (fn_Gr_lay_171 (m + 1) (nI (S 61 50)) s) _
    rw [fn_Gr_lay_171, h1.1 34 0 rfl, (gA_n A).1, if_pos (nI_le (Nat.le_refl _) (by omega))]
    refine ev_r ⟨⟨fun t ht nt hnt => ?_, ?_, fun i hi => ?_⟩, h1⟩
    · rw [h2 t ht nt hnt]; exact mI_c fun i _ => ⟨fun q => q.2, fun q => ⟨q.1, q⟩⟩
    · rw [h3]; exact mI_c fun i _ => ⟨fun q => q.2, fun q => ⟨q.1, q⟩⟩
    · obtain ⟨a, b, c⟩ := h4 i hi
      exact ⟨a, b, c, h5 i hi⟩
  · intro m k s hk ⟨h1, h2, h5⟩ ih
    show ev_Q (fn_Gr_lay_171 (m + 1) (nI k) s) _
    have A' := gA_q h1 ⟨rfl, rfl, rfl, rfl, rfl, rfl, fun _ => rfl, fun _ => rfl, fun _ => rfl, fun _ => rfl, fun _ => rfl, fun _ => rfl, fun _ => rfl, fun _ => rfl⟩ ⟨rfl, fun _ => rfl, fun _ => rfl, fun _ => rfl, fun _ => rfl, fun _ => rfl⟩ A
    obtain ⟨-, -, e3, -, e5⟩ := gA_s A' hk
    obtain ⟨-, -, w3, -, w5⟩ := gA_w A hk
    have c := gA_c A
    rw [fn_Gr_lay_171, (gA_n A').1, if_neg (nI_ge hk (by omega))]
    simp (disch := omega) only [ni_of, nI_clamp, ib_e, ck_t, bd_s, et_b, nI_add, e3, e5, ar_c w5, (h2.2.2 k hk).1, h2.1 _ (show S 84 (5 * k + 2) < 8 by omega) _ (show S 84 (5 * k + 4) < 2 by omega), mI_and]
    refine ih _ ⟨fq_s h1 rfl, ⟨fun t ht nt hnt => ?_, ?_, fun i hi => ?_⟩, fun i hi => ?_⟩
    · rw [si_x (by decide)]; exact h2.1 t ht nt hnt
    · rw [si_x (by decide)]; exact h2.2.1
    · rw [si_x (by decide), si_x (by decide), si_x (by decide)]; exact h2.2.2 i hi
    · rw [si_g]
      by_cases e : i = k
      · subst e
        rw [if_pos ⟨rfl, rfl⟩]
        exact mI_c fun q _ => ⟨fun z => ⟨z.1, z.2.2⟩, fun z => ⟨z.1, z.2.1, z.2⟩⟩
      · rw [if_neg (fun z => e z.2)]; exact h5 i (by omega)
theorem lyg_15 {g0 : et_G} (A : gA S g0) (L : gL1 S 0 g0) : ev_Q (fn_Gr_lay_15 1000000 0 g0) (fun _ g => gL S g ∧ fq w_ly g0 g) := by
  have hn := (gA_n A).2
  refine lp0 (fun m i (s : et_G) => fn_Gr_lay_15 m i s) (fun o => ev_Q o (fun _ g => gL S g ∧ fq w_ly g0 g)) (S 61 50) (by omega)
    (fun k s => fq w_ly g0 s ∧ gL1 S k s) g0 ⟨fq_r _ _, L⟩ ?_ ?_
  · intro m s ⟨h1, h2⟩
    show ev_Q (fn_Gr_lay_15 (m + 1) (nI (S 61 50)) s) _
    have A' := gA_q h1 ⟨rfl, rfl, rfl, rfl, rfl, rfl, fun _ => rfl, fun _ => rfl, fun _ => rfl, fun _ => rfl, fun _ => rfl, fun _ => rfl, fun _ => rfl, fun _ => rfl⟩ ⟨rfl, fun _ => rfl, fun _ => rfl, fun _ => rfl, fun _ => rfl, fun _ => rfl⟩ A
    rw [fn_Gr_lay_15, (gA_n A').1, if_pos (nI_le (Nat.le_refl _) (by omega))]
    exact ev_w (lyg_171 A' h2) (fun _ g ⟨a, b⟩ => ⟨a, fq_t h1 b⟩)
  · intro m k s hk ⟨h1, h2, h3, h4⟩ ih
    show ev_Q (fn_Gr_lay_15 (m + 1) (nI k) s) _
    have A' := gA_q h1 ⟨rfl, rfl, rfl, rfl, rfl, rfl, fun _ => rfl, fun _ => rfl, fun _ => rfl, fun _ => rfl, fun _ => rfl, fun _ => rfl, fun _ => rfl, fun _ => rfl⟩ ⟨rfl, fun _ => rfl, fun _ => rfl, fun _ => rfl, fun _ => rfl, fun _ => rfl⟩ A
    obtain ⟨e1, e2, e3, e4, e5⟩ := gA_s A' hk
    obtain ⟨w1, w2, w3, w4, w5⟩ := gA_w A hk
    have c := gA_c A
    have a1 : ∀ x, gA S (et_si s 49 k x) := fun x => gA_q (fq_s (fq_r w_ly s) rfl) ⟨rfl, rfl, rfl, rfl, rfl, rfl, fun _ => rfl, fun _ => rfl, fun _ => rfl, fun _ => rfl, fun _ => rfl, fun _ => rfl, fun _ => rfl, fun _ => rfl⟩ ⟨rfl, fun _ => rfl, fun _ => rfl, fun _ => rfl, fun _ => rfl, fun _ => rfl⟩ A'
    have a2 : ∀ x y, gA S (et_si (et_si s 49 k x) 50 k y) := fun x y => gA_q (fq_s (fq_r w_ly _) rfl) ⟨rfl, rfl, rfl, rfl, rfl, rfl, fun _ => rfl, fun _ => rfl, fun _ => rfl, fun _ => rfl, fun _ => rfl, fun _ => rfl, fun _ => rfl, fun _ => rfl⟩ ⟨rfl, fun _ => rfl, fun _ => rfl, fun _ => rfl, fun _ => rfl, fun _ => rfl⟩ (a1 x)
    have o1 : ∀ x, fn_Tw_ownThings (nI (S 84 (5 * k))) (nI (S 84 (5 * k + 1))) (et_si s 49 k x) = some (mI (a_ow S (S 84 (5 * k)) (S 84 (5 * k + 1))), et_si s 49 k x) := fun x => ot_c (a1 x) w1 w2
    have o2 : ∀ x y, fn_Tw_ownHows (nI (S 84 (5 * k))) (nI (S 84 (5 * k + 1))) (nI (S 84 (5 * k + 2))) (nI (S 84 (5 * k + 4))) (et_si (et_si s 49 k x) 50 k y) = some (mI (a_oh S (S 84 (5 * k)) (S 84 (5 * k + 1)) (S 84 (5 * k + 2)) (S 84 (5 * k + 4))), et_si (et_si s 49 k x) 50 k y) := fun x y => oh_c (a2 x y) w1 w2 w3 w5
    rw [fn_Gr_lay_15, (gA_n A').1, if_neg (nI_ge hk (by omega))]
    simp (disch := omega) only [ni_of, nI_clamp, ib_e, ck_t, bd_s, et_b, nI_add, e1, e2, hd_c A' w1 w2, o1, o2, si_x, e3, e5, e4, ar_c w5, ni_eq, h3, h2 _ (show S 84 (5 * k + 2) < 8 by omega) _ (show S 84 (5 * k + 4) < 2 by omega)]
    rw [mI_k1 (P := fun q => a_ab S (S 84 (5 * k + 2)) (S 84 (5 * k + 4)) q) (by omega) (a_ab_m hk)]
    generalize hst : et_si (et_si (et_si (et_si s 49 k (mI (a_hr S (S 84 (5 * k)) (S 84 (5 * k + 1))))) 50 k (mI (a_ow S (S 84 (5 * k)) (S 84 (5 * k + 1))))) 51 k (mI (a_oh S (S 84 (5 * k)) (S 84 (5 * k + 1)) (S 84 (5 * k + 2)) (S 84 (5 * k + 4))))) 52 (2 * S 84 (5 * k + 2) + S 84 (5 * k + 4)) (mI (fun q => q < k + 1 ∧ a_ab S (S 84 (5 * k + 2)) (S 84 (5 * k + 4)) q)) = st
    have f1 : fq w_ly g0 st := by
      rw [← hst]; exact fq_s (fq_s (fq_s (fq_s h1 rfl) rfl) rfl) rfl
    have r52 : ∀ t, t < 8 → ∀ nt, nt < 2 → st.1 52 (2 * t + nt) = mI (fun s => s < k + 1 ∧ a_ab S t nt s) := by
      intro t ht nt hnt
      rw [← hst, si_g]
      by_cases e : t = S 84 (5 * k + 2) ∧ nt = S 84 (5 * k + 4)
      · rw [if_pos ⟨rfl, by omega⟩, e.1, e.2]
      · rw [if_neg (fun z => e (by omega)), si_x (by decide), si_x (by decide), si_x (by decide), h2 t ht nt hnt]
        exact mI_k0 (fun z => e ⟨z.2.1.symm, z.2.2.symm⟩)
    have r12 : st.1 48 12 = mI (fun s => s < k ∧ a_dr S s) := by
      rw [← hst, si_x (by decide), si_x (by decide), si_x (by decide), si_x (by decide)]; exact h3
    have r49 : ∀ i, i < k + 1 → st.1 49 i = mI (a_hr S (S 84 (5 * i)) (S 84 (5 * i + 1))) ∧ st.1 50 i = mI (a_ow S (S 84 (5 * i)) (S 84 (5 * i + 1))) ∧ st.1 51 i = mI (a_oh S (S 84 (5 * i)) (S 84 (5 * i + 1)) (S 84 (5 * i + 2)) (S 84 (5 * i + 4))) := by
      intro i hi
      rw [← hst]
      by_cases e : i = k
      · subst e
        refine ⟨?_, ?_, ?_⟩
        · rw [si_x (by decide), si_x (by decide), si_x (by decide), si_e]
        · rw [si_x (by decide), si_x (by decide), si_e]
        · rw [si_x (by decide), si_e]
      · have := h4 i (by omega)
        refine ⟨?_, ?_, ?_⟩
        · rw [si_x (by decide), si_x (by decide), si_x (by decide), si_j e]; exact this.1
        · rw [si_x (by decide), si_x (by decide), si_j e, si_x (by decide)]; exact this.2.1
        · rw [si_x (by decide), si_j e, si_x (by decide), si_x (by decide)]; exact this.2.2
    by_cases d : S 84 (5 * k + 3) = 4
    · rw [if_pos d]
      refine ih _ ⟨fq_s f1 rfl, fun t ht nt hnt => ?_, ?_, fun i hi => ?_⟩
      · rw [si_x (by decide)]; exact r52 t ht nt hnt
      · rw [si_e, mI_k1 (by omega) ⟨hk, d⟩]
      · rw [si_x (by decide), si_x (by decide), si_x (by decide)]; exact r49 i hi
    · rw [if_neg d]
      refine ih _ ⟨f1, r52, ?_, r49⟩
      rw [r12]; exact mI_k0 (fun z => d z.2)
theorem lyg_c {g0 : et_G} (A : gA S g0) : ev_Q (fn_Gr_lay g0) (fun _ g => gL S g ∧ fq w_ly g0 g) := by
  unfold fn_Gr_lay
  refine ev_d (fil_52 0 g0) (fun _ g1 ⟨f1, z1⟩ => ?_)
  have F : fq w_ly g0 (et_si g1 48 12 0) := fq_s (fq_w f1 (fun k j h => by simp [w_ly] at h ⊢; omega)) rfl
  refine ev_w (lyg_15 (gA_q F ⟨rfl, rfl, rfl, rfl, rfl, rfl, fun _ => rfl, fun _ => rfl, fun _ => rfl, fun _ => rfl, fun _ => rfl, fun _ => rfl, fun _ => rfl, fun _ => rfl⟩ ⟨rfl, fun _ => rfl, fun _ => rfl, fun _ => rfl, fun _ => rfl, fun _ => rfl⟩ A) ⟨fun t ht nt hnt => ?_, ?_, fun i hi => by omega⟩) (fun _ g ⟨a, b⟩ => ⟨a, fq_t F b⟩)
  · rw [si_x (by decide), z1 _ (by omega), mI_0]; exact mI_c fun i _ => ⟨fun q => q.elim, fun q => by omega⟩
  · rw [si_e, mI_0]; exact mI_c fun i _ => ⟨fun q => q.elim, fun q => by omega⟩
/-- an ending but worked out hangs on no thing that one could say -/
theorem a_sh_d {T C D : Nat → Prop} {p h t nt w : Nat} (h3 : w = 3 → C = D) : a_sh S T C p h t nt w ↔ a_sh S T D p h t nt w := by
  by_cases e : w = 3
  · rw [h3 e]
  · constructor
    · intro z
      rcases z with z | z | z | z | z
      · exact Or.inl z
      · exact Or.inr (Or.inl z)
      · exact Or.inr (Or.inr (Or.inl z))
      · exact absurd z.1 e
      · exact Or.inr (Or.inr (Or.inr (Or.inr z)))
    · intro z
      rcases z with z | z | z | z | z
      · exact Or.inl z
      · exact Or.inr (Or.inl z)
      · exact Or.inr (Or.inr (Or.inl z))
      · exact absurd z.1 e
      · exact Or.inr (Or.inr (Or.inr (Or.inr z)))
/-- it stands by its own ending, told by T -/
def a_sd (S : et_T) (T : Nat → Prop) (i : Nat) : Prop := a_sh S T (a_CL S T (S 84 (5 * i)) (S 84 (5 * i + 1))) (S 84 (5 * i)) (S 84 (5 * i + 1)) (S 84 (5 * i + 2)) (S 84 (5 * i + 4)) (S 84 (5 * i + 3))
theorem sd_c {g : et_G} (A : gA S g) (L : gL S g) (X T : Nat → Prop) : fn_Gr_standing (mI X) (mI T) g = some (mI (fun i => i < S 61 50 ∧ X i ∧ a_sd S T i), g) := by
  obtain ⟨n0, hn⟩ := gA_n A
  unfold fn_Gr_standing
  refine sc_m (P := fun i => X i ∧ a_sd S T i) (by omega) ?_ ?_
  · intro m x
    rw [fn_Gr_standing_5, n0, if_pos (nI_le (Nat.le_refl _) (by omega))]
  · intro m x k hk
    obtain ⟨-, -, -, e4, -⟩ := gA_s A hk
    obtain ⟨w1, w2, w3, w4, w5⟩ := gA_w A hk
    obtain ⟨l49, l50, -, -⟩ := L.2.2 k hk
    have k67 : ∀ C : Nat → Prop, (S 84 (5 * k + 3) = 3 → C = a_CL S T (S 84 (5 * k)) (S 84 (5 * k + 1))) → fn_Gr_standing_67 (fun z3 z4 g => fn_Gr_standing_5 (mI X) (mI T) m z3 z4 g) (mI X) (mI T) x (nI k) (mI C) g = io (a_sd S T k) (fn_Gr_standing_5 (mI X) (mI T) m (x ||| (nI 1 <<< (nI k &&& nI 31))) (nI (k + 1)) g) (fn_Gr_standing_5 (mI X) (mI T) m x (nI (k + 1)) g) := by
      intro C hC
      unfold fn_Gr_standing_67
      simp (disch := omega) only [ni_of, nI_clamp, ib_e, ck_t, bd_s, et_b, nI_add, if_p, ni_eq, ni_lt, ni_le, b_e0, b_e1, io_n, sh_c A L hk T C, e4, hb_m _ (show S 84 (5 * k + 3) < 32 by omega)]
      exact io_c (a_sh_d hC)
    rw [fn_Gr_standing_5, n0, if_neg (nI_ge hk (by omega)), hb_m X (show k < 32 by omega), bd_s]
    have k0 := k67 (fun _ => False)
    rw [← mI_n0] at k0
    have k1 := k67 (a_CL S T (S 84 (5 * k)) (S 84 (5 * k + 1))) (fun _ => rfl)
    simp (disch := omega) only [ni_of, nI_clamp, ib_e, ck_t, bd_s, et_b, nI_add, if_p, ni_eq, ni_lt, ni_le, b_e0, b_e1, io_n, e4, l49, l50, mI_and, ws_c A L.1]
    by_cases hx : X k
    · rw [io_t hx]
      by_cases h3 : S 84 (5 * k + 3) = 3
      · rw [io_t h3, k1]; exact io_c ⟨fun z => ⟨hx, z⟩, fun z => z.2⟩
      · rw [io_f h3, k0 (fun z => absurd z h3)]; exact io_c ⟨fun z => ⟨hx, z⟩, fun z => z.2⟩
    · rw [io_f hx, io_f (fun z => hx z.1)]
def a_al (S : et_T) (s : Nat) : Prop := s < S 61 50
theorem ev_c' {g : et_G} (A : gA S g) : fn_Le_every g = some (mI (a_al S), g) := by
  obtain ⟨n0, hn⟩ := gA_n A
  unfold fn_Le_every
  rw [n0, show (1 : Int32) = nI 1 from rfl, show (31 : Int32) = nI 31 from rfl, mI_all (by omega)]
  rfl
end LY
