/-! silence: the model -/
section SM
variable {S : et_T}
theorem sm_83 {g0 g : et_G} {np : Nat} {P H O : Nat → Nat} (B0 : mB S g0) (A0 : mA S np P H O g0) (f : fq w_rk g0 g) {p t k : Nat} (hp : p < S 61 4) (ht : t < S 61 5) (hk : k < 2 ^ 31) (r36 : Int32 → Int32 → et_G → Option (Int32 × et_G)) (x3 : Int32) (R : Int32 → et_G → Prop)
    (kk : ∀ g', fq w_rk g0 g' → ev_Q (io (slP S p t k) (r36 (nI k) (nI (k + 1)) g') (r36 x3 (nI (k + 1)) g')) R) : ev_Q (fn_Mo_silence_83 r36 (nI p) (nI t) x3 (nI k) 1000000 0 0 g) R := by
  have B : mB S g := ⟨rc_M_q f w_rk_m B0.1, B0.2⟩
  have A := mA_q f A0
  have c := mB_c B
  refine lp0 (fun m i (y : Int32) => fn_Mo_silence_83 r36 (nI p) (nI t) x3 (nI k) m y i g) (fun o => ev_Q o R) (S 61 50) (by omega) (fun j y => y = mI (fun s => s < j ∧ ¬ nS k (S 84 (5 * s)))) 0 (by rw [mI_0]; exact mI_c fun i _ => ⟨fun z => z.elim, fun z => by omega⟩) ?_ ?_
  · intro m y h
    show ev_Q (fn_Mo_silence_83 r36 (nI p) (nI t) x3 (nI k) (m + 1) y (nI (S 61 50)) g) R
    rw [fn_Mo_silence_83, c.1, if_pos (nI_le (Nat.le_refl _) (by omega)), h]
    unfold fn_Mo_silence_126
    have r := rk_c B A (slX S k) a_no
    rw [show mI a_no = (0 : Int32) from mI_0.symm] at r
    refine ev_d r (fun _ g1 ⟨J, F, _⟩ => ?_)
    obtain ⟨E, -⟩ := mJ_E B A J
    obtain ⟨v, v1, v2, v3, v4⟩ := bto_m E hp (show 23 < 24 by decide) ht (show 0 ≤ 1 by decide)
    rw [show fn_Mo_byTold (nI p) (23 : Int32) (nI t) (0 : Int32) g1 = _ from v1, bd_s]
    have key : v < 1000 ↔ ¬ slP S p t k := by
      constructor
      · intro h n
        obtain ⟨s, s1, s2⟩ := v3 h
        exact n ⟨s, ⟨(rg_f B J F s1.2.1.1).1.mp (by omega), s1.2.2.2⟩, s1.2.1, s1.2.2.1⟩
      · intro n
        obtain ⟨s, s1, s2, s3⟩ := Classical.not_not.mp n
        have a := (a_HH_n s1.1).2
        have l := (rg_f B J F s2.1).1.mpr s1.1
        have := v4 s ⟨a, s2, s3, s1.2⟩
        have := F.1 s 181 (a_bnd B.2.1 c.2.1 s1.1)
        omega
    simp (disch := omega) only [ni_of, ni_lt, et_b, nI_add]
    have := kk g1 (fq_t f J.1)
    by_cases q : slP S p t k
    · rw [io_t q] at this
      rw [if_neg (fun z => key.mp z q)]; exact this
    · rw [io_f q] at this
      rw [if_pos (key.mpr q)]; exact this
  · intro m j y hj h ih
    show ev_Q (fn_Mo_silence_83 r36 (nI p) (nI t) x3 (nI k) (m + 1) y (nI j) g) R
    obtain ⟨w1, -, -, -, -⟩ := mB_s B hj
    rw [fn_Mo_silence_83, c.1, if_neg (nI_ge hj (by omega))]
    simp (disch := omega) only [ni_of, nI_clamp, ib_e, ck_t, bd_s, et_b, nI_add, if_p, ni_eq, ni_lt, ni_le, b_e0, b_e1, io_n, Nat.add_zero, of_m B, mb_n, or_n0]
    by_cases q : k.testBit (S 84 (5 * j)) = true
    · rw [io_t q]; exact ih _ (by rw [h]; exact mI_k0 (P := fun s => ¬ nS k (S 84 (5 * s))) (fun z => z q))
    · rw [io_f q]; exact ih _ (by rw [h]; exact mI_k1 (P := fun s => ¬ nS k (S 84 (5 * s))) (by omega) q)
theorem sm_36 {g0 : et_G} {np : Nat} {P H O : Nat → Nat} (B0 : mB S g0) (A0 : mA S np P H O g0) {p t : Nat} (hp : p < S 61 4) (ht : t < S 61 5) {y0 : Nat} (F : fst (slG S p t) (2 ^ S 61 4) y0) : ev_Q (fn_Mo_silence_36 (nI p) (nI t) 1000000 (-1) 0 g0) (fun v g => v = nI y0 ∧ fq w_rk g0 g) := by
  have c := mB_c B0
  have p6 : (2 : Nat) ^ S 61 4 ≤ 2 ^ 6 := Nat.pow_le_pow_right (by decide) (by omega)
  have n4 : ∀ s, fq w_rk g0 s → s.1 61 4 = nI (S 61 4) := fun s f => by rw [f.1 61 4 rfl]; exact c.2.2.2.2.2.2.1
  refine lp0 (fun m i (s : Int32 × et_G) => fn_Mo_silence_36 (nI p) (nI t) m s.1 i s.2) (fun o => ev_Q o (fun v g => v = nI y0 ∧ fq w_rk g0 g)) (2 ^ S 61 4) (by omega)
    (fun k s => fq w_rk g0 s.2 ∧ ((s.1 = -1 ∧ ∀ z, z < k → ¬ slG S p t z) ∨ ∃ b, s.1 = nI b ∧ fst (slG S p t) k b)) (-1, g0) ⟨fq_r _ _, Or.inl ⟨rfl, fun z hz => by omega⟩⟩ ?_ ?_
  · intro m s ⟨f, h⟩
    show ev_Q (fn_Mo_silence_36 (nI p) (nI t) (m + 1) s.1 (nI (2 ^ S 61 4)) s.2) _
    rw [fn_Mo_silence_36, n4 s.2 f]
    simp (disch := omega) only [ni_of, sl_n, ni_le, Nat.le_refl, if_true]
    rcases h with h | ⟨b, b1, b2⟩
    · exact absurd F.2.1 (h.2 y0 F.1)
    · exact ev_r ⟨by rw [b1, fst_u b2 F], f⟩
  · intro m k s hk ⟨f, h⟩ ih
    show ev_Q (fn_Mo_silence_36 (nI p) (nI t) (m + 1) s.1 (nI k) s.2) _
    rw [fn_Mo_silence_36, n4 s.2 f]
    simp (disch := omega) only [ni_of, sl_n, ni_le, mb_n]
    rw [if_neg (by omega)]
    by_cases hkp : k.testBit p = true
    · rw [bI_t hkp, if_pos rfl]
      simp only [et_b, nI_add]
      have ng : ¬ slG S p t k := fun z => z.1 hkp
      refine ih (s.1, s.2) ⟨f, ?_⟩
      rcases h with h | ⟨b, b1, b2⟩
      · refine Or.inl ⟨h.1, fun z hz => ?_⟩
        by_cases e : z = k
        · subst e; exact ng
        · exact h.2 z (by omega)
      · exact Or.inr ⟨b, b1, fst_k b2 (Or.inl ng)⟩
    · rw [bI_f hkp, if_neg b01]
      have go : ((s.1 = -1 ∧ ∀ z, z < k → ¬ slG S p t z) ∨ ∃ b, s.1 = nI b ∧ fst (slG S p t) k b ∧ pop 31 k < pop 31 b) → ev_Q (fn_Mo_silence_83 (fun z3 z4 g => fn_Mo_silence_36 (nI p) (nI t) m z3 z4 g) (nI p) (nI t) s.1 (nI k) 1000000 (nI 0) (nI 0) s.2) (fun v g => v = nI y0 ∧ fq w_rk g0 g) := by
        intro hx
        refine sm_83 B0 A0 f hp ht (by omega) _ _ _ (fun g' f' => ?_)
        by_cases q : slP S p t k
        · rw [io_t q]
          have g : slG S p t k := ⟨hkp, q⟩
          refine ih (nI k, g') ⟨f', Or.inr ⟨k, rfl, ?_⟩⟩
          rcases hx with hx | ⟨b, b1, b2, b3⟩
          · exact fst_0 hx.2 g
          · exact fst_n b2 g b3
        · rw [io_f q]
          have ng : ¬ slG S p t k := fun z => q z.2
          refine ih (s.1, g') ⟨f', ?_⟩
          rcases hx with hx | ⟨b, b1, b2, b3⟩
          · refine Or.inl ⟨hx.1, fun z hz => ?_⟩
            by_cases e : z = k
            · subst e; exact ng
            · exact hx.2 z (by omega)
          · exact Or.inr ⟨b, b1, fst_k b2 (Or.inl ng)⟩
      rcases h with h | ⟨b, b1, b2⟩
      · rw [if_pos (show s.1 = -nI 1 from h.1)]
        exact go (Or.inl h)
      · have hb := b2.1
        rw [if_neg (show ¬ s.1 = -nI 1 from fun e => by rw [b1] at e; exact nI_pos (show b < 2 ^ 31 by omega) (by rw [e]; decide)), bi_e (by omega), bd_s, b1, bi_e (by omega), bd_s, ← b1]
        have k1 := pop_k 31 k
        have k2 := pop_k 31 b
        by_cases hpb : pop 31 k < pop 31 b
        · rw [if_pos (nI_lt hpb (by omega))]
          exact go (Or.inr ⟨b, b1, b2, hpb⟩)
        · rw [if_neg (nI_nlt (by omega) (by omega))]
          simp only [et_b, nI_add]
          exact ih (s.1, s.2) ⟨f, Or.inr ⟨b, b1, fst_k b2 (Or.inr (by omega))⟩⟩
theorem ok_silence {g : et_G} (I : Iv S g) (p t : Int32) : okB 0 S g (fn_Et_silence p t g) (fn_Mo_silence p t) := by
  have A := Iv_gA I
  have c := gA_c A
  by_cases hv : iN p (S 61 4) ∧ iN t (S 61 5)
  · obtain ⟨h1, h3⟩ := hv
    obtain ⟨p, hp, rfl⟩ := iN_e h1 (by omega)
    obtain ⟨t, ht, rfl⟩ := iN_e h3 (by omega)
    have sb := (slO_b (S := S) (p := p) (x := nM (slO S p)) (by omega)).mp (Nat.and_self _)
    obtain ⟨y, F⟩ := fst_ex (G := slG S p t) (2 ^ S 61 4) ⟨nM (slO S p), sb.1, slG_all (by omega) A.2.2.2⟩
    refine ⟨S, .inr (nI y), ?_, fun g1 M => ?_, I.2.2.2.1, I.2.2.2.2, fun k e => by cases e⟩
    · unfold okC fn_Et_silence
      rw [np_c c.2.1, io_t h1, bt_r, nt_c c.2.2.1, io_t h3, bt_r]
      refine ev_d (fs_c A hp ht F) (fun v g' ⟨hv, f, z⟩ => ev_r ⟨by rw [hv], rc_C_gr f I.1, ⟨Or.inl z, fun q => by rw [z] at q; exact absurd q (by decide)⟩, gr_C f⟩)
    · unfold fn_Mo_silence
      refine eb_q ?_
      have M0 := t0_m M 0
      have B := Iv_mB I M0
      have cB := mB_c B
      show ev_Q (et_bd (fn_Mo_isWho (nI p) 0 (et_si g1 61 0 0)) _) _
      rw [show fn_Mo_isWho (nI p) 0 (et_si g1 61 0 0) = _ from iw_y (h := 0) si_e cB.2.2.2.2.2.2.1 (by omega) hp (by decide), bd_s, if_neg (by decide), it_y si_e cB.2.2.1 (by omega) ht, bd_s, if_neg (by decide)]
      refine ev_d (show ev_Q (fn_Mo_asks (nI p) (23 : Int32) (et_si g1 61 0 0)) _ from as_1 B hp (show 23 < 24 by decide)) (fun _ g2 ⟨a1, B2, np, P, H, O, A2, _⟩ => ?_)
      refine ev_w (sm_36 B2 A2 hp ht F) (fun v g3 ⟨h1, f3⟩ => ⟨by rw [h1]; rfl, ?_, ?_, ?_⟩)
      · rw [f3.1 61 0 rfl, a1.1 61 0 rfl, si_e]; rfl
      · exact rc_M_q f3 w_rk_m B2.1
      · exact fq_t (t0_M 0) (fq_t (sc_M (as_sc a1)) (sc_M (rk_sc f3)))
  · refine ⟨S, .inl 0, ?_, fun g1 M => ?_, I.2.2.2.1, I.2.2.2.2, fun k e => by cases e; rfl⟩
    · refine okC_q I ?_
      unfold fn_Et_silence
      rw [np_c c.2.1]
      by_cases h1 : iN p (S 61 4)
      · rw [io_t h1, bt_r, nt_c c.2.2.1, io_f (fun z => hv ⟨h1, z⟩), bt_l]
      · rw [io_f h1, bt_l]
    · unfold fn_Mo_silence
      refine eb_q ?_
      show ev_Q (et_bd (fn_Mo_isWho p 0 (et_si g1 61 0 0)) _) _
      have B := mB_c (Iv_mB I (t0_m M 0))
      by_cases h1 : iN p (S 61 4)
      · have h3 : ¬ iN t (S 61 5) := fun z => hv ⟨h1, z⟩
        obtain ⟨p, hp, rfl⟩ := iN_e h1 (by omega)
        rw [show fn_Mo_isWho (nI p) 0 (et_si g1 61 0 0) = _ from iw_y (h := 0) si_e B.2.2.2.2.2.2.1 (by omega) hp (by decide), bd_s, if_neg (by decide), it_n si_e B.2.2.1 h3, bd_s, if_pos rfl]
        exact okM_t (g' := g) M
      · rw [iw_n si_e B.2.2.2.2.2.2.1 (fun z => h1 z.1), bd_s, if_pos rfl]
        exact okM_t (g' := g) M
end SM
