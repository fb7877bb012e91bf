/-! utter: the model, on -/
def wm_u (k j : Nat) : Bool := wm_f k j || k == 85
noncomputable def u_S (S : et_T) (p h n : Nat) : et_T := io (UC S n ∧ S 61 50 < 20) (sy_S S p h (tst S ((u_l S n).getD 0 0 / 15)) ((u_l S n).getD 0 0 % 5) (u_t S n)) (su S 72 1 (S 72 1 + 1))
noncomputable def u_v (S : et_T) (n : Nat) : Int32 := io (UC S n ∧ S 61 50 < 20) (nI (S 61 50 + 1)) (-1)
section UN
variable {S : et_T} {g : et_G}
theorem m253 (hM : rc_M S g) (h8 : S 61 5 ≤ 8) (hst : ∀ t, t < S 61 5 → S 66 (5 * t) < 1000) {v : Nat} (hv : v < 180) (x1 x2 x8 : Int32) : fn_Mo_utter_253 x1 x2 x8 (nI v) 1000000 0 g = io (tst S (v / 15) < S 61 5) (fn_Mo_utter_279 x1 x2 x8 (nI v) (nI (tst S (v / 15))) g) (fn_Mo_utter_308 g) := by
  have d3 := (d5_3 (x := v) (by omega)).2.2
  have e5 : g.1 61 5 = nI (S 61 5) := hM.1 61 5 rfl
  have e66 : ∀ j, g.1 66 j = nI (S 66 j) := fun j => hM.1 66 j rfl
  have key : ∀ d m t, t + d = S 61 5 → d < m → fn_Mo_utter_253 x1 x2 x8 (nI v) m (nI t) g = io (skp (fun t => ¬ S 66 (5 * t) = v / 15) d t < S 61 5) (fn_Mo_utter_279 x1 x2 x8 (nI v) (nI (skp (fun t => ¬ S 66 (5 * t) = v / 15) d t)) g) (fn_Mo_utter_308 g) := by
    intro d
    induction d with
    | zero =>
      intro m t hd hm
      obtain ⟨m, rfl⟩ : ∃ q, m = q + 1 := ⟨m - 1, by omega⟩
      rw [fn_Mo_utter_253, e5, if_pos (nI_le (by omega) (by omega)), skp, io_f (by omega)]
    | succ d ih =>
      intro m t hd hm
      obtain ⟨m, rfl⟩ : ∃ q, m = q + 1 := ⟨m - 1, by omega⟩
      have ht : t < S 61 5 := by omega
      have := hst t ht
      rw [fn_Mo_utter_253, e5, if_neg (nI_ge ht (by omega)), show (5 : Int32) = nI 5 from rfl, pk_mul, ib_e (5 * t) 40 (by omega) (by decide), ck_t, nI_clamp (by omega), e66, show (15 : Int32) = nI 15 from rfl, d3, skp]
      by_cases q : S 66 (5 * t) = v / 15
      · rw [if_pos (by rw [q]), io_f (c := ¬ S 66 (5 * t) = v / 15) (fun z => z q), io_t ht]
      · rw [if_neg (by rw [ni_eq (by omega) (by omega)]; exact q), io_t (c := ¬ S 66 (5 * t) = v / 15) q]
        show fn_Mo_utter_253 x1 x2 x8 (nI v) m (nI t + nI 1) g = _
        rw [nI_add]
        exact ih m (t + 1) (by omega) (by omega)
  exact key (S 61 5) 1000000 0 (by omega) (by omega)
/-- the ways are looked for, and what was kept comes back -/
theorem m150 (hM : rc_M S g) (hw : wt_S S) (htw : wf_town S) (hb8 : ∀ i, i < 800 → S 71 i < 256) {a w b c lo m nt : Nat} (hnt : nt ≤ 1) (h0 : nt = 0 → lo = a ∧ lo + m = w) (h1 : nt = 1 → lo = b ∧ lo + m = c) (h8 : lo + m ≤ 800) (x1 x2 : Int32) : ∃ g', rc_M S g' ∧ fq wm_u g g' ∧ fn_Mo_utter_150 x1 x2 (nI a) (nI w) (nI b) (nI c) (nI nt) g = io (owP S (wl S lo m (15 * S 61 1))) (fn_Mo_utter_298 (nI nt) (nI ((wl S lo m (15 * S 61 1)).getD 0 0 % 5)) (nI (tst S ((wl S lo m (15 * S 61 1)).getD 0 0 / 15))) x2 x1 g') (fn_Mo_utter_308 g') := by
  have w12 : S 61 1 ≤ 12 := hw.1
  have ll := wl_len S lo m (15 * S 61 1)
  have lt := wl_lt S lo m (15 * S 61 1)
  have h58 : S 61 5 ≤ 8 := htw.2.2.2.2.2.1
  have hst : ∀ t, t < S 61 5 → S 66 (5 * t) < 1000 := fun t ht => by
    have := (htw.2.2.2.2.2.2.2.1 t ht).1
    omega
  obtain ⟨_, g1, k1, f1, c1⟩ := mcp_u (g := g)
  have M1 : rc_M S g1 := rc_M_q f1 (fun k j e => by
    by_cases z : k = 85
    · subst z; cases j <;> cases e
    · simp [z]) hM
  obtain ⟨_, g2, k2, M2, f2⟩ := fd_m M1 hw hb8 h8
  have e49 : g2.1 61 49 = nI (wl S lo m (15 * S 61 1)).length := by rw [M2.1 61 49 rfl, fz_49]
  obtain ⟨_, g3, k3, f3, c3⟩ := mcp_v (g := et_si g2 61 49 (nI (S 61 49)))
  have F : fq wm_u g g3 := fq_t (fq_t (fq_w f1 (fun k j e => by unfold wm_u at e; simp only [Bool.or_eq_false_iff] at e; exact e.2)) (fq_w f2 (fun k j e => by unfold wm_u at e; simp only [Bool.or_eq_false_iff] at e; exact e.1))) (fq_t (fq_s (fq_r _ _) rfl) (fq_w f3 (fun k j e => by
    unfold wm_u wm_f v_fz at e; simp only [Bool.or_eq_false_iff] at e
    rw [e.1.2.1]; rfl)))
  have M3 : rc_M S g3 := by
    refine ⟨fun k j e => ?_, ?_, ?_⟩
    · by_cases z1 : k = 83
      · subst z1
        by_cases z2 : j < 180
        · rw [c3 j z2, si_x (by decide), f2.1 85 j rfl, c1 j z2, hM.1 83 j rfl]
        · rw [f3.1 83 j (by simp [show Nat.ble (j + 1) 180 = false from by rw [← Bool.not_eq_true, Nat.ble_eq]; omega]), si_x (by decide), M2.1 83 j rfl, fz_83, if_neg (by omega)]
      · rw [f3.1 k j (by simp [z1])]
        by_cases z3 : k = 61 ∧ j = 49
        · rw [z3.1, z3.2, si_e]
        · rw [si_g, if_neg z3, M2.1 k j e]
          unfold fz
          rw [if_neg z3, if_neg z1]
    · rw [f3.1 61 19 rfl, si_j (by decide)]; exact M2.2.1
    · rw [f3.1 61 65 rfl, si_j (by decide)]; exact M2.2.2
  refine ⟨g3, M3, F, ?_⟩
  have e193 : fn_Mo_utter_193 x1 x2 (nI nt) (nI (S 61 49)) (nI (lo + m)) (nI lo) g1 = io (owP S (wl S lo m (15 * S 61 1))) (fn_Mo_utter_298 (nI nt) (nI ((wl S lo m (15 * S 61 1)).getD 0 0 % 5)) (nI (tst S ((wl S lo m (15 * S 61 1)).getD 0 0 / 15))) x2 x1 g3) (fn_Mo_utter_308 g3) := by
    unfold fn_Mo_utter_193
    rw [k2, bd_s, e49]
    simp only [et_b]
    rw [show et_ib (0 : Int32) 180 = true from rfl, ck_t, k3, bd_s, show (0 : Int32).toNatClampNeg = 0 from rfl]
    by_cases q1 : (wl S lo m (15 * S 61 1)).length = 1
    · have l0 : (wl S lo m (15 * S 61 1)).getD 0 0 < 180 := by have := lt _ (gd_mem (i := 0) (by omega)); omega
      obtain ⟨d1, d2, d3⟩ := d5_3 (x := (wl S lo m (15 * S 61 1)).getD 0 0) (by omega)
      rw [if_pos (show nI (wl S lo m (15 * S 61 1)).length = (1 : Int32) from by rw [q1]; rfl), show g2.1 83 0 = nI ((wl S lo m (15 * S 61 1)).getD 0 0) from by rw [M2.1 83 0 rfl, fz_83, if_pos (by omega)], show (5 : Int32) = nI 5 from rfl, show (3 : Int32) = nI 3 from rfl, d1]
      by_cases q2 : (wl S lo m (15 * S 61 1)).getD 0 0 / 5 % 3 = 2
      · rw [if_pos (show nI ((wl S lo m (15 * S 61 1)).getD 0 0 / 5 % 3) = (2 : Int32) from by rw [q2]; rfl), m253 M3 h58 hst l0]
        by_cases q3 : tst S ((wl S lo m (15 * S 61 1)).getD 0 0 / 15) < S 61 5
        · rw [io_t q3, io_t ⟨q1, q2, q3⟩]
          unfold fn_Mo_utter_279
          rw [show (5 : Int32) = nI 5 from rfl, d2]
          match nt, hnt with
          | 0, _ => rw [if_pos nI_0]; rfl
          | 1, _ => rw [if_neg (by decide)]; rfl
        · rw [io_f q3, io_f (fun z => q3 z.2.2)]
      · rw [if_neg (show ¬ nI ((wl S lo m (15 * S 61 1)).getD 0 0 / 5 % 3) = (2 : Int32) from fun z => q2 ((nI_eq (b := 2) (by omega) (by decide)).mp z)), io_f (fun z => q2 z.2.1)]
        rfl
    · rw [if_neg (show ¬ nI (wl S lo m (15 * S 61 1)).length = (1 : Int32) from fun z => q1 ((nI_eq (b := 1) (by omega) (by decide)).mp z)), io_f (fun z => q1 z.1)]
      rfl
  unfold fn_Mo_utter_150
  rw [hM.1 61 49 rfl]
  simp only [et_b]
  rw [k1, bd_s]
  by_cases q : nt = 0
  · obtain ⟨z1, z2⟩ := h0 q
    rw [if_pos (show nI nt = (0 : Int32) from by rw [q]; rfl)]
    unfold fn_Mo_utter_181
    rw [if_pos (show nI nt = (0 : Int32) from by rw [q]; rfl), ← e193, z2, z1]
  · obtain ⟨z1, z2⟩ := h1 (by omega)
    rw [if_neg (show ¬ nI nt = (0 : Int32) from fun e => q ((nI_eq (b := 0) (by omega) (by decide)).mp e))]
    unfold fn_Mo_utter_181
    rw [if_neg (show ¬ nI nt = (0 : Int32) from fun e => q ((nI_eq (b := 0) (by omega) (by decide)).mp e)), ← e193, z2, z1]
end UN
