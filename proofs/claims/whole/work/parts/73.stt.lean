/-! what hangs on what: the ground kept while other cells change -/
def su (S : et_T) (k j v : Nat) : et_T := fun a b => if a = k ∧ b = j then v else S a b
theorem su_e {S : et_T} {k j v : Nat} : su S k j v k j = v := if_pos ⟨rfl, rfl⟩
theorem su_x {S : et_T} {k j v a b : Nat} (h : a ≠ k) : su S k j v a b = S a b := if_neg (fun e => h e.1)
theorem su_j {S : et_T} {k j v a b : Nat} (h : b ≠ j) : su S k j v a b = S a b := if_neg (fun e => h e.2)
theorem su_ag {S : et_T} {V : Nat → Nat → Bool} {T : et_T} {k j v : Nat} (h : ag V S T) (hv : V k j = true) : ag V S (su T k j v) := fun a b e => by
  unfold su
  rw [if_neg (fun z => by rw [z.1, z.2, hv] at e; cases e)]
  exact h a b e
theorem ag_0 (V : Nat → Nat → Bool) (S : et_T) : ag V S S := fun _ _ _ => rfl
theorem ag_t {V : Nat → Nat → Bool} {S T U : et_T} (h1 : ag V S T) (h2 : ag V T U) : ag V S U := fun a b e => by rw [h2 a b e, h1 a b e]
def sE (S S' : et_T) : Prop := S' 61 3 = S 61 3 ∧ S' 61 4 = S 61 4 ∧ S' 61 5 = S 61 5 ∧ S' 61 6 = S 61 6 ∧ S' 61 50 = S 61 50 ∧ S' 66 = S 66 ∧ S' 67 = S 67 ∧ S' 68 = S 68 ∧ S' 69 = S 69 ∧ S' 84 = S 84
theorem sE_of {V : Nat → Nat → Bool} {S S' : et_T} (h : ag V S S') (v3 : V 61 3 = false) (v4 : V 61 4 = false) (v5 : V 61 5 = false) (v6 : V 61 6 = false) (v50 : V 61 50 = false) (v66 : ∀ j, V 66 j = false) (v67 : ∀ j, V 67 j = false) (v68 : ∀ j, V 68 j = false) (v69 : ∀ j, V 69 j = false) (v84 : ∀ j, V 84 j = false) : sE S S' :=
  ⟨h _ _ v3, h _ _ v4, h _ _ v5, h _ _ v6, h _ _ v50, ag_row h v66, ag_row h v67, ag_row h v68, ag_row h v69, ag_row h v84⟩
section SE
variable {S S' : et_T}
theorem a_b0_e (h : sE S S') : a_b0 S' = a_b0 S := by
  obtain ⟨h3, h4, h5, h6, h50, h66, h67, h68, h69, h84⟩ := h
  funext p q t n; simp only [a_b0, a_pl, h66, h69]
theorem a_b1_e (h : sE S S') : a_b1 S' = a_b1 S := by
  obtain ⟨h3, h4, h5, h6, h50, h66, h67, h68, h69, h84⟩ := h
  funext p q t n; simp only [a_b1, a_pl, h66, h69, h68]
theorem a_hr_e (h : sE S S') : a_hr S' = a_hr S := by
  obtain ⟨h3, h4, h5, h6, h50, h66, h67, h68, h69, h84⟩ := h
  funext p q t; simp only [a_hr, a_pl, h84, h69, h50]
theorem a_ab_e (h : sE S S') : a_ab S' = a_ab S := by
  obtain ⟨h3, h4, h5, h6, h50, h66, h67, h68, h69, h84⟩ := h
  funext p q t; simp only [a_ab, h84, h50]
theorem a_dr_e (h : sE S S') : a_dr S' = a_dr S := by
  obtain ⟨h3, h4, h5, h6, h50, h66, h67, h68, h69, h84⟩ := h
  funext t; simp only [a_dr, h84, h50]
theorem a_ow_e (h : sE S S') : a_ow S' = a_ow S := by
  funext p q t; simp only [a_ow, a_b0_e h, a_b1_e h, h.2.2.1]
theorem a_rl_e (h : sE S S') : a_rl S' = a_rl S := by
  obtain ⟨h3, h4, h5, h6, h50, h66, h67, h68, h69, h84⟩ := h
  funext t C r; simp only [a_rl, h67, h6]
theorem a_wo_e (h : sE S S') : a_wo S' = a_wo S := by
  funext t C; simp only [a_wo, a_rl_e h]
theorem a_td_e (h : sE S S') : a_td S' = a_td S := by
  funext T p q t n; simp only [a_td, a_hr_e h, a_ab_e h]
theorem a_sh_e (h : sE S S') : a_sh S' = a_sh S := by
  funext T C p q t n w; simp only [a_sh, a_b0_e h, a_b1_e h, a_td_e h, a_wo_e h]
theorem a_st_e (h : sE S S') : a_st S' = a_st S := by
  funext T C Y s; simp only [a_st, a_sh_e h, h.2.2.2.2.2.2.2.2.2]
theorem a_cs_e' (h : sE S S') : a_cs S' = a_cs S := by
  funext T C p q t; simp only [a_cs, a_sh_e h, h.2.2.1]
theorem a_so_e (h : sE S S') : a_so S' = a_so S := by
  funext Y H s; simp only [a_so, h.2.2.2.2.2.2.2.2.2]
theorem a_lv_e (h : sE S S') : a_lv S' = a_lv S := by
  funext X Y r
  induction r with
  | zero => rfl
  | succ r ih => simp only [a_lv, ih, a_st_e h, a_cs_e' h, a_so_e h, h.2.2.2.2.1]
theorem a_H_e (h : sE S S') : a_H S' = a_H S := by
  funext X Y r s; simp only [a_H, a_lv_e h]
theorem a_C_e (h : sE S S') : a_C S' = a_C S := by
  funext X Y r p q s; simp only [a_C, a_lv_e h]
theorem a_T_e (h : sE S S') : a_T S' = a_T S := by
  funext X Y r s; simp only [a_T, a_so_e h, a_H_e h]
theorem a_HH_e (h : sE S S') : a_HH S' = a_HH S := by
  funext X Y s; simp only [a_HH, a_H_e h]
theorem a_TT_e (h : sE S S') : a_TT S' = a_TT S := by
  funext X Y s; simp only [a_TT, a_so_e h, a_HH_e h]
theorem a_lev_e (h : sE S S') : a_lev S' = a_lev S := by
  funext X Y s c; simp only [a_lev, a_H_e h]
theorem a_cl_e (h : sE S S') : a_cl S' = a_cl S := by
  funext T p q r
  induction r with
  | zero => rfl
  | succ r ih => funext t; simp only [a_cl, ih, a_cs_e' h]
theorem a_CL_e (h : sE S S') : a_CL S' = a_CL S := by
  funext T p q t; simp only [a_CL, a_cl_e h]
theorem a_oh_e (h : sE S S') : a_oh S' = a_oh S := by
  funext p q t n i; simp only [a_oh, a_b0_e h, a_b1_e h]
theorem a_fw_e (h : sE S S') : a_fw S' = a_fw S := by
  funext X Y s c w; simp only [a_fw, a_sh_e h, a_T_e h, a_C_e h, h.2.2.2.2.2.2.2.2.2]
theorem a_al_e (h : sE S S') : a_al S' = a_al S := by
  funext s; simp only [a_al, h.2.2.2.2.1]
theorem a_tt_e (h : sE S S') : a_tt S' = a_tt S := by
  unfold a_tt; rw [a_TT_e h, a_al_e h]
theorem a_re_e (h : sE S S') : a_re S' = a_re S := by
  funext C p q t u; simp only [a_re, a_rl_e h, a_CL_e h, a_tt_e h, h.2.2.2.2.2.2.1]
theorem a_te_e (h : sE S S') : a_te S' = a_te S := by
  funext E p q t n u; simp only [a_te, a_tt_e h, a_hr_e h, a_ab_e h]
theorem a_es_e (h : sE S S') : a_es S' = a_es S := by
  funext E C s q; simp only [a_es, a_HH_e h, a_al_e h, a_te_e h, a_re_e h, h.2.2.2.2.2.2.2.2.2]
theorem a_ct_e (h : sE S S') : a_ct S' = a_ct S := by
  funext E C p q t u; simp only [a_ct, a_ow_e h, a_te_e h, a_re_e h, h.2.2.1]
theorem a_ey_e (h : sE S S') : a_ey S' = a_ey S := by
  funext r
  induction r with
  | zero => rfl
  | succ r ih => simp only [a_ey, ih, a_es_e h, a_ct_e h]
theorem a_EY_e (h : sE S S') : a_EY S' = a_EY S := by
  funext s q; simp only [a_EY, a_ey_e h]
theorem gL_e {g : et_G} (h : sE S S') (L : gL S g) : gL S' g := by
  unfold gL gB at L ⊢
  simp only [a_ab_e h, a_dr_e h, a_hr_e h, a_ow_e h, a_oh_e h, h.2.2.2.2.1, h.2.2.2.2.2.2.2.2.2]
  exact L
theorem rP_e {X Y : Nat → Prop} {g : et_G} (h : sE S S') (L : rP S X Y g) : rP S' X Y g := by
  unfold rP at L ⊢
  simp only [a_HH_e h, a_TT_e h, a_lev_e h, a_fw_e h, h.2.2.2.2.1]
  exact L
theorem rc_G_e {g : et_G} (h : sE S S') (G : rc_G S g) : rc_G S' g := by
  refine ⟨G.1, fun z => ?_⟩
  obtain ⟨⟨a, b⟩, c, d⟩ := G.2 z
  refine ⟨⟨gL_e h a, ?_⟩, c, fun y => ?_⟩
  · rw [a_al_e h]; exact rP_e h b
  · have := d y
    unfold gE at this ⊢
    rw [a_EY_e h, h.2.2.2.2.1]
    exact this
theorem rc_G_q {W : Nat → Nat → Bool} {g g' : et_G} (f : fq W g g') (w : ∀ k j, w_gr k j = true → W k j = false) (G : rc_G S g) : rc_G S g' := by
  have e : ∀ k j, w_gr k j = true → g'.1 k j = g.1 k j := fun k j h => f.1 k j (w k j h)
  have r : ∀ k, 49 ≤ k → k ≤ 58 → ∀ j, g'.1 k j = g.1 k j := fun k h1 h2 j => e k j (by unfold w_gr; rw [Nat.ble_eq.mpr h1, Nat.ble_eq.mpr h2]; simp)
  refine ⟨by rw [e 48 15 rfl]; exact G.1, fun z => ?_⟩
  rw [e 48 15 rfl] at z
  obtain ⟨⟨⟨a1, a2, a3⟩, b1, b2, b3, b4⟩, c, d⟩ := G.2 z
  refine ⟨⟨⟨fun t ht nt hnt => ?_, ?_, fun i hi => ?_⟩, ?_, ?_, fun i hi => ?_, fun i hi => ?_⟩, ?_, fun y i hi => ?_⟩
  · rw [r 52 (by decide) (by decide)]; exact a1 t ht nt hnt
  · rw [e 48 12 rfl]; exact a2
  · rw [r 49 (by decide) (by decide), r 50 (by decide) (by decide), r 51 (by decide) (by decide), r 53 (by decide) (by decide)]; exact a3 i hi
  · rw [e 48 13 rfl]; exact b1
  · rw [e 48 14 rfl]; exact b2
  · rw [r 55 (by decide) (by decide)]; exact b3 i hi
  · rw [r 56 (by decide) (by decide)]; exact b4 i hi
  · rw [e 48 16 rfl]; exact c
  · rw [e 48 16 rfl] at y
    rw [r 57 (by decide) (by decide)]; exact d y i hi
end SE
/-- all that holds between two calls -/
def wf_4 (S : et_T) : Prop := m4 S ∧ (S 61 69 = 1 → S 61 71 < 2 ^ S 61 5 ∧ S 61 72 < 65536 ∧ pop 31 (S 61 71) ≤ 4 ∧ (S 61 71 = 0 ↔ S 61 72 = 0))
def Iv (S : et_T) (g : et_G) : Prop := rc_C S g ∧ rc_G S g ∧ rc_M S g ∧ wf_S S ∧ wf_4 S
def w_C (k _j : Nat) : Bool := Nat.ble k 60 && !(k == 17)
def w_V (k _j : Nat) : Bool := Nat.ble k 60
def w_M (k _j : Nat) : Bool := Nat.ble 61 k
theorem w_C_m : ∀ k j, mq k j = true → w_C k j = false := by
  intro k j h
  have := mq_c h
  unfold w_C
  cases e : Nat.ble k 60 with
  | false => rfl
  | true => have := Nat.ble_eq.mp e; omega
theorem w_V_m : ∀ k j, mq k j = true → w_V k j = false := by
  intro k j h
  have := mq_c h
  unfold w_V
  cases e : Nat.ble k 60 with
  | false => rfl
  | true => have := Nat.ble_eq.mp e; omega
theorem w_C_of {W : Nat → Nat → Bool} {g g' : et_G} (h : fq W g g') (w : ∀ k j, W k j = true → k ≤ 60 ∧ k ≠ 17) : fq w_C g g' := fq_w h (fun k j e => by
  cases q : W k j with
  | false => rfl
  | true => unfold w_C at e; have wk := w k j q; rw [Nat.ble_eq.mpr wk.1, show (k == 17) = false from beq_eq_false_iff_ne.mpr wk.2] at e; cases e)
theorem w_M_of {W : Nat → Nat → Bool} {g g' : et_G} (h : fq W g g') (w : ∀ k j, W k j = true → 61 ≤ k) : fq w_M g g' := fq_w h (fun k j e => by
  cases q : W k j with
  | false => rfl
  | true => unfold w_M at e; rw [Nat.ble_eq.mpr (w k j q)] at e; cases e)
theorem gr_C {g g' : et_G} (h : fq w_gr g g') : fq w_C g g' := w_C_of h (fun k j e => by
  unfold w_gr at e
  simp only [Bool.or_eq_true, Bool.and_eq_true, beq_iff_eq, Nat.ble_eq] at e
  omega)
theorem sc_M {g g' : et_G} (h : fq w_sc g g') : fq w_M g g' := w_M_of h (fun k j e => by
  unfold w_sc at e
  simp only [Bool.or_eq_true, Bool.and_eq_true, beq_iff_eq, Nat.ble_eq] at e
  omega)
theorem rc_C_gr {S : et_T} {g g' : et_G} (h : fq w_gr g g') (C : rc_C S g) : rc_C S g' := by
  obtain ⟨h0, h1, h2, h3, h4, h5, h6, h7, h8⟩ := C
  have hs := ag_r S
  exact ⟨(rc_tape_q h hs ⟨rfl, fun _ => rfl⟩ ⟨rfl, fun _ => rfl⟩ h0), (rc_tong_q h hs ⟨rfl, rfl, fun _ => rfl, fun _ => rfl⟩ ⟨rfl, rfl, fun _ => rfl, fun _ => rfl, fun _ => rfl, fun _ => rfl⟩ h1), (rc_town_q h hs ⟨rfl, rfl, rfl, rfl, rfl, rfl, fun _ => rfl, fun _ => rfl, fun _ => rfl, fun _ => rfl, fun _ => rfl, fun _ => rfl, fun _ => rfl, fun _ => rfl⟩ ⟨rfl, rfl, rfl, rfl, fun _ => rfl, fun _ => rfl, fun _ => rfl, fun _ => rfl, fun _ => rfl⟩ h2), (rc_led_q h hs ⟨rfl, fun _ => rfl, fun _ => rfl, fun _ => rfl, fun _ => rfl, fun _ => rfl⟩ ⟨rfl, fun _ => rfl⟩ h3), (rc_kept_q h hs ⟨rfl, rfl, fun _ => rfl, fun _ => rfl, fun _ => rfl, fun _ => rfl, fun _ => rfl, rfl, rfl⟩ ⟨rfl, rfl, rfl, rfl, fun _ => rfl⟩ h4), (rc_mind_q h hs ⟨rfl, rfl⟩ ⟨rfl, rfl⟩ h5), (rc_ways_q h hs ⟨rfl, fun _ => rfl⟩ ⟨rfl, fun _ => rfl⟩ h6), (rc_mend_q h hs ⟨rfl, fun _ => rfl⟩ ⟨rfl, fun _ => rfl⟩ h7), (rc_misc_q h hs ⟨rfl, rfl, rfl, rfl⟩ ⟨rfl, fun _ => rfl⟩ h8)⟩
theorem rc_C_M {S : et_T} {g g' : et_G} (h : fq w_M g g') (C : rc_C S g) : rc_C S g' := by
  obtain ⟨h0, h1, h2, h3, h4, h5, h6, h7, h8⟩ := C
  have hs := ag_r S
  exact ⟨(rc_tape_q h hs ⟨rfl, fun _ => rfl⟩ ⟨rfl, fun _ => rfl⟩ h0), (rc_tong_q h hs ⟨rfl, rfl, fun _ => rfl, fun _ => rfl⟩ ⟨rfl, rfl, fun _ => rfl, fun _ => rfl, fun _ => rfl, fun _ => rfl⟩ h1), (rc_town_q h hs ⟨rfl, rfl, rfl, rfl, rfl, rfl, fun _ => rfl, fun _ => rfl, fun _ => rfl, fun _ => rfl, fun _ => rfl, fun _ => rfl, fun _ => rfl, fun _ => rfl⟩ ⟨rfl, rfl, rfl, rfl, fun _ => rfl, fun _ => rfl, fun _ => rfl, fun _ => rfl, fun _ => rfl⟩ h2), (rc_led_q h hs ⟨rfl, fun _ => rfl, fun _ => rfl, fun _ => rfl, fun _ => rfl, fun _ => rfl⟩ ⟨rfl, fun _ => rfl⟩ h3), (rc_kept_q h hs ⟨rfl, rfl, fun _ => rfl, fun _ => rfl, fun _ => rfl, fun _ => rfl, fun _ => rfl, rfl, rfl⟩ ⟨rfl, rfl, rfl, rfl, fun _ => rfl⟩ h4), (rc_mind_q h hs ⟨rfl, rfl⟩ ⟨rfl, rfl⟩ h5), (rc_ways_q h hs ⟨rfl, fun _ => rfl⟩ ⟨rfl, fun _ => rfl⟩ h6), (rc_mend_q h hs ⟨rfl, fun _ => rfl⟩ ⟨rfl, fun _ => rfl⟩ h7), (rc_misc_q h hs ⟨rfl, rfl, rfl, rfl⟩ ⟨rfl, fun _ => rfl⟩ h8)⟩
theorem rc_G_M {S : et_T} {g g' : et_G} (h : fq w_M g g') (G : rc_G S g) : rc_G S g' := rc_G_q h (fun k j e => by
  unfold w_gr at e
  simp only [Bool.or_eq_true, Bool.and_eq_true, beq_iff_eq, Nat.ble_eq] at e
  unfold w_M
  cases q : Nat.ble 61 k with
  | false => rfl
  | true => have := Nat.ble_eq.mp q; omega) G
theorem rc_M_C {S : et_T} {g g' : et_G} (h : fq w_C g g') (M : rc_M S g) : rc_M S g' := rc_M_q h w_C_m M
/-- what a call of the class, a call of the model give -/
def okC {α : Type} (S' : et_T) (g : et_G) (F : Option (α × et_G)) (o : α) : Prop := ev_Q F (fun a g' => a = o ∧ rc_C S' g' ∧ rc_G S' g' ∧ fq w_C g g')
def okM (S S' : et_T) (F : et_G → Option (Int32 × et_G)) (v t : Int32) : Prop := ∀ g, rc_M S g → ev_Q (F g) (fun a g' => a = v ∧ g'.1 61 0 = t ∧ rc_M S' g' ∧ fq w_M g g')
theorem Iv_gA {S : et_T} {g : et_G} (I : Iv S g) : gA S g := ⟨I.1.2.2.1, I.1.2.2.2.1, I.2.2.2.1.2.1, I.2.2.2.1.2.2.1⟩
theorem Iv_mB {S : et_T} {g g' : et_G} (I : Iv S g) (M : rc_M S g') : mB S g' := ⟨M, I.2.2.2.1.2.1, I.2.2.2.1.2.2.1⟩
theorem ok_wrC {S : et_T} {g : et_G} (I : Iv S g) (p : Int32) : okC S g (fn_Et_wrong p g) (wr_o S p) := ev_w (wr_c (Iv_gA I) I.2.1 p) (fun _ g' ⟨a, b, c⟩ => ⟨a, rc_C_gr b I.1, c, gr_C b⟩)
theorem ok_wrM {S : et_T} {g0 : et_G} (I : Iv S g0) (p : Int32) : okM S S (fn_Mo_wrong p) (va_o (wr_o S p)) (th_o (wr_o S p)) := fun g M => ev_w (wr_m (Iv_mB I M) p) (fun _ g' ⟨a, b, c⟩ => ⟨a, b, (mB_sc c (Iv_mB I M)).1, sc_M c⟩)
theorem ok_coC {S : et_T} {g : et_G} (I : Iv S g) (p h t : Int32) {nt : Nat} (hn : nt ≤ 1) : okC S g (fn_Et_could p h t (nI nt) g) (co_o S p h t nt) := ev_w (co_c (Iv_gA I) I.2.1 p h t hn) (fun _ g' ⟨a, b, c⟩ => ⟨a, rc_C_gr b I.1, c, gr_C b⟩)
theorem ok_coM {S : et_T} {g0 : et_G} (I : Iv S g0) (p h t : Int32) {nt : Nat} (hn : nt ≤ 1) : okM S S (fn_Mo_could p h t (nI nt)) (va_o (co_o S p h t nt)) (th_o (co_o S p h t nt)) := fun g M => ev_w (co_m (Iv_mB I M) p h t hn) (fun _ g' ⟨a, b, c⟩ => ⟨a, b, (mB_sc c (Iv_mB I M)).1, sc_M c⟩)
