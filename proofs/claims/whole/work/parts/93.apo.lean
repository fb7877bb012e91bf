/-! apart -/
def ww_a (k j : Nat) : Bool := ww_29 k j || (k == 0 && j == 1)
def v_ap (k j : Nat) : Bool := v_fz k j || (k == 61 && j == 17)
section AP
variable {S : et_T} {g : et_G}
theorem ap_ag (l : List Nat) : ag v_ap S (fz (su S 61 17 0) l) := ag_t (V := v_ap) (T := su S 61 17 0) (su_ag (ag_0 _ _) rfl) (fun k j e => fz_ag (su S 61 17 0) l k j (by unfold v_ap at e; simp only [Bool.or_eq_false_iff] at e; exact e.1))
theorem ap_W (I : Iv S g) {l : List Nat} (h1 : l.length ≤ 180) (h2 : ∀ x ∈ l, x < 180) : wf_S (fz (su S 61 17 0) l) ∧ wf_4 (fz (su S 61 17 0) l) := by
  obtain ⟨h0, hA, hB, hC, hD, hE, hF⟩ := I.2.2.2.1
  have a := ap_ag (S := S) l
  refine ⟨⟨⟨?_, ?_⟩, (wf_town_q a ⟨rfl, rfl, rfl, rfl, rfl, rfl, fun _ => rfl, fun _ => rfl, fun _ => rfl, fun _ => rfl, fun _ => rfl⟩ hA), (wf_led_q a ⟨rfl, rfl, rfl, fun _ => rfl⟩ hB), (wf_mind_q a ⟨rfl, rfl, rfl⟩ hC), (wf_kept_q a ⟨rfl, rfl, rfl, rfl, rfl, rfl, fun _ => rfl⟩ hD), ⟨?_, ?_⟩, (wf_mend_q a rfl hF)⟩, wf4_q a rfl rfl rfl rfl rfl rfl I.2.2.2.2⟩
  · rw [show fz (su S 61 17 0) l 61 17 = 0 from (fz_ag _ l 61 17 rfl).trans su_e]; exact Nat.zero_le _
  · intro i hi
    rw [a 71 i rfl]; exact h0.2 i hi
  · rw [fz_49]; exact h1
  · intro i hi
    rw [fz_49] at hi
    rw [fz_83, if_pos hi]
    exact h2 _ (gd_mem hi)
theorem ap_C (I : Iv S g) {l : List Nat} {g' : et_G} (f : fq ww_a g g') (e0 : g'.1 0 1 = nI 0) (r : wr g' 29 30 l) : rc_C (fz (su S 61 17 0) l) g' ∧ rc_G (fz (su S 61 17 0) l) g' ∧ fq w_C g g' := by
  obtain ⟨h0, h1, h2, h3, h4, h5, h6, h7, h8⟩ := I.1
  have a := ap_ag (S := S) l
  refine ⟨⟨⟨?_, ?_⟩, (rc_tong_q f a ⟨rfl, rfl, fun _ => rfl, fun _ => rfl⟩ ⟨rfl, rfl, fun _ => rfl, fun _ => rfl, fun _ => rfl, fun _ => rfl⟩ h1), (rc_town_q f a ⟨rfl, rfl, rfl, rfl, rfl, rfl, fun _ => rfl, fun _ => rfl, fun _ => rfl, fun _ => rfl, fun _ => rfl, fun _ => rfl, fun _ => rfl, fun _ => rfl⟩ ⟨rfl, rfl, rfl, rfl, fun _ => rfl, fun _ => rfl, fun _ => rfl, fun _ => rfl, fun _ => rfl⟩ h2), (rc_led_q f a ⟨rfl, fun _ => rfl, fun _ => rfl, fun _ => rfl, fun _ => rfl, fun _ => rfl⟩ ⟨rfl, fun _ => rfl⟩ h3), (rc_kept_q f a ⟨rfl, rfl, fun _ => rfl, fun _ => rfl, fun _ => rfl, fun _ => rfl, fun _ => rfl, rfl, rfl⟩ ⟨rfl, rfl, rfl, rfl, fun _ => rfl⟩ h4), (rc_mind_q f a ⟨rfl, rfl⟩ ⟨rfl, rfl⟩ h5), ⟨?_, ?_⟩, (rc_mend_q f a ⟨rfl, fun _ => rfl⟩ ⟨rfl, fun _ => rfl⟩ h7), (rc_misc_q f a ⟨rfl, rfl, rfl, rfl⟩ ⟨rfl, fun _ => rfl⟩ h8)⟩, rc_G_e (sE_of a rfl rfl rfl rfl rfl (fun _ => rfl) (fun _ => rfl) (fun _ => rfl) (fun _ => rfl) (fun _ => rfl)) (rc_G_q f (fun k j e => ?_) I.2.1), w_C_of f (fun k j e => by simp [ww_a, ww_29, wb_c] at e; omega)⟩
  · rw [e0, show fz (su S 61 17 0) l 61 17 = 0 from (fz_ag _ l 61 17 rfl).trans su_e]
  · intro i hi
    rw [f.1 1 i rfl, a 71 i rfl]; exact h0.2 i hi
  · rw [fz_49]; exact r.1
  · intro i hi
    rw [fz_49] at hi
    rw [fz_83, if_pos hi]
    exact r.2 i hi
  · unfold w_gr at e
    simp only [Bool.or_eq_true, Bool.and_eq_true, beq_iff_eq, Nat.ble_eq] at e
    simp [ww_a, ww_29, wb_c]; omega
theorem ap_M {l : List Nat} {g1 : et_G} (M : rc_M S g1) : rc_M (su S 61 17 0) (et_si g1 61 17 0) := by
  refine ⟨fun k j e => ?_, ?_, ?_⟩
  · by_cases h : k = 61 ∧ j = 17
    · rw [h.1, h.2, si_e, su_e]; rfl
    · rw [show (et_si g1 61 17 0).1 k j = g1.1 k j by rw [si_g, if_neg h], show su S 61 17 0 k j = S k j from if_neg h]
      exact M.1 k j e
  · rw [si_j (by decide), su_j (by decide)]; exact M.2.1
  · rw [si_j (by decide), su_j (by decide)]; exact M.2.2
theorem ok_apart (I : Iv S g) (n : Int32) : okB 1 S g (fn_Et_apart n g) (fn_Mo_apart n) := by
  have T := I.1.1
  have wT := I.2.2.2.1.1
  have w800 : S 61 17 ≤ 800 := wT.1
  by_cases hv : iN n (S 61 17 + 1)
  · obtain ⟨n, hn, rfl⟩ := iN_e hv (by have := wT.1; omega)
    have hle : n ≤ S 61 17 := by omega
    have h8 : 0 + n ≤ 800 := by have := wT.1; omega
    have hwt := wt_of I.1.2.1 I.2.2.2.1.2.1
    have hwt1 : wt_S (su S 61 17 0) := wt_e (su_j (by decide)) (su_j (by decide)) (funext fun _ => su_x (by decide)) (funext fun _ => su_x (by decide)) (funext fun _ => su_x (by decide)) hwt
    have a1 : ag v_tp S (su S 61 17 0) := su_ag (ag_0 _ _) rfl
    have hb8 : ∀ i, i < 800 → su S 61 17 0 71 i < 256 := fun i hi => by rw [su_x (by decide)]; exact wT.2 i hi
    have n1 : su S 61 17 0 61 1 = S 61 1 := su_j (by decide)
    have ll := wl_len (su S 61 17 0) 0 n (15 * su S 61 17 0 61 1)
    have lt := wl_lt (su S 61 17 0) 0 n (15 * su S 61 17 0 61 1)
    have w12 : S 61 1 ≤ 12 := hwt.1
    obtain ⟨w1, w2⟩ := ap_W I (l := wl (su S 61 17 0) 0 n (15 * su S 61 17 0 61 1)) (by omega) (fun x hx => by have := lt x hx; omega)
    refine ⟨_, .inr (nI (wl (su S 61 17 0) 0 n (15 * su S 61 17 0 61 1)).length), ?_, fun g1 M => ?_, w1, w2, fun k e => by cases e⟩
    · unfold okC fn_Et_apart fn_Et_takeTape
      rw [if_neg (nI_pos (by omega)), T.1, if_pos (nI_le hle (by omega))]
      have f0 : fq wt_c g (et_si g 0 1 0) := fq_s (fq_r _ _) rfl
      have h1 := I.1.2.1
      have tn : rc_tong (su S 61 17 0) (et_si g 0 1 0) := (rc_tong_q f0 a1 ⟨rfl, rfl, fun _ => rfl, fun _ => rfl⟩ ⟨rfl, rfl, fun _ => rfl, fun _ => rfl, fun _ => rfl, fun _ => rfl⟩ h1)
      have htw := I.2.2.2.1.2.1
      have tw : wf_town (su S 61 17 0) := (wf_town_q a1 ⟨rfl, rfl, rfl, rfl, rfl, rfl, fun _ => rfl, fun _ => rfl, fun _ => rfl, fun _ => rfl, fun _ => rfl⟩ htw)
      show ev_Q (et_bd (fn_Wa_find_1 (nI 0) (nI n) (et_si g 0 1 0)) _) _
      refine ev_d (f29_e tn tw (fun i hi => by rw [si_x (by decide), su_x (by decide)]; exact T.2 i hi) hb8 h8) (fun _ g2 h2 => ?_)
      have f2 : fq ww_a g g2 := fq_t (fq_s (fq_r _ _) rfl) (fq_w h2.2 (fun k j e => by unfold ww_a at e; simp only [Bool.or_eq_false_iff] at e; exact e.1))
      exact ev_r ⟨by rw [h2.1.1], ap_C I f2 (by rw [h2.2.1 0 1 rfl, si_e]; rfl) h2.1⟩
    · unfold fn_Mo_apart
      refine eb_q ?_
      have M0 := t0_m M 0
      rw [if_neg (nI_pos (by omega)), M0.1 61 17 rfl, if_neg (nI_nlt (by omega) (by omega))]
      unfold fn_Mo_apart_23
      rw [ri_y si_e 1 1 (by decide), bd_s, if_neg (by decide)]
      refine eb_q ?_
      have M1 := ap_M (l := []) M0
      have e := fd_m (lo := 0) (n := n) M1 hwt1 hb8 h8
      rw [Nat.zero_add] at e
      refine ev_d e (fun _ g2 h2 => ?_)
      refine ev_r ⟨by rw [h2.1.1 61 49 rfl, fz_49]; rfl, by rw [h2.2.1 61 0 rfl, si_j (by decide), si_e]; rfl, h2.1, ?_⟩
      exact fq_t (fq_s (fq_s (fq_r _ _) rfl) rfl) (w_M_of h2.2 (fun k j e => by simp [wm_f, wb_m, v_fz] at e; omega))
  · have hlt : ¬ n < 0 → nI (S 61 17) < n := fun h1 => Int32.lt_of_lt_of_le (nI_lt (Nat.lt_succ_self _) (by have := wT.1; omega)) (Classical.byContradiction fun h => hv ⟨h1, h⟩)
    refine ⟨S, .inl 1, okC_q I ?_, fun g1 M => ?_, I.2.2.2.1, I.2.2.2.2, fun k e => by cases e; rfl⟩
    · unfold fn_Et_apart fn_Et_takeTape
      by_cases h1 : n < 0
      · rw [if_pos h1, bt_l]
      · rw [if_neg h1, T.1, if_neg (fun z => Int32.lt_irrefl (Int32.lt_of_lt_of_le (hlt h1) z)), bt_l]
    · unfold fn_Mo_apart
      refine eb_q ?_
      have M0 := t0_m M 0
      have e : fn_Mo_apart_22 n (et_si g1 61 0 0) = some (0, et_si (et_si g1 61 0 0) 61 0 1) := by
        unfold fn_Mo_apart_22 fn_Mo_apart_23
        rw [ri_n si_e 1 (by decide), bd_s, if_pos rfl]
      by_cases h1 : n < 0
      · rw [if_pos h1, e]; exact okM_t (g' := g) M
      · rw [if_neg h1, M0.1 61 17 rfl, if_pos (hlt h1), e]; exact okM_t (g' := g) M
end AP
