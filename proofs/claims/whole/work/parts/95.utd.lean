/-! utter: the class -/
def w_u (k j : Nat) : Bool := ww_32 k j || k == 31
section UD
variable {S : et_T}
theorem w_u3 {g g' : et_G} (h : fq ww_32 g g') : fq w_u g g' := fq_w h (fun k j e => by unfold w_u at e; simp only [Bool.or_eq_false_iff] at e; exact e.1)
theorem w_uc {g g' : et_G} (h : fq w_cu g g') : fq w_u g g' := fq_w h (fun k j e => by
  unfold w_u at e; simp only [Bool.or_eq_false_iff] at e
  unfold w_cu; rw [e.2]; rfl)
theorem w_us {g : et_G} (j : Nat) (x : Int32) : fq w_u g (et_si g 31 j x) := fq_s (fq_r _ _) (by unfold w_u; simp)
theorem u_tong {g g' : et_G} (f : fq w_u g g') (h1 : rc_tong S g) : rc_tong S g' := by
  have hs := ag_r S
  exact (rc_tong_q f hs ⟨rfl, rfl, fun _ => rfl, fun _ => rfl⟩ ⟨rfl, rfl, fun _ => rfl, fun _ => rfl, fun _ => rfl, fun _ => rfl⟩ h1)
theorem u_town {g g' : et_G} (f : fq w_u g g') (h2 : rc_town S g) : rc_town S g' := by
  have hs := ag_r S
  exact (rc_town_q f hs ⟨rfl, rfl, rfl, rfl, rfl, rfl, fun _ => rfl, fun _ => rfl, fun _ => rfl, fun _ => rfl, fun _ => rfl, fun _ => rfl, fun _ => rfl, fun _ => rfl⟩ ⟨rfl, rfl, rfl, rfl, fun _ => rfl, fun _ => rfl, fun _ => rfl, fun _ => rfl, fun _ => rfl⟩ h2)
theorem u_tape {g g' : et_G} (f : fq w_u g g') (h : ∀ j, j < 800 → g.1 1 j = c8 (S 71 j)) : ∀ j, j < 800 → g'.1 1 j = c8 (S 71 j) := fun j hj => by rw [f.1 1 j rfl]; exact h j hj
theorem d5_3 {x : Nat} (hx : x < 1000) : nI x / nI 5 - nI x / nI 5 / nI 3 * nI 3 = nI (x / 5 % 3) ∧ nI x - nI x / nI 5 * nI 5 = nI (x % 5) ∧ nI x / nI 15 = nI (x / 15) := by
  rw [pk_div (by omega) (by omega) (by omega), pk_div (by omega) (by omega) (by omega), pk_div (by omega) (by omega) (by omega), pk_mul, pk_mul, pk_sub (by omega), pk_sub (by omega)]
  refine ⟨?_, ?_, rfl⟩
  · congr 1; omega
  · congr 1; omega
theorem oway_c {g : et_G} {l : List Nat} (hC : rc_town S g) (hw : wf_town S) (r : wr g 32 33 l) (hl : ∀ x ∈ l, x < 180) (h180 : l.length ≤ 180) : ev_Q (fn_Ut_isOneWay g) (fun v g' => fq w_u g g' ∧ g'.1 31 4 = g.1 31 4 ∧ ((v = 0 ∧ ¬ owP S l) ∨ (v = 1 ∧ owP S l ∧ g'.1 31 5 = nI (tst S (l.getD 0 0 / 15)) ∧ g'.1 31 6 = nI (l.getD 0 0 % 5)))) := by
  have h8 : S 61 5 ≤ 8 := hw.2.2.2.2.2.1
  have hst : ∀ t, t < S 61 5 → S 66 (5 * t) < 1000 := fun t ht => by
    have := (hw.2.2.2.2.2.2.2.1 t ht).1
    have := hw.1
    omega
  unfold fn_Ut_isOneWay
  rw [r.1]
  by_cases h1 : l.length = 1
  · rw [if_pos (show nI l.length = (1 : Int32) from by rw [h1]; rfl)]
    have l0 : l.getD 0 0 < 180 := hl _ (gd_mem (by omega))
    obtain ⟨d1, d2, d3⟩ := d5_3 (x := l.getD 0 0) (by omega)
    have tb : tst S (l.getD 0 0 / 15) ≤ S 61 5 := by
      have := skp_b (fun t => ¬ S 66 (5 * t) = l.getD 0 0 / 15) (S 61 5) 0
      unfold tst; omega
    refine ev_k (ib_n (i := 0) (by decide) (by decide)) (eb_q ?_)
    rw [show (0 : Int32).toNatClampNeg = 0 from rfl, r.2 0 (by omega), show (5 : Int32) = nI 5 from rfl, show (15 : Int32) = nI 15 from rfl, show (3 : Int32) = nI 3 from rfl, d2, d3]
    refine eb_q ?_
    have f1 : fq w_u g (et_si g 31 6 (nI (l.getD 0 0 % 5))) := w_us 6 _
    rw [tos_c (u_town f1 hC) h8 (by omega) hst, bd_s, d1]
    refine eb_q ?_
    rw [si_e]
    have f2 : fq w_u g (et_si (et_si g 31 6 (nI (l.getD 0 0 % 5))) 31 5 (io (tst S (l.getD 0 0 / 15) < S 61 5) (nI (tst S (l.getD 0 0 / 15))) (-1))) := fq_t f1 (w_us 5 _)
    have e4 : (et_si (et_si g 31 6 (nI (l.getD 0 0 % 5))) 31 5 (io (tst S (l.getD 0 0 / 15) < S 61 5) (nI (tst S (l.getD 0 0 / 15))) (-1))).1 31 4 = g.1 31 4 := by rw [si_j (by decide), si_j (by decide)]
    by_cases q1 : l.getD 0 0 / 5 % 3 = 2
    · rw [if_pos (show nI (l.getD 0 0 / 5 % 3) = (2 : Int32) from by rw [q1]; rfl)]
      by_cases q2 : tst S (l.getD 0 0 / 15) < S 61 5
      · rw [io_t q2] at f2 e4 ⊢
        rw [if_neg (fun z => absurd (show nI (tst S (l.getD 0 0 / 15)) < 0 by rw [z]; decide) (nI_pos (by omega)))]
        exact ev_r ⟨f2, e4, Or.inr ⟨rfl, ⟨h1, q1, q2⟩, si_e, by rw [si_j (by decide), si_e]⟩⟩
      · rw [io_f q2] at f2 e4 ⊢
        rw [if_pos rfl]
        exact ev_r ⟨f2, e4, Or.inl ⟨rfl, fun z => q2 z.2.2⟩⟩
    · rw [if_neg (show ¬ nI (l.getD 0 0 / 5 % 3) = (2 : Int32) from fun z => q1 ((nI_eq (b := 2) (by omega) (by decide)).mp z))]
      exact ev_r ⟨f2, e4, Or.inl ⟨rfl, fun z => q1 z.2.1⟩⟩
  · rw [if_neg (show ¬ nI l.length = (1 : Int32) from fun z => h1 ((nI_eq (b := 1) (by omega) (by decide)).mp z))]
    exact ev_r ⟨fq_r _ _, rfl, Or.inl ⟨rfl, fun z => h1 z.1⟩⟩
theorem clr_92 {g : et_G} (hT : rc_tong S g) (hC : rc_town S g) (hw : wf_town S) (ht : ∀ j, j < 800 → g.1 1 j = c8 (S 71 j)) (hb8 : ∀ i, i < 800 → S 71 i < 256) {n e lo m : Nat} (hn : n ≤ 800) (he : e ≤ 800) (hm : lo + m ≤ 800) (h3 : g.1 31 3 = nI n) (h2 : g.1 31 2 = nI e) : ev_Q (fn_Ut_isClear_92 (nI lo) (nI m) g) (fun v g' => fq w_u g g' ∧ g'.1 31 4 = g.1 31 4 ∧ ((v = 0 ∧ ¬ (¬ m = 0 ∧ n ≤ e ∧ owP S (wl S lo m (15 * S 61 1)))) ∨ (v = 1 ∧ (¬ m = 0 ∧ n ≤ e ∧ owP S (wl S lo m (15 * S 61 1))) ∧ g'.1 31 5 = nI (tst S ((wl S lo m (15 * S 61 1)).getD 0 0 / 15)) ∧ g'.1 31 6 = nI ((wl S lo m (15 * S 61 1)).getD 0 0 % 5)))) := by
  unfold fn_Ut_isClear_92
  by_cases q0 : m = 0
  · rw [if_pos (show nI m = (0 : Int32) from by rw [q0]; rfl)]
    exact ev_r ⟨fq_r _ _, rfl, Or.inl ⟨rfl, fun z => z.1 q0⟩⟩
  · rw [if_neg (show ¬ nI m = (0 : Int32) from fun z => q0 ((nI_eq (b := 0) (by omega) (by decide)).mp z)), h3, h2]
    by_cases q1 : n ≤ e
    · rw [if_pos (nI_le q1 (by omega))]
      have ll := wl_len S lo m (15 * S 61 1)
      have lt := wl_lt S lo m (15 * S 61 1)
      have h12 : S 61 1 ≤ 12 := hw.1
      refine ev_d (f32_e hT hw ht hb8 hm) (fun _ g1 k1 => ?_)
      have f1 := w_u3 k1.2
      refine ev_d (oway_c (u_town f1 hC) hw k1.1 (fun x hx => by have := lt x hx; omega) (by omega)) (fun v g2 k2 => ?_)
      obtain ⟨f2, e4, k3⟩ := k2
      refine ev_r ⟨fq_t f1 f2, by rw [e4, k1.2.1 31 4 rfl], ?_⟩
      rcases k3 with ⟨rfl, b⟩ | ⟨rfl, b, c, d⟩
      · exact Or.inl ⟨rfl, fun z => b z.2.2⟩
      · exact Or.inr ⟨rfl, ⟨q0, q1, b⟩, c, d⟩
    · rw [if_neg (nI_ge (by omega) (by omega))]
      exact ev_r ⟨fq_r _ _, rfl, Or.inl ⟨rfl, fun z => q1 z.2.1⟩⟩
theorem clr_c {g : et_G} (hT : rc_tong S g) (hC : rc_town S g) (hw : wf_town S) (ht : ∀ j, j < 800 → g.1 1 j = c8 (S 71 j)) (hb8 : ∀ i, i < 800 → S 71 i < 256) {n : Nat} (hn : n ≤ 800) : ev_Q (fn_Ut_isClear (nI n) g) (fun v g' => fq w_u g g' ∧ ((v = 0 ∧ ¬ UC S n) ∨ (v = 1 ∧ UC S n ∧ g'.1 31 5 = nI (tst S ((u_l S n).getD 0 0 / 15)) ∧ g'.1 31 6 = nI ((u_l S n).getD 0 0 % 5) ∧ g'.1 31 4 = nI (u_t S n)))) := by
  obtain ⟨o1, o2, o3, o4⟩ := u_le S n
  unfold fn_Ut_isClear
  refine eb_q (eb_q (eb_q ?_))
  rw [if_neg (show ¬ (800 : Int32) < nI n from nI_nlt (a := 800) (by omega) (by omega))]
  have f0 : fq w_u g (et_si (et_si (et_si g 31 2 0) 31 3 (nI n)) 31 4 0) := fq_t (fq_t (w_us 2 _) (w_us 3 _)) (w_us 4 _)
  have z3 : (et_si (et_si (et_si g 31 2 0) 31 3 (nI n)) 31 4 0).1 31 3 = nI n := by rw [si_j (by decide), si_e]
  have z2 : (et_si (et_si (et_si g 31 2 0) 31 3 (nI n)) 31 4 0).1 31 2 = nI 0 := by rw [si_j (by decide), si_j (by decide), si_e]; rfl
  have z4 : (et_si (et_si (et_si g 31 2 0) 31 3 (nI n)) 31 4 0).1 31 4 = nI 0 := by rw [si_e]; rfl
  generalize et_si (et_si (et_si g 31 2 0) 31 3 (nI n)) 31 4 0 = g0 at f0 z3 z2 z4
  unfold fn_Ut_skipBlanks fn_Ut_takeWord
  refine ev_d (skb_c hn hb8 (n - 0) 1000000 0 g0 (by omega) (by omega) (u_tape f0 ht) z3 z2) (fun _ g1 h1 => eb_q ?_)
  have f1 := fq_t f0 (w_uc h1.2)
  have a1 : g1.1 31 2 = nI (u_a S n) := h1.1
  have b1 : g1.1 31 3 = nI n := by rw [h1.2.1 31 3 rfl]; exact z3
  have c1 : g1.1 31 4 = nI 0 := by rw [h1.2.1 31 4 rfl]; exact z4
  refine ev_d (show ev_Q (et_b (g1.1 31 2) (fun v1 => fn_Ut_takeWord_5 v1 1000000 g1)) _ from eb_q (by rw [a1]; exact tkw_c hn hb8 (n - u_a S n) 1000000 (u_a S n) g1 (by omega) (Nat.le_refl _) (by omega) (u_tape f1 ht) b1 a1)) (fun v g2 h2 => ?_)
  obtain ⟨rfl, a2, h2⟩ := h2
  have f2 := fq_t f1 (w_uc h2)
  have a2 : g2.1 31 2 = nI (u_w S n) := a2
  have b2 : g2.1 31 3 = nI n := by rw [h2.1 31 3 rfl]; exact b1
  have c2 : g2.1 31 4 = nI 0 := by rw [h2.1 31 4 rfl]; exact c1
  refine ev_d (skb_c hn hb8 (n - u_w S n) 1000000 (u_w S n) g2 (by omega) (by omega) (u_tape f2 ht) b2 a2) (fun _ g3 h3 => ?_)
  have f3 := fq_t f2 (w_uc h3.2)
  have a3 : g3.1 31 2 = nI (u_b S n) := h3.1
  have b3 : g3.1 31 3 = nI n := by rw [h3.2.1 31 3 rfl]; exact b2
  have c3 : g3.1 31 4 = nI 0 := by rw [h3.2.1 31 4 rfl]; exact c2
  rw [b3, a3, a1]
  show ev_Q (if nI n ≤ nI (u_b S n) then fn_Ut_isClear_92 (nI (u_a S n)) (nI (u_w S n - u_a S n)) g3 else _) _
  unfold UC u_V u_l u_m u_lo u_t
  by_cases q : n ≤ u_b S n
  · rw [if_pos (nI_le q (by omega)), io_t q, io_t q, io_t q]
    refine ev_w (clr_92 (u_tong f3 hT) (u_town f3 hC) hw (u_tape f3 ht) hb8 hn (by omega) (by omega) b3 a3) (fun v g4 h4 => ?_)
    obtain ⟨f4, e4, h4⟩ := h4
    refine ⟨fq_t f3 f4, ?_⟩
    rcases h4 with ⟨rfl, b⟩ | ⟨rfl, b, c, d⟩
    · exact Or.inl ⟨rfl, fun z => b ⟨z.1.1, q, z.2⟩⟩
    · exact Or.inr ⟨rfl, ⟨⟨b.1, fun z => absurd q z⟩, b.2.2⟩, c, d, by rw [e4]; exact c3⟩
  · rw [if_neg (nI_ge (by omega) (by omega)), io_f q, io_f q, io_f q]
    refine eb_q ?_
    have f5 : fq w_u g (et_si g3 31 4 1) := fq_t f3 (w_us 4 _)
    rw [show skp (ltP S) (n - u_a S n) (u_a S n) = u_w S n from rfl, not_c (u_tong f5 hT) (u_tape f5 ht) hb8 (by omega), bd_s]
    by_cases q1 : ntP S (u_a S n) (u_w S n - u_a S n)
    · rw [io_t q1, if_neg (by decide)]
      refine eb_q ?_
      have a5 : (et_si g3 31 4 1).1 31 2 = nI (u_b S n) := by rw [si_j (by decide)]; exact a3
      have b5 : (et_si g3 31 4 1).1 31 3 = nI n := by rw [si_j (by decide)]; exact b3
      have c5 : (et_si g3 31 4 1).1 31 4 = nI 1 := by rw [si_e]; rfl
      generalize et_si g3 31 4 1 = g5 at f5 a5 b5 c5
      refine ev_d (show ev_Q (et_b (g5.1 31 2) (fun v1 => fn_Ut_takeWord_5 v1 1000000 g5)) _ from eb_q (by rw [a5]; exact tkw_c hn hb8 (n - u_b S n) 1000000 (u_b S n) g5 (by omega) (Nat.le_refl _) (by omega) (u_tape f5 ht) b5 a5)) (fun v g6 h6 => ?_)
      obtain ⟨rfl, a6, h6⟩ := h6
      have f6 := fq_t f5 (w_uc h6)
      have a6 : g6.1 31 2 = nI (u_c S n) := a6
      have b6 : g6.1 31 3 = nI n := by rw [h6.1 31 3 rfl]; exact b5
      have c6 : g6.1 31 4 = nI 1 := by rw [h6.1 31 4 rfl]; exact c5
      refine ev_d (skb_c hn hb8 (n - u_c S n) 1000000 (u_c S n) g6 (by omega) (by omega) (u_tape f6 ht) b6 a6) (fun _ g7 h7 => ?_)
      have f7 := fq_t f6 (w_uc h7.2)
      have a7 : g7.1 31 2 = nI (bk S n (u_c S n)) := h7.1
      have b7 : g7.1 31 3 = nI n := by rw [h7.2.1 31 3 rfl]; exact b6
      have c7 : g7.1 31 4 = nI 1 := by rw [h7.2.1 31 4 rfl]; exact c6
      have bb := bk_b S o4
      rw [a5]
      refine ev_w (show ev_Q (fn_Ut_isClear_92 (nI (u_b S n)) (nI (u_c S n - u_b S n)) g7) _ from clr_92 (u_tong f7 hT) (u_town f7 hC) hw (u_tape f7 ht) hb8 hn (by omega) (by omega) b7 a7) (fun v g8 h8 => ?_)
      obtain ⟨f8, e8, h8⟩ := h8
      refine ⟨fq_t f7 f8, ?_⟩
      rcases h8 with ⟨rfl, b⟩ | ⟨rfl, b, c, d⟩
      · exact Or.inl ⟨rfl, fun z => b ⟨z.1.1, (z.1.2 q).2, z.2⟩⟩
      · exact Or.inr ⟨rfl, ⟨⟨b.1, fun _ => ⟨q1, b.2.1⟩⟩, b.2.2⟩, c, d, by rw [e8]; exact c7⟩
    · rw [io_f q1, if_pos rfl]
      exact ev_r ⟨f5, Or.inl ⟨rfl, fun z => q1 (z.1.2 q).1⟩⟩
end UD
