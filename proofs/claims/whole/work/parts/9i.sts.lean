/-! village: the model's step, whole -/
noncomputable def tkF (S : et_T) (n a : Nat) : Nat := io (n ≤ a) a (io (ltP S a) (lte S n a) (io (dgP S a) (dte S n a) (a + 1)))
/-- a token of the model, from a on -/
def tkM (S : et_T) (n a : Nat) (g : et_G) : Prop := g.1 61 24 = nI a ∧ g.1 61 23 = nI (tkK S n a) ∧ g.1 61 22 = nI (tkF S n a) ∧ g.1 61 25 = nI (tkF S n a - a) ∧ g.1 61 26 = nI (tkV S n a) ∧ (tkK S n a = 1 → g.2 61 27 = pkd S a (tkF S n a - a))
section SS
variable {S : et_T}
theorem s278 {a e x : Nat} {g : et_G} (hae : a ≤ e) (h4 : g.1 61 24 = nI a) (h2 : g.1 61 22 = nI e) (h3 : g.1 61 23 = nI x) : ev_Q (fn_Mo_steps_278 g) (fun _ g' => g'.1 61 22 = nI e ∧ g'.1 61 23 = nI x ∧ g'.1 61 24 = nI a ∧ g'.1 61 25 = nI (e - a) ∧ g'.1 61 26 = g.1 61 26 ∧ fq w_mt g g') := by
  unfold fn_Mo_steps_278
  refine eb_q (ev_r ⟨?_, ?_, ?_, ?_, ?_, fq_s (fq_r _ _) rfl⟩)
  · rw [si_j (by decide)]; exact h2
  · rw [si_j (by decide)]; exact h3
  · rw [si_j (by decide)]; exact h4
  · rw [si_e, h2, h4, pk_sub hae]
  · rw [si_j (by decide)]
def w_ms (k j : Nat) : Bool := k == 61 && (Nat.ble 22 j && Nat.ble j 26)
theorem w_mts {g g' : et_G} (h : fq w_mt g g') : fq w_ms g g' := fq_w h (fun k j e => by
  cases q : w_mt k j with
  | false => rfl
  | true =>
    unfold w_mt at q
    simp only [Bool.or_eq_true, Bool.and_eq_true, beq_iff_eq] at q
    rcases q with ⟨q, ((z | z) | z) | z⟩ <;> rw [q, z] at e <;> cases e)
theorem s50 {n a : Nat} {g : et_G} (hn : n ≤ 800) (hb8 : ∀ i, i < 800 → S 71 i < 256) (ha : a ≤ n) (ht : ∀ j, j < 800 → g.1 71 j = nI (S 71 j)) (h1 : g.1 61 21 = nI n) (h2 : g.1 61 22 = nI a) : ev_Q (fn_Mo_steps_50 g) (fun _ g' => tkM S n a g' ∧ fq w_ms g g') := by
  unfold fn_Mo_steps_50
  refine eb_q (eb_q (eb_q ?_))
  rw [h2]
  have f0 : fq w_ms g (et_si (et_sl (et_si g 61 24 (nI a)) 61 27 0) 61 26 0) := fq_t (fq_t (fq_s (fq_r _ _) rfl) (fq_l _ _)) (fq_s (fq_r _ _) rfl)
  have k4 : (et_si (et_sl (et_si g 61 24 (nI a)) 61 27 0) 61 26 0).1 61 24 = nI a := by rw [si_j (by decide)]; exact (show (et_si g 61 24 (nI a)).1 61 24 = nI a from si_e)
  have k6 : (et_si (et_sl (et_si g 61 24 (nI a)) 61 27 0) 61 26 0).1 61 26 = nI 0 := by rw [si_e]; rfl
  have k1 : (et_si (et_sl (et_si g 61 24 (nI a)) 61 27 0) 61 26 0).1 61 21 = nI n := by rw [si_j (by decide)]; exact (show (et_si g 61 24 (nI a)).1 61 21 = nI n by rw [si_j (by decide)]; exact h1)
  have k2 : (et_si (et_sl (et_si g 61 24 (nI a)) 61 27 0) 61 26 0).1 61 22 = nI a := by rw [si_j (by decide)]; exact (show (et_si g 61 24 (nI a)).1 61 22 = nI a by rw [si_j (by decide)]; exact h2)
  have k7 : (et_si (et_sl (et_si g 61 24 (nI a)) 61 27 0) 61 26 0).2 61 27 = 0 := sl_61 (et_si g 61 24 (nI a)) 0
  have kt : ∀ j, j < 800 → (et_si (et_sl (et_si g 61 24 (nI a)) 61 27 0) 61 26 0).1 71 j = nI (S 71 j) := fun j hj => by rw [si_x (by decide)]; exact (show (et_si g 61 24 (nI a)).1 71 j = nI (S 71 j) by rw [si_x (by decide)]; exact ht j hj)
  generalize et_si (et_sl (et_si g 61 24 (nI a)) 61 27 0) 61 26 0 = g0 at f0 k4 k6 k1 k2 k7 kt
  rw [k2, bya hn ha kt k1, bd_s, k2, k1]
  by_cases q0 : a < n
  · have nq : ¬ n ≤ a := by omega
    rw [if_pos (nI_lt q0 (by omega)), io_f nq, mlt (hb8 a (by omega)), bd_s]
    unfold tkM tkK tkF tkV
    rw [io_f nq, io_f nq, io_f nq]
    by_cases q1 : ltP S a
    · rw [io_t (show 97 ≤ S 71 a ∧ S 71 a ≤ 122 from q1), if_neg (by decide), io_t q1, io_t q1, io_t q1]
      refine ev_w (let_m (S := S) (a := a) hn hb8 (n - a) 1000000 0 g0 (by omega) (by omega) kt k1 k4 k2 k7) (fun _ g' h => ?_)
      exact ⟨⟨by rw [h.2.2.2.2.2.1 61 24 rfl]; exact k4, h.2.1, h.1, h.2.2.1, by rw [h.2.2.2.1]; exact k6, fun _ => h.2.2.2.2.1⟩, fq_t f0 (w_mts h.2.2.2.2.2)⟩
    · rw [io_f (show ¬ (97 ≤ S 71 a ∧ S 71 a ≤ 122) from q1), if_pos rfl, mdg (hb8 a (by omega)), bd_s, io_f q1, io_f q1, io_f q1]
      by_cases q2 : dgP S a
      · rw [io_t (show 48 ≤ S 71 a ∧ S 71 a ≤ 57 from q2), if_neg (by decide), io_t q2, io_t q2, io_t q2]
        refine ev_w (tdg_m (S := S) (a := a) hn hb8 (n - a) 1000000 0 g0 (by omega) (by omega) (fun j hj => by omega) kt k1 k4 k2 k6) (fun _ g' h => ?_)
        exact ⟨⟨by rw [h.2.2.2.2.1 61 24 rfl]; exact k4, h.2.1, h.1, h.2.2.1, h.2.2.2.1, fun z => by cases z⟩, fq_t f0 (w_mts h.2.2.2.2)⟩
      · rw [io_f (show ¬ (48 ≤ S 71 a ∧ S 71 a ≤ 57) from q2), if_pos rfl, io_f q2, io_f q2, io_f q2]
        refine eb_q ?_
        rw [k2, show (1 : Int32) = nI 1 from rfl, nI_add]
        have E : ∀ x, ev_Q (fn_Mo_steps_275 (nI x) (et_si g0 61 22 (nI (a + 1)))) (fun _ g' => g'.1 61 22 = nI (a + 1) ∧ g'.1 61 23 = nI x ∧ g'.1 61 24 = nI a ∧ g'.1 61 25 = nI (a + 1 - a) ∧ g'.1 61 26 = nI 0 ∧ fq w_ms g g') := fun x => by
          unfold fn_Mo_steps_275
          refine eb_q (ev_w (s278 (a := a) (e := a + 1) (x := x) (by omega) (by rw [si_j (by decide), si_j (by decide)]; exact k4) (by rw [si_j (by decide), si_e]) si_e) (fun _ g' h => ⟨h.1, h.2.1, h.2.2.1, h.2.2.2.1, ?_, fq_t (fq_t f0 (fq_s (fq_s (fq_r _ _) rfl) rfl)) (w_mts h.2.2.2.2.2)⟩))
          rw [h.2.2.2.2.1, si_j (by decide), si_j (by decide)]; exact k6
        have hb := hb8 a (by omega)
        by_cases q3 : S 71 a = 59
        · rw [if_pos (show nI (S 71 a) = (59 : Int32) from by rw [q3]; rfl), io_t q3]
          exact ev_w (E 3) (fun _ g' h => ⟨⟨h.2.2.1, h.2.1, h.1, h.2.2.2.1, h.2.2.2.2.1, fun z => by cases z⟩, h.2.2.2.2.2⟩)
        · rw [if_neg (show ¬ nI (S 71 a) = (59 : Int32) from fun z => q3 ((nI_eq (b := 59) (by omega) (by decide)).mp z)), io_f q3]
          exact ev_w (E 4) (fun _ g' h => ⟨⟨h.2.2.1, h.2.1, h.1, h.2.2.2.1, h.2.2.2.2.1, fun z => by cases z⟩, h.2.2.2.2.2⟩)
  · have nq : n ≤ a := by omega
    rw [if_neg (nI_nlt (by omega) (by omega))]
    unfold tkM tkK tkF tkV
    rw [io_t nq, io_t nq, io_t nq]
    refine eb_q (ev_w (s278 (a := a) (e := a) (x := 0) (Nat.le_refl _) (by rw [si_j (by decide)]; exact k4) (by rw [si_j (by decide)]; exact k2) (by rw [si_e]; rfl)) (fun _ g' h => ⟨⟨h.2.2.1, h.2.1, h.1, h.2.2.2.1, ?_, fun z => by cases z⟩, fq_t (fq_t f0 (fq_s (fq_r _ _) rfl)) (w_mts h.2.2.2.2.2)⟩))
    rw [h.2.2.2.2.1, si_j (by decide)]; exact k6
end SS
