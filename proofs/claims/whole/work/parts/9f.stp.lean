/-! village: the class's step -/
noncomputable def tkE (S : et_T) (n a : Nat) : Nat := io (n ≤ a) a (io (ltP S a) (lte S n a) (io (dgP S a) (dte S n a) (io (S 71 a = 59) (a + 1) a)))
noncomputable def tkV (S : et_T) (n a : Nat) : Nat := io (n ≤ a) 0 (io (ltP S a) 0 (io (dgP S a) (nv S a (dte S n a - a)) 0))
def w_st (k j : Nat) : Bool := k == 28 && (Nat.ble 2 j && Nat.ble j 6)
/-- a token of the class, from a on -/
def tkC (S : et_T) (n a : Nat) (g : et_G) : Prop := g.1 28 4 = nI a ∧ g.1 28 3 = nI (tkK S n a) ∧ g.1 28 2 = nI (tkE S n a) ∧ g.1 28 5 = nI (tkE S n a - a) ∧ g.1 28 6 = nI (tkV S n a)
section ST
variable {S : et_T}
theorem w_stk {g g' : et_G} (h : fq w_tk g g') : fq w_st g g' := fq_w h (fun k j e => by
  cases q : w_tk k j with
  | false => rfl
  | true =>
    unfold w_tk at q
    simp only [Bool.or_eq_true, Bool.and_eq_true, beq_iff_eq] at q
    rcases q with ⟨q, z | z⟩ <;> rw [q, z] at e <;> cases e)
theorem st_194 {n a e v : Nat} {g : et_G} (hae : a ≤ e) (h4 : g.1 28 4 = nI a) (h3 : g.1 28 3 = nI (tkK S n a)) (h2 : g.1 28 2 = nI e) (h6 : g.1 28 6 = nI v) (ee : e = tkE S n a) (ev : v = tkV S n a) : ev_Q (fn_Re_step_194 g) (fun _ g' => tkC S n a g' ∧ fq w_st g g') := by
  unfold fn_Re_step_194
  refine eb_q (ev_r ⟨⟨?_, ?_, ?_, ?_, ?_⟩, fq_s (fq_r _ _) rfl⟩)
  · rw [si_j (by decide)]; exact h4
  · rw [si_j (by decide)]; exact h3
  · rw [si_j (by decide), h2, ee]
  · rw [si_e, h2, h4, pk_sub hae, ee]
  · rw [si_j (by decide), h6, ev]
theorem st_91 {n a : Nat} (hn : n ≤ 800) (hb8 : ∀ i, i < 800 → S 71 i < 256) (hk : tkK S n a = 1) (hv : tkV S n a = 0) : ∀ d m i (g : et_G), i + d = n → a ≤ i → d < m → skp (ltP S) d i = tkE S n a → (∀ j, j < 800 → g.1 1 j = c8 (S 71 j)) → g.1 28 1 = nI n → g.1 28 2 = nI i → g.1 28 4 = nI a → g.1 28 3 = nI 1 → g.1 28 6 = nI 0 → ev_Q (fn_Re_step_91 m g) (fun _ g' => tkC S n a g' ∧ fq w_st g g') := by
  intro d
  induction d with
  | zero =>
    intro m i g hd ha hm he ht h1 h2 h4 h3 h6
    obtain ⟨m, rfl⟩ : ∃ q, m = q + 1 := ⟨m - 1, by omega⟩
    rw [fn_Re_step_91, h1, h2, if_pos (nI_le (by omega) (by omega))]
    exact st_194 ha h4 (by rw [hk]; exact h3) h2 h6 he hv.symm
  | succ d ih =>
    intro m i g hd ha hm he ht h1 h2 h4 h3 h6
    obtain ⟨m, rfl⟩ : ∃ q, m = q + 1 := ⟨m - 1, by omega⟩
    rw [fn_Re_step_91, h1, h2, if_neg (nI_ge (by omega) (by omega)), ib_e i 800 (by omega) (by decide), ck_t, nI_clamp (by omega), ht i (by omega), ilt (hb8 i (by omega)), bd_s]
    rw [skp] at he
    by_cases q : ltP S i
    · rw [io_t q] at he
      rw [io_t (show 97 ≤ S 71 i ∧ S 71 i ≤ 122 from q), if_neg (by decide), h2]
      show ev_Q (fn_Re_step_91 m (et_si g 28 2 (nI i + nI 1))) _
      rw [nI_add]
      exact ev_w (ih m (i + 1) _ (by omega) (by omega) (by omega) he (fun j hj => by rw [si_x (by decide)]; exact ht j hj) (by rw [si_j (by decide)]; exact h1) si_e (by rw [si_j (by decide)]; exact h4) (by rw [si_j (by decide)]; exact h3) (by rw [si_j (by decide)]; exact h6)) (fun _ g' h => ⟨h.1, fq_t (fq_s (fq_r _ _) rfl) h.2⟩)
    · rw [io_f q] at he
      rw [io_f (show ¬ (97 ≤ S 71 i ∧ S 71 i ≤ 122) from q), if_pos rfl]
      exact st_194 ha h4 (by rw [hk]; exact h3) h2 h6 he hv.symm
theorem st_39 {n a : Nat} {g : et_G} (hn : n ≤ 800) (hb8 : ∀ i, i < 800 → S 71 i < 256) (ha : a ≤ n) (ht : ∀ j, j < 800 → g.1 1 j = c8 (S 71 j)) (h1 : g.1 28 1 = nI n) (h2 : g.1 28 2 = nI a) : ev_Q (fn_Re_step_39 g) (fun _ g' => tkC S n a g' ∧ fq w_st g g') := by
  unfold fn_Re_step_39
  refine eb_q (eb_q ?_)
  rw [h2]
  have f0 : fq w_st g (et_si (et_si g 28 4 (nI a)) 28 6 0) := fq_s (fq_s (fq_r _ _) rfl) rfl
  have k4 : (et_si (et_si g 28 4 (nI a)) 28 6 0).1 28 4 = nI a := by rw [si_j (by decide), si_e]
  have k6 : (et_si (et_si g 28 4 (nI a)) 28 6 0).1 28 6 = nI 0 := by rw [si_e]; rfl
  have k1 : (et_si (et_si g 28 4 (nI a)) 28 6 0).1 28 1 = nI n := by rw [si_j (by decide), si_j (by decide)]; exact h1
  have k2 : (et_si (et_si g 28 4 (nI a)) 28 6 0).1 28 2 = nI a := by rw [si_j (by decide), si_j (by decide)]; exact h2
  have kt : ∀ j, j < 800 → (et_si (et_si g 28 4 (nI a)) 28 6 0).1 1 j = c8 (S 71 j) := fun j hj => by rw [si_x (by decide), si_x (by decide)]; exact ht j hj
  generalize et_si (et_si g 28 4 (nI a)) 28 6 0 = g0 at f0 k4 k6 k1 k2 kt
  have T : ∀ (x : Nat) g1 e v, g1 = et_si g0 28 3 (nI x) → a ≤ e → g1.1 28 2 = nI a → x = tkK S n a → e = a → e = tkE S n a → v = 0 → v = tkV S n a → ev_Q (fn_Re_step_194 g1) (fun _ g' => tkC S n a g' ∧ fq w_st g g') := fun x g1 e v eg hae h2 hx e1 e2 v1 v2 => by
    refine ev_w (st_194 (S := S) (n := n) hae (by rw [eg, si_j (by decide)]; exact k4) (by rw [eg, si_e, hx]) (by rw [e1]; exact h2) (by rw [eg, si_j (by decide), v1]; exact k6) e2 v2) (fun _ g' h => ⟨h.1, fq_t (fq_t f0 ?_) h.2⟩)
    rw [eg]; exact fq_s (fq_r _ _) rfl
  rw [k2, k1]
  by_cases q0 : a < n
  · rw [if_pos (nI_lt q0 (by omega)), ib_e a 800 (by omega) (by decide), ck_t, nI_clamp (by omega), kt a (by omega), ilt (hb8 a (by omega)), bd_s]
    have nq : ¬ n ≤ a := by omega
    by_cases q1 : ltP S a
    · rw [io_t (show 97 ≤ S 71 a ∧ S 71 a ≤ 122 from q1), if_neg (by decide)]
      refine eb_q ?_
      refine ev_w (st_91 (S := S) (n := n) (a := a) hn hb8 (by unfold tkK; rw [io_f nq, io_t q1]) (by unfold tkV; rw [io_f nq, io_t q1]) (n - a) 1000000 a _ (by omega) (Nat.le_refl _) (by omega) (by unfold tkE; rw [io_f nq, io_t q1]; rfl) (fun j hj => by rw [si_x (by decide)]; exact kt j hj) (by rw [si_j (by decide)]; exact k1) (by rw [si_j (by decide)]; exact k2) (by rw [si_j (by decide)]; exact k4) (by rw [si_e]; rfl) (by rw [si_j (by decide)]; exact k6)) (fun _ g' h => ⟨h.1, fq_t (fq_t f0 (fq_s (fq_r _ _) rfl)) h.2⟩)
    · rw [io_f (show ¬ (97 ≤ S 71 a ∧ S 71 a ≤ 122) from q1), if_pos rfl, k2, ib_e a 800 (by omega) (by decide), ck_t, nI_clamp (by omega), kt a (by omega), idg (hb8 a (by omega)), bd_s]
      by_cases q2 : dgP S a
      · rw [io_t (show 48 ≤ S 71 a ∧ S 71 a ≤ 57 from q2), if_neg (by decide)]
        refine eb_q ?_
        unfold fn_Re_takeDigits
        refine ev_d (tdg_c (S := S) (n := n) (a := a) hn hb8 (n - a) 1000000 0 _ (by omega) (by omega) (fun j hj => by omega) (fun j hj => by rw [si_x (by decide)]; exact kt j hj) (by rw [si_j (by decide)]; exact k1) (by rw [si_j (by decide)]; exact k4) (by rw [si_j (by decide)]; exact k2) (by rw [si_j (by decide)]; exact k6)) (fun _ g1 h => ?_)
        obtain ⟨m2, m6, mf⟩ := h
        have sb := skp_b (dgP S) (n - a) a
        refine ev_w (st_194 (S := S) (n := n) (a := a) (e := dte S n a) (v := nv S a (dte S n a - a)) (by unfold dte; omega) (by rw [mf.1 28 4 rfl, si_j (by decide)]; exact k4) (by rw [mf.1 28 3 rfl, si_e]; unfold tkK; rw [io_f nq, io_f q1, io_t q2]; rfl) m2 m6 (by unfold tkE; rw [io_f nq, io_f q1, io_t q2]) (by unfold tkV; rw [io_f nq, io_f q1, io_t q2])) (fun _ g' h => ⟨h.1, fq_t (fq_t f0 (fq_t (fq_s (fq_r _ _) rfl) (w_stk mf))) h.2⟩)
      · rw [io_f (show ¬ (48 ≤ S 71 a ∧ S 71 a ≤ 57) from q2), if_pos rfl, k2, ib_e a 800 (by omega) (by decide), ck_t, nI_clamp (by omega), kt a (by omega)]
        have hc := c8_eq 59 (by decide) (S 71 a) (hb8 a (by omega))
        by_cases q3 : S 71 a = 59
        · rw [if_pos (show c8 (S 71 a) = 59 from (hc.mpr q3.symm).symm)]
          refine eb_q (eb_q ?_)
          rw [si_j (by decide), k2, show (1 : Int32) = nI 1 from rfl, nI_add]
          refine ev_w (st_194 (S := S) (n := n) (a := a) (e := a + 1) (v := 0) (by omega) (by rw [si_j (by decide), si_j (by decide)]; exact k4) (by rw [si_j (by decide), si_e]; unfold tkK; rw [io_f nq, io_f q1, io_f q2, io_t q3]; rfl) si_e (by rw [si_j (by decide), si_j (by decide)]; exact k6) (by unfold tkE; rw [io_f nq, io_f q1, io_f q2, io_t q3]) (by unfold tkV; rw [io_f nq, io_f q1, io_f q2])) (fun _ g' h => ⟨h.1, fq_t (fq_t f0 (fq_s (fq_s (fq_r _ _) rfl) rfl)) h.2⟩)
        · rw [if_neg (show ¬ c8 (S 71 a) = 59 from fun z => q3 (hc.mp z.symm).symm)]
          refine eb_q ?_
          exact T 4 _ a 0 rfl (Nat.le_refl _) (by rw [si_j (by decide)]; exact k2) (by unfold tkK; rw [io_f nq, io_f q1, io_f q2, io_f q3]) rfl (by unfold tkE; rw [io_f nq, io_f q1, io_f q2, io_f q3]) rfl (by unfold tkV; rw [io_f nq, io_f q1, io_f q2])
  · have nq : n ≤ a := by omega
    rw [if_neg (nI_nlt (by omega) (by omega))]
    refine eb_q ?_
    exact T 0 _ a 0 rfl (Nat.le_refl _) (by rw [si_j (by decide)]; exact k2) (by unfold tkK; rw [io_t nq]) rfl (by unfold tkE; rw [io_t nq]) rfl (by unfold tkV; rw [io_t nq])
theorem st_0 {n : Nat} (hn : n ≤ 800) (hb8 : ∀ i, i < 800 → S 71 i < 256) : ∀ d m i (g : et_G), i + d = n → d < m → (∀ j, j < 800 → g.1 1 j = c8 (S 71 j)) → g.1 28 1 = nI n → g.1 28 2 = nI i → ev_Q (fn_Re_step_0 m g) (fun _ g' => tkC S n (skp (blP S) d i) g' ∧ fq w_st g g') := by
  intro d
  induction d with
  | zero =>
    intro m i g hd hm ht h1 h2
    obtain ⟨m, rfl⟩ : ∃ q, m = q + 1 := ⟨m - 1, by omega⟩
    rw [fn_Re_step_0, h1, h2, if_pos (nI_le (by omega) (by omega)), skp]
    exact st_39 hn hb8 (by omega) ht h1 h2
  | succ d ih =>
    intro m i g hd hm ht h1 h2
    obtain ⟨m, rfl⟩ : ∃ q, m = q + 1 := ⟨m - 1, by omega⟩
    rw [fn_Re_step_0, h1, h2, if_neg (nI_ge (by omega) (by omega)), ib_e i 800 (by omega) (by decide), ck_t, nI_clamp (by omega), ht i (by omega), ibl (hb8 i (by omega)), bd_s, skp]
    by_cases q : blP S i
    · rw [io_t q, io_t (show S 71 i = 32 ∨ S 71 i = 10 from q), if_neg (by decide), h2]
      show ev_Q (fn_Re_step_0 m (et_si g 28 2 (nI i + nI 1))) _
      rw [nI_add]
      exact ev_w (ih m (i + 1) _ (by omega) (by omega) (fun j hj => by rw [si_x (by decide)]; exact ht j hj) (by rw [si_j (by decide)]; exact h1) si_e) (fun _ g' h => ⟨h.1, fq_t (fq_s (fq_r _ _) rfl) h.2⟩)
    · rw [io_f q, io_f (show ¬ (S 71 i = 32 ∨ S 71 i = 10) from q), if_pos rfl]
      exact st_39 hn hb8 (by omega) ht h1 h2
theorem st_c {n i : Nat} {g : et_G} (hn : n ≤ 800) (hb8 : ∀ i, i < 800 → S 71 i < 256) (hi : i ≤ n) (ht : ∀ j, j < 800 → g.1 1 j = c8 (S 71 j)) (h1 : g.1 28 1 = nI n) (h2 : g.1 28 2 = nI i) : ev_Q (fn_Re_step g) (fun _ g' => tkC S n (bk S n i) g' ∧ fq w_st g g') := st_0 hn hb8 (n - i) 1000000 i g (by omega) (by omega) ht h1 h2
end ST
