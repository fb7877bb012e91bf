/-! village: the model's step -/
def w_mt (k j : Nat) : Bool := k == 61 && (j == 22 || j == 23 || j == 25 || j == 26)
section SM
variable {S : et_T}
theorem bya {n i : Nat} {g : et_G} (hn : n ≤ 800) (hi : i ≤ n) (ht : ∀ j, j < 800 → g.1 71 j = nI (S 71 j)) (h1 : g.1 61 21 = nI n) : fn_Mo_byteAt (nI i) g = some (nI (io (n ≤ i) 0 (S 71 i)), g) := by
  unfold fn_Mo_byteAt
  rw [h1]
  by_cases q : n ≤ i
  · rw [if_pos (nI_le q (by omega)), io_t q]; rfl
  · rw [if_neg (nI_ge (by omega) (by omega)), ib_e i 800 (by omega) (by decide), ck_t, nI_clamp (by omega), ht i (by omega), io_f q]
theorem mdg {b : Nat} (hb : b < 256) (g : et_G) : fn_Mo_isDigit (nI b) g = some (io (48 ≤ b ∧ b ≤ 57) 1 0, g) := by
  unfold fn_Mo_isDigit
  by_cases q1 : b < 48
  · rw [if_pos (show nI b < (48 : Int32) from nI_lt (b := 48) q1 (by decide)), io_f (fun z => by have := z.1; omega)]
  · rw [if_neg (show ¬ nI b < (48 : Int32) from nI_nlt (b := 48) (by omega) (by omega))]
    by_cases q2 : 57 < b
    · rw [if_pos (show (57 : Int32) < nI b from nI_lt (a := 57) q2 (by omega)), io_f (fun z => by have := z.2; omega)]
    · rw [if_neg (show ¬ (57 : Int32) < nI b from nI_nlt (a := 57) (by omega) (by decide)), io_t ⟨by omega, by omega⟩]
theorem s245 {a e : Nat} {g : et_G} (hae : a ≤ e) (h4 : g.1 61 24 = nI a) (h2 : g.1 61 22 = nI e) : ev_Q (fn_Mo_steps_245 g) (fun _ g' => g'.1 61 22 = nI e ∧ g'.1 61 23 = nI 2 ∧ g'.1 61 25 = nI (e - a) ∧ g'.1 61 26 = g.1 61 26 ∧ fq w_mt g g') := by
  unfold fn_Mo_steps_245 fn_Mo_steps_278
  refine eb_q (eb_q (ev_r ⟨?_, ?_, ?_, ?_, fq_s (fq_s (fq_r _ _) rfl) rfl⟩))
  · rw [si_j (by decide), si_j (by decide)]; exact h2
  · rw [si_j (by decide), si_e]; rfl
  · rw [si_e, si_j (by decide), si_j (by decide), h2, h4, pk_sub hae]
  · rw [si_j (by decide), si_j (by decide)]
theorem tdg_m {n a : Nat} (hn : n ≤ 800) (hb8 : ∀ i, i < 800 → S 71 i < 256) : ∀ d m k (g : et_G), a + k + d = n → d < m → (∀ j, j < k → dgP S (a + j)) → (∀ j, j < 800 → g.1 71 j = nI (S 71 j)) → g.1 61 21 = nI n → g.1 61 24 = nI a → g.1 61 22 = nI (a + k) → g.1 61 26 = nI (nv S a k) → ev_Q (fn_Mo_steps_182 m g) (fun _ g' => g'.1 61 22 = nI (skp (dgP S) d (a + k)) ∧ g'.1 61 23 = nI 2 ∧ g'.1 61 25 = nI (skp (dgP S) d (a + k) - a) ∧ g'.1 61 26 = nI (nv S a (skp (dgP S) d (a + k) - a)) ∧ fq w_mt g g') := by
  intro d
  induction d with
  | zero =>
    intro m k g hd hm hk ht h1 h4 h2 h6
    obtain ⟨m, rfl⟩ : ∃ q, m = q + 1 := ⟨m - 1, by omega⟩
    rw [fn_Mo_steps_182, h2, bya hn (by omega) ht h1, bd_s, io_t (by omega), mdg (by decide), bd_s, io_f (by omega), if_pos rfl, skp]
    refine ev_w (s245 (by omega) h4 h2) (fun _ g' h => ⟨h.1, h.2.1, h.2.2.1, ?_, h.2.2.2.2⟩)
    rw [h.2.2.2.1, h6, show a + k - a = k by omega]
  | succ d ih =>
    intro m k g hd hm hk ht h1 h4 h2 h6
    obtain ⟨m, rfl⟩ : ∃ q, m = q + 1 := ⟨m - 1, by omega⟩
    have hb := hb8 (a + k) (by omega)
    have by1 := bya (i := a + k) hn (by omega) ht h1
    rw [io_f (by omega)] at by1
    rw [fn_Mo_steps_182, h2, by1, bd_s, mdg hb, bd_s, skp]
    by_cases q : dgP S (a + k)
    · have hk' : ∀ j, j < k + 1 → dgP S (a + j) := fun j hj => by
        by_cases e : j = k
        · subst e; exact q
        · exact hk j (by omega)
      have nb := nv_b (S := S) a k (fun j hj => (hk j hj).2)
      rw [io_t q, io_t (show 48 ≤ S 71 (a + k) ∧ S 71 (a + k) ≤ 57 from q), if_neg (by decide), h2, h4, pk_sub (by omega), show a + k - a = k by omega]
      unfold fn_Mo_steps_232
      by_cases q3 : 3 ≤ k
      · rw [if_pos (show (3 : Int32) ≤ nI k from nI_le (a := 3) q3 (by omega)), h2]
        show ev_Q (fn_Mo_steps_182 m (et_si g 61 22 (nI (a + k) + nI 1))) _
        rw [nI_add]
        refine ev_w (ih m (k + 1) _ (by omega) (by omega) hk' (fun j hj => by rw [si_x (by decide)]; exact ht j hj) (by rw [si_j (by decide)]; exact h1) (by rw [si_j (by decide)]; exact h4) (by rw [si_e]; rfl) ?_) (fun _ g' h => ⟨h.1, h.2.1, h.2.2.1, h.2.2.2.1, fq_t (fq_s (fq_r _ _) rfl) h.2.2.2.2⟩)
        rw [si_j (by decide), nv, if_neg (by omega)]; exact h6
      · rw [if_neg (show ¬ (3 : Int32) ≤ nI k from nI_ge (b := 3) (by omega) (by decide)), by1, bd_s, h6, show (10 : Int32) = nI 10 from rfl, pk_mul, nI_add, show (48 : Int32) = nI 48 from rfl, pk_sub (by have := q.1; omega)]
        refine eb_q (eb_q ?_)
        rw [si_j (by decide), h2]
        show ev_Q (fn_Mo_steps_182 m (et_si (et_si g 61 26 (nI (10 * nv S a k + S 71 (a + k) - 48))) 61 22 (nI (a + k) + nI 1))) _
        rw [nI_add]
        refine ev_w (ih m (k + 1) _ (by omega) (by omega) hk' (fun j hj => by rw [si_x (by decide), si_x (by decide)]; exact ht j hj) (by rw [si_j (by decide), si_j (by decide)]; exact h1) (by rw [si_j (by decide), si_j (by decide)]; exact h4) (by rw [si_e]; rfl) ?_) (fun _ g' h => ⟨h.1, h.2.1, h.2.2.1, h.2.2.2.1, fq_t (fq_s (fq_s (fq_r _ _) rfl) rfl) h.2.2.2.2⟩)
        rw [si_j (by decide), si_e, nv, if_pos (by omega)]
        congr 1
        have := q.1; omega
    · rw [io_f q, io_f (show ¬ (48 ≤ S 71 (a + k) ∧ S 71 (a + k) ≤ 57) from q), if_pos rfl]
      refine ev_w (s245 (by omega) h4 h2) (fun _ g' h => ⟨h.1, h.2.1, h.2.2.1, ?_, h.2.2.2.2⟩)
      rw [h.2.2.2.1, h6, show a + k - a = k by omega]
end SM
