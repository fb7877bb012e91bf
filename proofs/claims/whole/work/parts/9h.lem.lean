/-! village: the model's letters -/
def pkd (S : et_T) (a : Nat) : Nat → Int64
  | 0 => 0
  | k + 1 => if k < 6 then (pkd S a k <<< ((5 : Int32).toInt64 &&& 63)) ||| ((nI (S 71 (a + k)) - (96 : Int32)).toInt64) else pkd S a k
section LM
variable {S : et_T}
theorem sl_61 (g : et_G) (x : Int64) : (et_sl g 61 27 x).2 61 27 = x := by
  show (if 61 = 61 then vp_updL (g.2 61) 27 x else g.2 61) 27 = x
  rw [if_pos rfl]
  unfold vp_updL
  simp
theorem fq_l {W : Nat → Nat → Bool} (g : et_G) (x : Int64) : fq W g (et_sl g 61 27 x) := ⟨fun _ _ _ => rfl, rfl⟩
theorem mlt {b : Nat} (hb : b < 256) (g : et_G) : fn_Mo_isLetter (nI b) g = some (io (97 ≤ b ∧ b ≤ 122) 1 0, g) := by
  unfold fn_Mo_isLetter
  by_cases q1 : b < 97
  · rw [if_pos (show nI b < (97 : Int32) from nI_lt (b := 97) q1 (by decide)), io_f (fun z => by have := z.1; omega)]
  · rw [if_neg (show ¬ nI b < (97 : Int32) from nI_nlt (b := 97) (by omega) (by omega))]
    by_cases q2 : 122 < b
    · rw [if_pos (show (122 : Int32) < nI b from nI_lt (a := 122) q2 (by omega)), io_f (fun z => by have := z.2; omega)]
    · rw [if_neg (show ¬ (122 : Int32) < nI b from nI_nlt (a := 122) (by omega) (by decide)), io_t ⟨by omega, by omega⟩]
theorem s167 {a e : Nat} {g : et_G} (hae : a ≤ e) (h4 : g.1 61 24 = nI a) (h2 : g.1 61 22 = nI e) : ev_Q (fn_Mo_steps_167 g) (fun _ g' => g'.1 61 22 = nI e ∧ g'.1 61 23 = nI 1 ∧ g'.1 61 25 = nI (e - a) ∧ g'.1 61 26 = g.1 61 26 ∧ g'.2 61 27 = g.2 61 27 ∧ fq w_mt g g') := by
  unfold fn_Mo_steps_167 fn_Mo_steps_278
  refine eb_q (eb_q (ev_r ⟨?_, ?_, ?_, ?_, rfl, fq_s (fq_s (fq_r _ _) rfl) rfl⟩))
  · rw [si_j (by decide), si_j (by decide)]; exact h2
  · rw [si_j (by decide), si_e]; rfl
  · rw [si_e, si_j (by decide), si_j (by decide), h2, h4, pk_sub hae]
  · rw [si_j (by decide), si_j (by decide)]
theorem let_m {n a : Nat} (hn : n ≤ 800) (hb8 : ∀ i, i < 800 → S 71 i < 256) : ∀ d m k (g : et_G), a + k + d = n → d < m → (∀ j, j < 800 → g.1 71 j = nI (S 71 j)) → g.1 61 21 = nI n → g.1 61 24 = nI a → g.1 61 22 = nI (a + k) → g.2 61 27 = pkd S a k → ev_Q (fn_Mo_steps_103 m g) (fun _ g' => g'.1 61 22 = nI (skp (ltP S) d (a + k)) ∧ g'.1 61 23 = nI 1 ∧ g'.1 61 25 = nI (skp (ltP S) d (a + k) - a) ∧ g'.1 61 26 = g.1 61 26 ∧ g'.2 61 27 = pkd S a (skp (ltP S) d (a + k) - a) ∧ fq w_mt g g') := by
  intro d
  induction d with
  | zero =>
    intro m k g hd hm ht h1 h4 h2 h7
    obtain ⟨m, rfl⟩ : ∃ q, m = q + 1 := ⟨m - 1, by omega⟩
    rw [fn_Mo_steps_103, h2, bya hn (by omega) ht h1, bd_s, io_t (by omega), mlt (by decide), bd_s, io_f (by omega), if_pos rfl, skp]
    refine ev_w (s167 (by omega) h4 h2) (fun _ g' h => ⟨h.1, h.2.1, h.2.2.1, h.2.2.2.1, ?_, h.2.2.2.2.2⟩)
    rw [h.2.2.2.2.1, h7, show a + k - a = k by omega]
  | succ d ih =>
    intro m k g hd hm ht h1 h4 h2 h7
    obtain ⟨m, rfl⟩ : ∃ q, m = q + 1 := ⟨m - 1, by omega⟩
    have hb := hb8 (a + k) (by omega)
    have by1 := bya (i := a + k) hn (by omega) ht h1
    rw [io_f (by omega)] at by1
    rw [fn_Mo_steps_103, h2, by1, bd_s, mlt hb, bd_s, skp]
    by_cases q : ltP S (a + k)
    · rw [io_t q, io_t (show 97 ≤ S 71 (a + k) ∧ S 71 (a + k) ≤ 122 from q), if_neg (by decide), h2, h4, pk_sub (by omega), show a + k - a = k by omega]
      unfold fn_Mo_steps_154
      by_cases q3 : 6 ≤ k
      · rw [if_pos (show (6 : Int32) ≤ nI k from nI_le (a := 6) q3 (by omega)), h2]
        show ev_Q (fn_Mo_steps_103 m (et_si g 61 22 (nI (a + k) + nI 1))) _
        rw [nI_add]
        refine ev_w (ih m (k + 1) _ (by omega) (by omega) (fun j hj => by rw [si_x (by decide)]; exact ht j hj) (by rw [si_j (by decide)]; exact h1) (by rw [si_j (by decide)]; exact h4) (by rw [si_e]; rfl) ?_) (fun _ g' h => ⟨h.1, h.2.1, h.2.2.1, by rw [h.2.2.2.1, si_j (by decide)], h.2.2.2.2.1, fq_t (fq_s (fq_r _ _) rfl) h.2.2.2.2.2⟩)
        rw [pkd, if_neg (by omega)]; exact h7
      · rw [if_neg (show ¬ (6 : Int32) ≤ nI k from nI_ge (b := 6) (by omega) (by decide)), by1, bd_s, h7]
        refine eb_q (eb_q ?_)
        rw [show (et_sl g 61 27 ((pkd S a k <<< ((5 : Int32).toInt64 &&& 63)) ||| ((nI (S 71 (a + k)) - (96 : Int32)).toInt64))).1 61 22 = nI (a + k) from h2, show (1 : Int32) = nI 1 from rfl, nI_add]
        refine ev_w (ih m (k + 1) _ (by omega) (by omega) (fun j hj => by rw [si_x (by decide)]; exact ht j hj) (by rw [si_j (by decide)]; exact h1) (by rw [si_j (by decide)]; exact h4) (by rw [si_e]; rfl) ?_) (fun _ g' h => ⟨h.1, h.2.1, h.2.2.1, by rw [h.2.2.2.1, si_j (by decide)]; rfl, h.2.2.2.2.1, fq_t (fq_t (fq_l _ _) (fq_s (fq_r _ _) rfl)) h.2.2.2.2.2⟩)
        rw [pkd, if_pos (by omega)]
        exact sl_61 g _
    · rw [io_f q, io_f (show ¬ (97 ≤ S 71 (a + k) ∧ S 71 (a + k) ≤ 122) from q), if_pos rfl]
      refine ev_w (s167 (by omega) h4 h2) (fun _ g' h => ⟨h.1, h.2.1, h.2.2.1, h.2.2.2.1, ?_, h.2.2.2.2.2⟩)
      rw [h.2.2.2.2.1, h7, show a + k - a = k by omega]
end LM
