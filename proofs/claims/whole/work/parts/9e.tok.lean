/-! village: the tokens; the class's step -/
def dgP (S : et_T) (i : Nat) : Prop := 48 ≤ S 71 i ∧ S 71 i ≤ 57
noncomputable def tkK (S : et_T) (n i : Nat) : Nat := io (n ≤ i) 0 (io (ltP S i) 1 (io (dgP S i) 2 (io (S 71 i = 59) 3 4)))
noncomputable def dte (S : et_T) (n i : Nat) : Nat := skp (dgP S) (n - i) i
/-- the number that k digits give: three of them count -/
def nv (S : et_T) (a : Nat) : Nat → Nat
  | 0 => 0
  | k + 1 => if k < 3 then 10 * nv S a k + (S 71 (a + k) - 48) else nv S a k
section TK
variable {S : et_T}
theorem c8_d : ∀ b, b < 256 → ((¬ c8 b < 48 ∧ ¬ 57 < c8 b) ↔ (48 ≤ b ∧ b ≤ 57)) := by decide +kernel
theorem c8_i : ∀ b, b < 128 → c8 b = nI b := by decide +kernel
theorem idg {b : Nat} (hb : b < 256) (g : et_G) : fn_Et_isDigit (c8 b) g = some (io (48 ≤ b ∧ b ≤ 57) 1 0, g) := by
  unfold fn_Et_isDigit
  have h := c8_d b hb
  by_cases q1 : c8 b < 48
  · rw [if_pos q1, io_f (fun z => (h.mpr z).1 q1)]
  · rw [if_neg q1]
    by_cases q2 : 57 < c8 b
    · rw [if_pos q2, io_f (fun z => (h.mpr z).2 q2)]
    · rw [if_neg q2, io_t (h.mp ⟨q1, q2⟩)]
theorem nv_b (a : Nat) : ∀ k, (∀ j, j < k → S 71 (a + j) ≤ 57) → nv S a k ≤ 999 ∧ (k ≤ 1 → nv S a k ≤ 9) ∧ (k ≤ 2 → nv S a k ≤ 99) ∧ (k = 0 → nv S a k = 0) := by
  intro k
  induction k with
  | zero => intro _; unfold nv; omega
  | succ k ih =>
    intro h
    have := ih (fun j hj => h j (by omega))
    have := h k (by omega)
    unfold nv
    by_cases q : k < 3
    · rw [if_pos q]; omega
    · rw [if_neg q]; omega
def w_tk (k j : Nat) : Bool := k == 28 && (j == 2 || j == 6)
theorem tdg_c {n a : Nat} (hn : n ≤ 800) (hb8 : ∀ i, i < 800 → S 71 i < 256) : ∀ d m k (g : et_G), a + k + d = n → d < m → (∀ j, j < k → dgP S (a + j)) → (∀ j, j < 800 → g.1 1 j = c8 (S 71 j)) → g.1 28 1 = nI n → g.1 28 4 = nI a → g.1 28 2 = nI (a + k) → g.1 28 6 = nI (nv S a k) → ev_Q (fn_Re_takeDigits_0 m g) (fun _ g' => g'.1 28 2 = nI (skp (dgP S) d (a + k)) ∧ g'.1 28 6 = nI (nv S a (skp (dgP S) d (a + k) - a)) ∧ fq w_tk g g') := by
  intro d
  induction d with
  | zero =>
    intro m k g hd hm hk ht h1 h4 h2 h6
    obtain ⟨m, rfl⟩ : ∃ q, m = q + 1 := ⟨m - 1, by omega⟩
    rw [fn_Re_takeDigits_0, h1, h2, if_pos (nI_le (by omega) (by omega))]
    refine ev_r ⟨h2, ?_, fq_r _ _⟩
    rw [skp, show a + k - a = k by omega]; exact h6
  | succ d ih =>
    intro m k g hd hm hk ht h1 h4 h2 h6
    obtain ⟨m, rfl⟩ : ∃ q, m = q + 1 := ⟨m - 1, by omega⟩
    have hb := hb8 (a + k) (by omega)
    rw [fn_Re_takeDigits_0, h1, h2, if_neg (nI_ge (by omega) (by omega)), ib_e (a + k) 800 (by omega) (by decide), ck_t, nI_clamp (by omega), ht (a + k) (by omega), idg hb, bd_s, skp]
    by_cases q : dgP S (a + k)
    · have hk' : ∀ j, j < k + 1 → dgP S (a + j) := fun j hj => by
        by_cases e : j = k
        · subst e; exact q
        · exact hk j (by omega)
      have nb := nv_b (S := S) a k (fun j hj => (hk j hj).2)
      rw [io_t q, io_t (show 48 ≤ S 71 (a + k) ∧ S 71 (a + k) ≤ 57 from q), if_neg (by decide), h2, h4, pk_sub (by omega), show a + k - a = k by omega]
      unfold fn_Re_takeDigits_63
      by_cases q3 : 3 ≤ k
      · rw [if_pos (show (3 : Int32) ≤ nI k from nI_le (a := 3) q3 (by omega)), h2]
        show ev_Q (fn_Re_takeDigits_0 m (et_si g 28 2 (nI (a + k) + nI 1))) _
        rw [nI_add]
        refine ev_w (ih m (k + 1) _ (by omega) (by omega) hk' (fun j hj => by rw [si_x (by decide)]; exact ht j hj) (by rw [si_j (by decide)]; exact h1) (by rw [si_j (by decide)]; exact h4) (by rw [si_e]; rfl) ?_) (fun _ g' h => ⟨h.1, h.2.1, fq_t (fq_s (fq_r _ _) rfl) h.2.2⟩)
        rw [si_j (by decide), nv, if_neg (by omega)]; exact h6
      · rw [if_neg (show ¬ (3 : Int32) ≤ nI k from nI_ge (b := 3) (by omega) (by decide)), ib_e (a + k) 800 (by omega) (by decide), ck_t, h6, nI_clamp (by omega), ht (a + k) (by omega), c8_i _ (by have := q.2; omega), show (10 : Int32) = nI 10 from rfl, pk_mul, nI_add, show (48 : Int32) = nI 48 from rfl, pk_sub (by have := q.1; omega)]
        refine eb_q (eb_q ?_)
        rw [si_j (by decide), h2]
        show ev_Q (fn_Re_takeDigits_0 m (et_si (et_si g 28 6 (nI (10 * nv S a k + S 71 (a + k) - 48))) 28 2 (nI (a + k) + nI 1))) _
        rw [nI_add]
        refine ev_w (ih m (k + 1) _ (by omega) (by omega) hk' (fun j hj => by rw [si_x (by decide), si_x (by decide)]; exact ht j hj) (by rw [si_j (by decide), si_j (by decide)]; exact h1) (by rw [si_j (by decide), si_j (by decide)]; exact h4) (by rw [si_e]; rfl) ?_) (fun _ g' h => ⟨h.1, h.2.1, fq_t (fq_s (fq_s (fq_r _ _) rfl) rfl) h.2.2⟩)
        rw [si_j (by decide), si_e, nv, if_pos (by omega)]
        congr 1
        have := q.1; omega
    · rw [io_f q, io_f (show ¬ (48 ≤ S 71 (a + k) ∧ S 71 (a + k) ≤ 57) from q), if_pos rfl]
      refine ev_r ⟨h2, ?_, fq_r _ _⟩
      rw [show a + k - a = k by omega]; exact h6
end TK
