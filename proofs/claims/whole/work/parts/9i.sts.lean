/-! village: the model's step, whole -/
noncomputable def tkF (S : et_T) (n a : Nat) : Nat := io (n ≤ a) a (io (ltP S a) (lte S n a) (io (dgP S a) (dte S n a) (a + 1)))
/-- a token of the model, from a on -/
def tkM (S : et_T) (n a : Nat) (g : et_G) : Prop := g.1 61 24 = nI a ∧ g.1 61 23 = nI (tkK S n a) ∧ g.1 61 22 = nI (tkF S n a) ∧ g.1 61 25 = nI (tkF S n a - a) ∧ g.1 61 26 = nI (tkV S n a) ∧ (tkK S n a = 1 → g.2 61 27 = pkd S a (tkF S n a - a))
section SS
variable {S : et_T}
theorem s278 {a e x : Nat} {g : et_G} (hae : a ≤ e) (h4 : g.1 61 24 = nI a) (h2 : g.1 61 22 = nI e) (h3 : g.1 61 23 = nI x) : ev_Q (fn_Mo_steps_278 g) (fun _ g' => g'.1 61 22 = nI e ∧ g'.1 61 23 = nI x ∧ g'.1 61 24 = nI a ∧ g'.1 61 25 = nI (e - a) ∧ g'.1 61 26 = g.1 61 26 ∧ fq w_mt g g') := by
  unfold fn_Mo_steps_278
  refine eb_q (ev_r ⟨?_, ?_, ?_, ?_, ?_, fq_s (fq_r _ _) rfl⟩)
  · rw [si_j (by decide)]; exact h2
  · rw [si_j (by decide)]; exact h3
  · rw [si_j (by decide)]; exact h4
  · rw [si_e, h2, h4, pk_sub hae]
  · rw [si_j (by decide)]
end SS
