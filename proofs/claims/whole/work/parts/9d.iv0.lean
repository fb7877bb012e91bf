/-! where it begins -/
def S_0 : et_T := fun k j => if k = 61 ∧ j = 3 then 1 else if k = 70 ∧ j < 10 then 500 else 0
theorem s0_z {k j : Nat} (h1 : k ≠ 61) (h2 : k ≠ 70) : S_0 k j = 0 := by
  unfold S_0
  rw [if_neg (fun z => h1 z.1), if_neg (fun z => h2 z.1)]
theorem c0_70 (j : Nat) : et_c0 70 j = nI (S_0 70 j) := by
  by_cases h : j < 10
  · match j, h with
    | 0, _ => rfl
    | 1, _ => rfl
    | 2, _ => rfl
    | 3, _ => rfl
    | 4, _ => rfl
    | 5, _ => rfl
    | 6, _ => rfl
    | 7, _ => rfl
    | 8, _ => rfl
    | 9, _ => rfl
    | j + 10, h => omega
  · have e : S_0 70 j = 0 := by
      unfold S_0
      rw [if_neg (fun z => by cases z.1), if_neg (fun z => h z.2)]
    rw [e]
    show (upd (upd (upd (upd (upd (upd (upd (upd (upd (upd (fun _ => 0) 0 500) 1 500) 2 500) 3 500) 4 500) 5 500) 6 500) 7 500) 8 500) 9 500) j = nI 0
    unfold upd
    rw [if_neg (by omega), if_neg (by omega), if_neg (by omega), if_neg (by omega), if_neg (by omega), if_neg (by omega), if_neg (by omega), if_neg (by omega), if_neg (by omega), if_neg (by omega)]
    rfl
theorem iv_M : rc_M S_0 et_g0 := by
  refine ⟨fun k j e => ?_, rfl, rfl⟩
  show et_c0 k j = nI (S_0 k j)
  by_cases h7 : k = 70
  · subst h7; exact c0_70 j
  · unfold mp at e
    simp only [Bool.or_eq_true, Bool.and_eq_true, beq_iff_eq, Nat.ble_eq] at e
    by_cases h6 : k = 61
    · subst h6
      have hj : (j = 1 ∨ j = 2 ∨ j = 3 ∨ j = 4 ∨ j = 5 ∨ j = 6 ∨ j = 17) ∨ (j = 49 ∨ j = 50 ∨ j = 67 ∨ j = 68 ∨ j = 69 ∨ j = 70 ∨ j = 71 ∨ j = 72) := by omega
      rcases hj with (h | h | h | h | h | h | h) | (h | h | h | h | h | h | h | h) <;> subst h <;> decide +kernel
    · rw [s0_z h6 h7]
      have hk : (k = 62 ∨ k = 63 ∨ k = 64 ∨ k = 65 ∨ k = 66 ∨ k = 67 ∨ k = 68) ∨ (k = 69 ∨ k = 71 ∨ k = 72 ∨ k = 83 ∨ k = 84 ∨ k = 94 ∨ k = 95) := by omega
      rcases hk with (h | h | h | h | h | h | h) | (h | h | h | h | h | h | h) <;> subst h <;> rfl
theorem iv_0 : Iv S_0 et_g0 := by
  refine ⟨⟨⟨rfl, fun i _ => show (0 : Int32) = c8 0 by decide⟩, ⟨rfl, rfl, fun s h => absurd h (Nat.not_lt_zero _), fun e _ => ⟨rfl, Nat.zero_le _, fun i h => absurd h (Nat.not_lt_zero _)⟩, fun c h => absurd h (Nat.not_lt_zero _), ⟨rfl, Nat.zero_le _, fun i h => absurd h (Nat.not_lt_zero _)⟩⟩, ⟨rfl, rfl, rfl, rfl, fun i _ => rfl, fun i h => absurd h (Nat.not_lt_zero _), fun i h => absurd h (Nat.not_lt_zero _), fun i h => absurd h (Nat.not_lt_zero _), fun h => absurd h (Nat.not_lt_zero _)⟩, ⟨rfl, fun i h => absurd h (Nat.not_lt_zero _)⟩, ⟨rfl, fun h => absurd h (by decide)⟩, ⟨rfl, rfl⟩, ⟨rfl, fun i h => absurd h (Nat.not_lt_zero _)⟩, ⟨rfl, fun i h => absurd h (Nat.not_lt_zero _)⟩, ⟨rfl, rfl, rfl, rfl⟩⟩, ⟨Or.inl rfl, fun h => absurd (show nI 0 = nI 1 from h) (by decide)⟩, iv_M, ⟨⟨by decide, fun i _ => show (0 : Nat) < 256 by decide⟩, ⟨by decide, by decide, by decide, by decide, by decide, by decide, by decide, fun t h => absurd h (Nat.not_lt_zero _), fun t h => absurd h (Nat.not_lt_zero _), fun i _ => show (0 : Nat) < 1 by decide, fun i _ => show (0 : Nat) < 64 by decide, by decide⟩, ⟨by decide, fun i h => absurd h (Nat.not_lt_zero _)⟩, ⟨by decide, by decide, ⟨fun _ => rfl, fun _ => rfl⟩⟩, ⟨by decide, fun h => absurd h (by decide)⟩, ⟨by decide, fun i h => absurd h (Nat.not_lt_zero _)⟩, show (0 : Nat) ≤ 13 by decide⟩, ⟨⟨by decide, by decide, by decide, ⟨fun _ => rfl, fun _ => rfl⟩⟩, fun h => absurd h (by decide)⟩⟩
/-- the claim's last piece, but for village -/
theorem hp_v (hv : ∀ S g, Ij S g → ∀ p, okW 1 S g (fn_Et_village p g) (fn_Mo_village p)) : et_HP := fun L xs hL => by
  obtain ⟨a, g2, e, rfl⟩ := ll_e (xs := xs) hv hL 600 1000000 0 S_0 et_g0 (by omega) (by omega) ⟨iv_0, fun j _ => (show fits .byte (.int (0 : Int32)) = true by decide)⟩
  exact ⟨g2, e⟩
