/-! village: a village read; the end -/
def sG (S : et_T) (D : Nat → Nat) (h : et_G) : et_T := fun k j => if k = 61 then (if 1 ≤ j ∧ j ≤ 6 then D (27 + j) else if j = 17 ∨ j = 19 ∨ j = 50 ∨ j = 65 ∨ j = 67 ∨ j = 68 ∨ j = 69 then 0 else S 61 j) else if 62 ≤ k ∧ k ≤ 70 then (h.1 k j).toBitVec.toNat else S k j
def w_v (k j : Nat) : Bool := (k == 0 && (j == 1 || j == 11 || j == 14)) || (Nat.ble 2 k && Nat.ble k 28) || (k == 34 && j == 0) || (k == 46 && (j == 1 || j == 2)) || (k == 59 && j == 3) || (k == 48 && j == 15)
def v_v (k j : Nat) : Bool := (k == 61 && ((Nat.ble 1 j && Nat.ble j 6) || j == 17 || j == 19 || j == 50 || j == 65 || j == 67 || j == 68 || j == 69)) || (Nat.ble 62 k && Nat.ble k 70)
def w_w (k j : Nat) : Bool := (k == 61 && (Nat.ble j 6 || (Nat.ble 17 j && Nat.ble j 36) || j == 50 || j == 65 || j == 67 || j == 68 || j == 69)) || (Nat.ble 62 k && Nat.ble k 70) || (Nat.ble 73 k && Nat.ble k 81)
section GO
variable {S : et_T} {n : Nat} {g h : et_G} {D : Nat → Nat}
theorem tn_e {x : Int32} {m : Nat} (e : x = nI m) (hm : m < 2 ^ 32) : x.toBitVec.toNat = m := by rw [e, pk_tn hm]
theorem sG_r {k j : Nat} (h1 : 62 ≤ k) (h2 : k ≤ 70) : sG S D h k j = (h.1 k j).toBitVec.toNat := by
  unfold sG
  rw [if_neg (by omega), if_pos ⟨h1, h2⟩]
theorem sG_c {j : Nat} (h1 : 1 ≤ j) (h2 : j ≤ 6) : sG S D h 61 j = D (27 + j) := by
  unfold sG
  rw [if_pos rfl, if_pos ⟨h1, h2⟩]
theorem sG_z {j : Nat} (hj : j = 17 ∨ j = 19 ∨ j = 50 ∨ j = 65 ∨ j = 67 ∨ j = 68 ∨ j = 69) : sG S D h 61 j = 0 := by
  unfold sG
  rw [if_pos rfl, if_neg (by omega), if_pos hj]
theorem sG_ag : ag v_v S (sG S D h) := fun k j e => by
  unfold v_v at e
  have e := Bool.or_eq_false_iff.mp e
  unfold sG
  by_cases z : k = 61
  · subst z
    have e1 := e.1
    simp only [beq_self_eq_true, Bool.true_and, Bool.or_eq_false_iff, beq_eq_false_iff_ne] at e1
    rw [if_pos rfl, if_neg (fun y => by have := e1.1.1.1.1.1.1.1; rw [Nat.ble_eq.mpr y.1, Nat.ble_eq.mpr y.2] at this; cases this), if_neg (by omega)]
  · rw [if_neg z, if_neg (fun y => by have := e.2; rw [Nat.ble_eq.mpr y.1, Nat.ble_eq.mpr y.2] at this; cases this)]
theorem slR_of {L L' len len' A A' : Nat → Int32} {s o m N : Nat} (j : slJ L len A s o m) (hL : ∀ i, i < 368 → L' i = L i) (hl : ∀ i, i < 46 → len' i = len i) (hA : ∀ i, i < N → A' i = A i) (ho : o + 9 ≤ N) (hs : s < 46) : sl_R L' len' s (fun j => (A' j).toBitVec.toNat) o := by
  obtain ⟨a1, a2, a3, a4⟩ := j
  have e : (A' o).toBitVec.toNat = m := tn_e ((hA o (by omega)).trans a2) (by omega)
  refine ⟨?_, ?_, fun i hi => ?_⟩
  · show len' s = nI (A' o).toBitVec.toNat
    rw [e, hl s hs]; exact a1
  · show (A' o).toBitVec.toNat ≤ 8
    rw [e]; exact a3
  · have hi : i < (A' o).toBitVec.toNat := hi
    rw [e] at hi
    obtain ⟨c, c1, c2, c3, c4⟩ := a4 i hi
    have e2 : (A' (o + 1 + i)).toBitVec.toNat = c := tn_e ((hA _ (by omega)).trans c4) (by omega)
    show L' (8 * s + i) = nI (A' (o + 1 + i)).toBitVec.toNat ∧ 97 ≤ (A' (o + 1 + i)).toBitVec.toNat ∧ (A' (o + 1 + i)).toBitVec.toNat ≤ 122
    rw [e2, hL _ (by omega)]
    exact ⟨c3, c1, c2⟩
/-- the model's last rows -/
def mlF (D : Nat → Nat) (h h' : et_G) : Prop := (∀ j, 1 ≤ j → j ≤ 6 → h'.1 61 j = nI (D (27 + j))) ∧ (∀ i, i < 108 → h'.1 62 i = h.1 73 i) ∧ (∀ i, i < 135 → h'.1 63 i = h.1 74 i) ∧ (∀ i, i < 162 → h'.1 64 i = h.1 75 i) ∧ (∀ i, i < 9 → h'.1 65 i = h.1 76 i) ∧ (∀ i, i < 40 → h'.1 66 i = h.1 77 i) ∧ (∀ i, i < 30 → h'.1 67 i = h.1 78 i) ∧ (∀ i, i < 6 → h'.1 68 i = h.1 79 i) ∧ (∀ i, i < 10 → h'.1 70 i = h.1 81 i) ∧ (∀ p, p < 6 → ∀ j, j < 24 → h'.1 69 (24 * p + j) = pl (h.1 80) p (j + 1)) ∧ h'.1 61 50 = nI 0 ∧ h'.1 61 67 = nI 0 ∧ h'.1 61 68 = nI 0 ∧ h'.1 61 65 = -1 ∧ h'.1 61 69 = nI 0
def w_lr (k j : Nat) : Bool := (k == 61 && (Nat.ble 1 j && Nat.ble j 6 || j == 50 || j == 65 || j == 67 || j == 68 || j == 69)) || (Nat.ble 62 k && Nat.ble k 70)
theorem ml_e {a : Nat} {g1 h0 : et_G} (u : uM S n a h0 h) (A : vA D g1 h) : ∃ h', fn_Mo_village_86 h = some (0, h') ∧ fq w_lr h h' ∧ mlF D h h' := by
  obtain ⟨m28, m29, m30, m31, m32, m33, m34, m35, m36⟩ := vA_m A
  obtain ⟨ha, ea⟩ : ∃ ha, ha = et_si (et_si (et_si (et_si (et_si (et_si h 61 1 (nI (D 28))) 61 2 (nI (D 29))) 61 3 (nI (D 30))) 61 4 (nI (D 31))) 61 5 (nI (D 32))) 61 6 (nI (D 33)) := ⟨_, rfl⟩
  have a0 : fq w_lr h ha := by rw [ea]; exact fq_s (fq_s (fq_s (fq_s (fq_s (fq_s (fq_r _ _) rfl) rfl) rfl) rfl) rfl) rfl
  have a1 : ∀ j, 1 ≤ j → j ≤ 6 → ha.1 61 j = nI (D (27 + j)) := fun j h1 h2 => by
    rw [ea]
    match j, h1, h2 with
    | 1, _, _ => rw [si_j (by decide), si_j (by decide), si_j (by decide), si_j (by decide), si_j (by decide), si_e]
    | 2, _, _ => rw [si_j (by decide), si_j (by decide), si_j (by decide), si_j (by decide), si_e]
    | 3, _, _ => rw [si_j (by decide), si_j (by decide), si_j (by decide), si_e]
    | 4, _, _ => rw [si_j (by decide), si_j (by decide), si_e]
    | 5, _, _ => rw [si_j (by decide), si_e]
    | 6, _, _ => rw [si_e]
  have aq : ∀ k j, k ≠ 61 → ha.1 k j = h.1 k j := fun k j hk => by rw [ea, si_x hk, si_x hk, si_x hk, si_x hk, si_x hk, si_x hk]
  obtain ⟨x1, h1, E1, f1, v1⟩ := cy_73 ha
  obtain ⟨x2, h2, E2, f2, v2⟩ := cy_74 h1
  obtain ⟨x3, h3, E3, f3, v3⟩ := cy_75 h2
  obtain ⟨x4, h4, E4, f4, v4⟩ := cy_76 h3
  obtain ⟨x5, h5, E5, f5, v5⟩ := cy_77 h4
  obtain ⟨x6, h6, E6, f6, v6⟩ := cy_78 h5
  obtain ⟨x7, h7, E7, f7, v7⟩ := cy_79 h6
  obtain ⟨x8, h8, E8, f8, v8⟩ := cy_81 h7
  have q8 : ∀ k j, (Nat.ble 62 k && Nat.ble k 70) = false → h8.1 k j = ha.1 k j := fun k j hk => by
    have ne : ∀ c, 62 ≤ c → c ≤ 70 → (k == c) = false := fun c c1 c2 => beq_eq_false_iff_ne.mpr (fun z => by rw [z, Nat.ble_eq.mpr c1, Nat.ble_eq.mpr c2] at hk; cases hk)
    rw [f8.1 k j (ne 70 (by decide) (by decide)), f7.1 k j (ne 68 (by decide) (by decide)), f6.1 k j (ne 67 (by decide) (by decide)), f5.1 k j (ne 66 (by decide) (by decide)), f4.1 k j (ne 65 (by decide) (by decide)), f3.1 k j (ne 64 (by decide) (by decide)), f2.1 k j (ne 63 (by decide) (by decide)), f1.1 k j (ne 62 (by decide) (by decide))]
  obtain ⟨h9, E9, f9, v9, -⟩ := vm_254 (A := h.1 80) 6 1000000 0 h8 rfl (by omega) (funext fun j => by rw [q8 80 j rfl, aq 80 j (by decide)])
  have up : ∀ c (p q : et_G), 62 ≤ c → c ≤ 70 → fq (fun k _ => k == c) p q → fq w_lr p q := fun c p q c1 c2 f => fq_w f (fun k j e => by
    cases z : (k == c) with
    | false => rfl
    | true =>
      have z := beq_iff_eq.mp z
      unfold w_lr at e
      have e := (Bool.or_eq_false_iff.mp e).2
      rw [z, Nat.ble_eq.mpr c1, Nat.ble_eq.mpr c2] at e; cases e)
  have F9 : fq w_lr h h9 := fq_t a0 (fq_t (up 62 _ _ (by decide) (by decide) f1) (fq_t (up 63 _ _ (by decide) (by decide) f2) (fq_t (up 64 _ _ (by decide) (by decide) f3) (fq_t (up 65 _ _ (by decide) (by decide) f4) (fq_t (up 66 _ _ (by decide) (by decide) f5) (fq_t (up 67 _ _ (by decide) (by decide) f6) (fq_t (up 68 _ _ (by decide) (by decide) f7) (fq_t (up 70 _ _ (by decide) (by decide) f8) (up 69 _ _ (by decide) (by decide) f9)))))))))
  have r61 : ∀ j, h9.1 61 j = ha.1 61 j := fun j => by rw [f9.1 61 j rfl, q8 61 j rfl]
  refine ⟨et_si (et_si (et_si (et_si (et_si h9 61 50 0) 61 67 0) 61 68 0) 61 65 (-1)) 61 69 0, ?_, fq_s (fq_s (fq_s (fq_s (fq_s F9 rfl) rfl) rfl) rfl) rfl, fun j j1 j2 => ?_, fun i hi => ?_, fun i hi => ?_, fun i hi => ?_, fun i hi => ?_, fun i hi => ?_, fun i hi => ?_, fun i hi => ?_, fun i hi => ?_, fun p hp j hj => ?_, ?_, ?_, ?_, ?_, ?_⟩
  · unfold fn_Mo_village_86
    rw [gd_1 u, bd_s, if_neg (by decide), m28, eb_eq, si_j (by decide), m29, eb_eq, si_j (by decide), si_j (by decide), m30, eb_eq, si_j (by decide), si_j (by decide), si_j (by decide), m31, eb_eq, si_j (by decide), si_j (by decide), si_j (by decide), si_j (by decide), m32, eb_eq, si_j (by decide), si_j (by decide), si_j (by decide), si_j (by decide), si_j (by decide), m33, eb_eq, ← ea, E1, bd_s, E2, bd_s, E3, bd_s, E4, bd_s, E5, bd_s, E6, bd_s, E7, bd_s, E8, bd_s, show fn_Mo_village_254 1000000 0 h8 = _ from E9]
    unfold fn_Mo_village_330
    rw [eb_eq, eb_eq, eb_eq, eb_eq, eb_eq]
  · rw [si_j (by omega), si_j (by omega), si_j (by omega), si_j (by omega), si_j (by omega), r61]; exact a1 j j1 j2
  · rw [si_x (by decide), si_x (by decide), si_x (by decide), si_x (by decide), si_x (by decide), f9.1 62 i rfl, f8.1 62 i rfl, f7.1 62 i rfl, f6.1 62 i rfl, f5.1 62 i rfl, f4.1 62 i rfl, f3.1 62 i rfl, f2.1 62 i rfl, v1 i hi, aq 73 i (by decide)]
  · rw [si_x (by decide), si_x (by decide), si_x (by decide), si_x (by decide), si_x (by decide), f9.1 63 i rfl, f8.1 63 i rfl, f7.1 63 i rfl, f6.1 63 i rfl, f5.1 63 i rfl, f4.1 63 i rfl, f3.1 63 i rfl, v2 i hi, f1.1 74 i rfl, aq 74 i (by decide)]
  · rw [si_x (by decide), si_x (by decide), si_x (by decide), si_x (by decide), si_x (by decide), f9.1 64 i rfl, f8.1 64 i rfl, f7.1 64 i rfl, f6.1 64 i rfl, f5.1 64 i rfl, f4.1 64 i rfl, v3 i hi, f2.1 75 i rfl, f1.1 75 i rfl, aq 75 i (by decide)]
  · rw [si_x (by decide), si_x (by decide), si_x (by decide), si_x (by decide), si_x (by decide), f9.1 65 i rfl, f8.1 65 i rfl, f7.1 65 i rfl, f6.1 65 i rfl, f5.1 65 i rfl, v4 i hi, f3.1 76 i rfl, f2.1 76 i rfl, f1.1 76 i rfl, aq 76 i (by decide)]
  · rw [si_x (by decide), si_x (by decide), si_x (by decide), si_x (by decide), si_x (by decide), f9.1 66 i rfl, f8.1 66 i rfl, f7.1 66 i rfl, f6.1 66 i rfl, v5 i hi, f4.1 77 i rfl, f3.1 77 i rfl, f2.1 77 i rfl, f1.1 77 i rfl, aq 77 i (by decide)]
  · rw [si_x (by decide), si_x (by decide), si_x (by decide), si_x (by decide), si_x (by decide), f9.1 67 i rfl, f8.1 67 i rfl, f7.1 67 i rfl, v6 i hi, f5.1 78 i rfl, f4.1 78 i rfl, f3.1 78 i rfl, f2.1 78 i rfl, f1.1 78 i rfl, aq 78 i (by decide)]
  · rw [si_x (by decide), si_x (by decide), si_x (by decide), si_x (by decide), si_x (by decide), f9.1 68 i rfl, f8.1 68 i rfl, v7 i hi, f6.1 79 i rfl, f5.1 79 i rfl, f4.1 79 i rfl, f3.1 79 i rfl, f2.1 79 i rfl, f1.1 79 i rfl, aq 79 i (by decide)]
  · rw [si_x (by decide), si_x (by decide), si_x (by decide), si_x (by decide), si_x (by decide), f9.1 70 i rfl, v8 i hi, f7.1 81 i rfl, f6.1 81 i rfl, f5.1 81 i rfl, f4.1 81 i rfl, f3.1 81 i rfl, f2.1 81 i rfl, f1.1 81 i rfl, aq 81 i (by decide)]
  · rw [si_x (by decide), si_x (by decide), si_x (by decide), si_x (by decide), si_x (by decide)]
    exact v9 p (Nat.zero_le _) hp j hj
  · rw [si_j (by decide), si_j (by decide), si_j (by decide), si_j (by decide), si_e]; rfl
  · rw [si_j (by decide), si_j (by decide), si_j (by decide), si_e]; rfl
  · rw [si_j (by decide), si_j (by decide), si_e]; rfl
  · rw [si_j (by decide), si_e]
  · rw [si_e]; rfl
end GO
