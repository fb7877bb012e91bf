/-! village: the draft copied over; a fault -/
def cpF (g g' : et_G) : Prop := (g'.1 3 2 = g.1 16 2 ∧ g'.1 3 3 = g.1 16 3 ∧ g'.1 2 1 = g.1 15 1 ∧ g'.1 2 3 = g.1 15 3 ∧ g'.1 2 5 = g.1 15 5 ∧ g'.1 2 11 = g.1 15 11 ∧ g'.1 2 9 = g.1 15 9 ∧ g'.1 2 10 = g.1 15 10) ∧ (∀ i, i < 368 → g'.1 4 i = g.1 17 i) ∧ (∀ i, i < 46 → g'.1 5 i = g.1 18 i) ∧ (∀ i, i < 6 → g'.1 7 i = g.1 20 i) ∧ (∀ i, i < 144 → g'.1 8 i = g.1 21 i) ∧ (∀ i, i < 8 → g'.1 9 i = g.1 22 i ∧ g'.1 10 i = g.1 23 i ∧ g'.1 11 i = g.1 24 i) ∧ (∀ i, i < 6 → g'.1 12 i = g.1 25 i ∧ g'.1 13 i = g.1 26 i) ∧ (∀ i, i < 10 → g'.1 14 i = g.1 27 i)
def w_cp (k _j : Nat) : Bool := Nat.ble 2 k && Nat.ble k 14
section CP
theorem cp_0 {g : et_G} {k0 k1 N b : Nat} (hb : b < N) : (et_cp g k0 k1 0 0 N).1 k1 b = g.1 k0 b := by
  rw [cp_g, if_pos ⟨rfl, Nat.zero_le _, by omega⟩, Nat.sub_zero, Nat.zero_add]
theorem cpf {g : et_G} (J : Jb g) : ev_Q (fn_Tw_copyFrom_15 g) (fun _ g' => fq w_cp g g' ∧ cpF g g') := by
  unfold fn_Tw_copyFrom_15 fn_To_copyFrom_16
  have k1 : et_cf .byte g 17 (0 : Int32) (368 : Int32) = true := by
    unfold et_cf
    rw [show (0 : Int32).toNatClampNeg = 0 from rfl, show (368 : Int32).toNatClampNeg = 368 from rfl, List.all_eq_true]
    intro x hx
    have hx := List.mem_range.mp hx
    show fits .byte (.int (g.1 17 (0 + x))) = true
    rw [Nat.zero_add]
    exact J x hx
  rw [k1, show et_cc (0 : Int32) (0 : Int32) (368 : Int32) 368 368 = true from by decide, show (true && true) = true from rfl, ck_t, eb_eq, show et_cc (0 : Int32) (0 : Int32) (46 : Int32) 46 46 = true from by decide, ck_t, eb_eq, eb_eq, eb_eq, bd_s, eb_eq, eb_eq, eb_eq, eb_eq, eb_eq, eb_eq, show et_cc (0 : Int32) (0 : Int32) (6 : Int32) 6 6 = true from by decide, show et_cc (0 : Int32) (0 : Int32) (144 : Int32) 144 144 = true from by decide, show et_cc (0 : Int32) (0 : Int32) (8 : Int32) 8 8 = true from by decide, show et_cc (0 : Int32) (0 : Int32) (10 : Int32) 10 10 = true from by decide, show (0 : Int32).toNatClampNeg = 0 from rfl, show (368 : Int32).toNatClampNeg = 368 from rfl, show (46 : Int32).toNatClampNeg = 46 from rfl, show (6 : Int32).toNatClampNeg = 6 from rfl, show (144 : Int32).toNatClampNeg = 144 from rfl, show (8 : Int32).toNatClampNeg = 8 from rfl, show (10 : Int32).toNatClampNeg = 10 from rfl]
  have A : ∃ ga, ga = et_cp (et_cp g 17 4 0 0 368) 18 5 0 0 46 := ⟨_, rfl⟩
  obtain ⟨ga, ea⟩ := A
  rw [← ea]
  have a0 : fq w_cp g ga := by rw [ea]; exact fq_c (fq_c (fq_r _ _) (fun j _ _ => rfl)) (fun j _ _ => rfl)
  have a4 : ∀ i, i < 368 → ga.1 4 i = g.1 17 i := fun i hi => by rw [ea, cp_x (by decide), cp_0 hi]
  have a5 : ∀ i, i < 46 → ga.1 5 i = g.1 18 i := fun i hi => by rw [ea, cp_0 hi, cp_x (by decide)]
  have aq : ∀ k j, 15 ≤ k → ga.1 k j = g.1 k j := fun k j hk => by rw [ea, cp_x (by omega), cp_x (by omega)]
  clear ea k1
  obtain ⟨gb, eb⟩ : ∃ gb, gb = et_si (et_si (et_si (et_si (et_si (et_si (et_si (et_si ga 3 2 (ga.1 16 2)) 3 3 ((et_si ga 3 2 (ga.1 16 2)).1 16 3)) 2 1 ((et_si (et_si ga 3 2 (ga.1 16 2)) 3 3 ((et_si ga 3 2 (ga.1 16 2)).1 16 3)).1 15 1)) 2 3 (ga.1 15 3)) 2 5 (ga.1 15 5)) 2 11 (ga.1 15 11)) 2 9 (ga.1 15 9)) 2 10 (ga.1 15 10) := ⟨_, rfl⟩
  simp only [si_x (g := _) (k := 3) (a := 15) (by decide), si_x (g := _) (k := 2) (a := 15) (by decide), si_x (g := _) (k := 3) (a := 16) (by decide)] at eb ⊢
  rw [← eb]
  have b0 : fq w_cp ga gb := by rw [eb]; exact fq_s (fq_s (fq_s (fq_s (fq_s (fq_s (fq_s (fq_s (fq_r _ _) rfl) rfl) rfl) rfl) rfl) rfl) rfl) rfl
  have b1 : gb.1 3 2 = ga.1 16 2 := by rw [eb]; simp only [si_x (show (3 : Nat) ≠ 2 by decide)]; rw [si_j (by decide), si_e]
  have b2 : gb.1 3 3 = ga.1 16 3 := by rw [eb]; simp only [si_x (show (3 : Nat) ≠ 2 by decide)]; rw [si_e]
  have b3 : gb.1 2 1 = ga.1 15 1 := by rw [eb, si_j (by decide), si_j (by decide), si_j (by decide), si_j (by decide), si_j (by decide), si_e]
  have b4 : gb.1 2 3 = ga.1 15 3 := by rw [eb, si_j (by decide), si_j (by decide), si_j (by decide), si_j (by decide), si_e]
  have b5 : gb.1 2 5 = ga.1 15 5 := by rw [eb, si_j (by decide), si_j (by decide), si_j (by decide), si_e]
  have b6 : gb.1 2 11 = ga.1 15 11 := by rw [eb, si_j (by decide), si_j (by decide), si_e]
  have b7 : gb.1 2 9 = ga.1 15 9 := by rw [eb, si_j (by decide), si_e]
  have b8 : gb.1 2 10 = ga.1 15 10 := by rw [eb, si_e]
  have bq : ∀ k j, 4 ≤ k → gb.1 k j = ga.1 k j := fun k j hk => by
    rw [eb, si_x (by omega), si_x (by omega), si_x (by omega), si_x (by omega), si_x (by omega), si_x (by omega), si_x (by omega), si_x (by omega)]
  clear eb
  rw [ck_t, eb_eq, ck_t, eb_eq, ck_t, eb_eq, ck_t, eb_eq, ck_t, eb_eq, ck_t, eb_eq, ck_t, eb_eq, ck_t, eb_eq]
  refine ev_r ⟨fq_t a0 (fq_t b0 (fq_c (fq_c (fq_c (fq_c (fq_c (fq_c (fq_c (fq_c (fq_r _ _) (fun j _ _ => rfl)) (fun j _ _ => rfl)) (fun j _ _ => rfl)) (fun j _ _ => rfl)) (fun j _ _ => rfl)) (fun j _ _ => rfl)) (fun j _ _ => rfl)) (fun j _ _ => rfl))), ⟨?_, ?_, ?_, ?_, ?_, ?_, ?_, ?_⟩, fun i hi => ?_, fun i hi => ?_, fun i hi => ?_, fun i hi => ?_, fun i hi => ⟨?_, ?_, ?_⟩, fun i hi => ⟨?_, ?_⟩, fun i hi => ?_⟩
  · rw [cp_x (by decide), cp_x (by decide), cp_x (by decide), cp_x (by decide), cp_x (by decide), cp_x (by decide), cp_x (by decide), cp_x (by decide), b1, aq 16 2 (by decide)]
  · rw [cp_x (by decide), cp_x (by decide), cp_x (by decide), cp_x (by decide), cp_x (by decide), cp_x (by decide), cp_x (by decide), cp_x (by decide), b2, aq 16 3 (by decide)]
  · rw [cp_x (by decide), cp_x (by decide), cp_x (by decide), cp_x (by decide), cp_x (by decide), cp_x (by decide), cp_x (by decide), cp_x (by decide), b3, aq 15 1 (by decide)]
  · rw [cp_x (by decide), cp_x (by decide), cp_x (by decide), cp_x (by decide), cp_x (by decide), cp_x (by decide), cp_x (by decide), cp_x (by decide), b4, aq 15 3 (by decide)]
  · rw [cp_x (by decide), cp_x (by decide), cp_x (by decide), cp_x (by decide), cp_x (by decide), cp_x (by decide), cp_x (by decide), cp_x (by decide), b5, aq 15 5 (by decide)]
  · rw [cp_x (by decide), cp_x (by decide), cp_x (by decide), cp_x (by decide), cp_x (by decide), cp_x (by decide), cp_x (by decide), cp_x (by decide), b6, aq 15 11 (by decide)]
  · rw [cp_x (by decide), cp_x (by decide), cp_x (by decide), cp_x (by decide), cp_x (by decide), cp_x (by decide), cp_x (by decide), cp_x (by decide), b7, aq 15 9 (by decide)]
  · rw [cp_x (by decide), cp_x (by decide), cp_x (by decide), cp_x (by decide), cp_x (by decide), cp_x (by decide), cp_x (by decide), cp_x (by decide), b8, aq 15 10 (by decide)]
  · rw [cp_x (by decide), cp_x (by decide), cp_x (by decide), cp_x (by decide), cp_x (by decide), cp_x (by decide), cp_x (by decide), cp_x (by decide), bq 4 i (by decide), a4 i hi]
  · rw [cp_x (by decide), cp_x (by decide), cp_x (by decide), cp_x (by decide), cp_x (by decide), cp_x (by decide), cp_x (by decide), cp_x (by decide), bq 5 i (by decide), a5 i hi]
  · rw [cp_x (by decide), cp_x (by decide), cp_x (by decide), cp_x (by decide), cp_x (by decide), cp_x (by decide), cp_x (by decide), cp_0 hi, bq 20 i (by decide), aq 20 i (by decide)]
  · rw [cp_x (by decide), cp_x (by decide), cp_x (by decide), cp_x (by decide), cp_x (by decide), cp_x (by decide), cp_0 hi, cp_x (by decide), bq 21 i (by decide), aq 21 i (by decide)]
  · rw [cp_x (by decide), cp_x (by decide), cp_x (by decide), cp_x (by decide), cp_x (by decide), cp_0 hi, cp_x (by decide), cp_x (by decide), bq 22 i (by decide), aq 22 i (by decide)]
  · rw [cp_x (by decide), cp_x (by decide), cp_x (by decide), cp_x (by decide), cp_0 hi, cp_x (by decide), cp_x (by decide), cp_x (by decide), bq 23 i (by decide), aq 23 i (by decide)]
  · rw [cp_x (by decide), cp_x (by decide), cp_x (by decide), cp_0 hi, cp_x (by decide), cp_x (by decide), cp_x (by decide), cp_x (by decide), bq 24 i (by decide), aq 24 i (by decide)]
  · rw [cp_x (by decide), cp_x (by decide), cp_0 hi, cp_x (by decide), cp_x (by decide), cp_x (by decide), cp_x (by decide), cp_x (by decide), bq 25 i (by decide), aq 25 i (by decide)]
  · rw [cp_x (by decide), cp_0 hi, cp_x (by decide), cp_x (by decide), cp_x (by decide), cp_x (by decide), cp_x (by decide), cp_x (by decide), bq 26 i (by decide), aq 26 i (by decide)]
  · rw [cp_0 hi, cp_x (by decide), cp_x (by decide), cp_x (by decide), cp_x (by decide), cp_x (by decide), cp_x (by decide), cp_x (by decide), bq 27 i (by decide), aq 27 i (by decide)]
end CP
