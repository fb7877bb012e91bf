/-! THE START: the world out of the law's entry, its constructors, and the law's own walk -/
section KA
variable {X : et_X} {w : et_W} {cl sl pc nL n : Nat} {Q : State → Prop} {b : ByteArray} {own : String} {ret : Option FieldType} {tb : List ExceptionTableEntry} {rm : Room} {lv r : List (Option Value)} {st : List Value} {c : et_P}
theorem kz_astore1 {a0 z : Option Value} {x : Nat} (hX : et_Gd X w b own nL ret tb rm) (hd : decode b pc = .ok (.astore_n 1, 1)) (hn : Nat.ble 2 nL = true) (hc : et_c1 a0 = true) (kk : et_KV X w cl sl Q (pc + 1) (a0 :: some (.ref x) :: r) st c n) : et_KV X w cl sl Q pc (a0 :: z :: r) (.ref x :: st) c n := by
  obtain ⟨p, l, e, R, s, m, args, below, meth, cd⟩ := X
  intro hrow hfr H locs ls hz hP hS hl
  refine lv_astore_n hX.1 hX.2.1 hd rfl hl (by rw [hX.2.2.1]; exact Nat.le_of_ble_eq_true hn) rfl (fun ls2 h2 => kk hrow hfr H locs ls2 hz hP hS (et_st1 h2 fun j v2 hj => ?_))
  match j with
    | 0 => exact Or.inr ⟨by decide, hj, fun h => by exact et_c1_cat hc (Option.some.inj hj)⟩
    | 1 => exact Or.inl ⟨rfl, (Option.some.inj (Option.some.inj hj)).symm⟩
    | j + 2 => exact Or.inr ⟨by omega, hj, fun h => by omega⟩
theorem kz_astore2 {a0 a1 z : Option Value} {x : Nat} (hX : et_Gd X w b own nL ret tb rm) (hd : decode b pc = .ok (.astore_n 2, 1)) (hn : Nat.ble 3 nL = true) (hc : et_c1 a1 = true) (kk : et_KV X w cl sl Q (pc + 1) (a0 :: a1 :: some (.ref x) :: r) st c n) : et_KV X w cl sl Q pc (a0 :: a1 :: z :: r) (.ref x :: st) c n := by
  obtain ⟨p, l, e, R, s, m, args, below, meth, cd⟩ := X
  intro hrow hfr H locs ls hz hP hS hl
  refine lv_astore_n hX.1 hX.2.1 hd rfl hl (by rw [hX.2.2.1]; exact Nat.le_of_ble_eq_true hn) rfl (fun ls2 h2 => kk hrow hfr H locs ls2 hz hP hS (et_st1 h2 fun j v2 hj => ?_))
  match j with
    | 0 => exact Or.inr ⟨by decide, hj, fun h => by omega⟩
    | 1 => exact Or.inr ⟨by decide, hj, fun h => by exact et_c1_cat hc (Option.some.inj hj)⟩
    | 2 => exact Or.inl ⟨rfl, (Option.some.inj (Option.some.inj hj)).symm⟩
    | j + 3 => exact Or.inr ⟨by omega, hj, fun h => by omega⟩
theorem kz_astore3 {a0 a1 a2 z : Option Value} {x : Nat} (hX : et_Gd X w b own nL ret tb rm) (hd : decode b pc = .ok (.astore_n 3, 1)) (hn : Nat.ble 4 nL = true) (hc : et_c1 a2 = true) (kk : et_KV X w cl sl Q (pc + 1) (a0 :: a1 :: a2 :: some (.ref x) :: r) st c n) : et_KV X w cl sl Q pc (a0 :: a1 :: a2 :: z :: r) (.ref x :: st) c n := by
  obtain ⟨p, l, e, R, s, m, args, below, meth, cd⟩ := X
  intro hrow hfr H locs ls hz hP hS hl
  refine lv_astore_n hX.1 hX.2.1 hd rfl hl (by rw [hX.2.2.1]; exact Nat.le_of_ble_eq_true hn) rfl (fun ls2 h2 => kk hrow hfr H locs ls2 hz hP hS (et_st1 h2 fun j v2 hj => ?_))
  match j with
    | 0 => exact Or.inr ⟨by decide, hj, fun h => by omega⟩
    | 1 => exact Or.inr ⟨by decide, hj, fun h => by omega⟩
    | 2 => exact Or.inr ⟨by decide, hj, fun h => by exact et_c1_cat hc (Option.some.inj hj)⟩
    | 3 => exact Or.inl ⟨rfl, (Option.some.inj (Option.some.inj hj)).symm⟩
    | j + 4 => exact Or.inr ⟨by omega, hj, fun h => by omega⟩
theorem kz_main {u : Nat} {g0 : et_G} (heq : et_pw w c n = et_ws w g0) (h1 : Nat.ble cl u = true) (h2 : Nat.ble sl (6 * u) = true) (kk : et_V X w u Q pc lv st g0) : et_KV X w cl sl Q pc lv st c n := by
  obtain ⟨p, l, e, R, s, m, args, below, meth, cd⟩ := X
  intro hrow hfr H locs ls hz hP hS hl
  rw [heq] at hP
  exact W.widen (Nat.le_of_ble_eq_true h1) (Nat.le_of_ble_eq_true h2) (kk H locs ls hP hS hl)
end KA
/-- the picture behind the constructors -/
def et_c0 : et_P := kd_Mo_61 (kd_Et_0 (fun _ _ => 0))
def et_g0 : et_G := (et_c0, fun _ _ => 0)
theorem et_c0_flags : (List.range 97).all (fun k => match et_lay[k]? with | some (.inr (_, ks)) => ks.zipIdx.all (fun q => decide (q.1 < 2) || decide (et_c0 k (500 + q.2) = 1)) | _ => true) = true := by decide +kernel
theorem et_c0_ws (w : et_W) : et_pw w et_c0 97 = et_ws w et_g0 := by
  have ht : et_lay.take 97 = et_lay := List.take_of_length_le (by rw [ly_len]; decide)
  unfold et_pw et_ws
  rw [ht]
  apply List.ext_getElem?
  intro k
  rw [List.getElem?_mapIdx, List.getElem?_mapIdx]
  cases hk : et_lay[k]? with
  | none => rfl
  | some sh =>
    have hkl : k < 97 := by
      have := (List.getElem?_eq_some_iff.mp hk).1
      rwa [ly_len] at this
    have hf := List.all_eq_true.mp et_c0_flags k (List.mem_range.mpr hkl)
    rw [hk] at hf
    simp only [Option.map_some]
    congr 2
    cases sh with
    | inl a =>
      obtain ⟨t, n⟩ := a
      cases t <;> rfl
    | inr a =>
      obtain ⟨ci, ks⟩ := a
      show (Sum.inr (ci, ks.mapIdx (fun j q => et_pf w et_c0 k q j)) : va_E) = Sum.inr (ci, ks.mapIdx (fun j q => et_fv w et_g0 k q j))
      congr 2
      apply List.ext_getElem?
      intro j
      rw [List.getElem?_mapIdx, List.getElem?_mapIdx]
      cases hj : ks[j]? with
      | none => rfl
      | some q => match q with
        | 0 => rfl
        | 1 => rfl
        | r + 2 =>
          have h1 := List.all_eq_true.mp hf (r + 2, j) (List.mem_zipIdx_iff_getElem?.mpr hj)
          have h2 : et_c0 k (500 + j) = 1 := (by simpa using h1 : r + 2 < 2 ∨ et_c0 k (500 + j) = 1).elim (fun h => absurd h (by omega)) id
          simp [et_pf, et_fv, h2]
def et_tm (i : Nat) : Term := Term.string "EndingTown$Reader" (et_six.getD i 0)
def et_nw : List Cond := flatC (Jvm.Cond.and given_1 narrow_1)
theorem sn_1 : ∀ i, i < 13 → et_sln.getD i 0 < 2 ^ 31 := by decide +kernel
theorem sn_2 : ∀ i, i < 13 → Cond.exactly (et_tm i) "java/lang/String" ∈ et_nw := by decide +kernel
theorem sn_3 : ∀ i, i < 13 → Cond.eq (.field (et_tm i) "java/lang/String" "coder" "B") (.int 0) ∈ et_nw := by decide +kernel
theorem sn_4 : ∀ i, i < 13 → Cond.arrayOf (.field (et_tm i) "java/lang/String" "value" "[B") .byte ∈ et_nw := by decide +kernel
theorem sn_5 : ∀ i, i < 13 → Cond.eq (.length (.field (et_tm i) "java/lang/String" "value" "[B")) (.int (Int32.ofNat (et_sln.getD i 0))) ∈ et_nw := by decide +kernel
theorem sn_6 : ∀ i, i < 13 → ∀ j, j < et_sln.getD i 0 → Cond.eq (.elem (.field (et_tm i) "java/lang/String" "value" "[B") (.int (Int32.ofNat j))) (.int ((et_sby.getD i []).getD j 0)) ∈ et_nw := by decide +kernel
def et_np (c : Cond) : List (Nat × Nat) := match c with
  | .not (.eq (.string C a) (.string D b)) => if C = "EndingTown$Reader" ∧ D = "EndingTown$Reader" then [(a, b)] else []
  | _ => []
theorem et_np_mem {c : Cond} {a b : Nat} (h : (a, b) ∈ et_np c) : c = Cond.not (Cond.eq (.string "EndingTown$Reader" a) (.string "EndingTown$Reader" b)) := by
  unfold et_np at h
  split at h
  · rename_i C a2 D b2
    split at h
    · rename_i hc
      simp only [List.mem_singleton, Prod.mk.injEq] at h
      rw [hc.1, hc.2, h.1, h.2]
    · cases h
  · cases h
def et_prs : List (Nat × Nat) := [(90, 104), (90, 109), (104, 109), (90, 114), (104, 114), (109, 114), (90, 119), (104, 119), (109, 119), (114, 119), (90, 124), (104, 124), (109, 124), (114, 124), (119, 124), (90, 129), (104, 129), (109, 129), (114, 129), (119, 129), (124, 129), (90, 134), (104, 134), (109, 134), (114, 134), (119, 134), (124, 134), (129, 134), (90, 230), (104, 230), (109, 230), (114, 230), (119, 230), (124, 230), (129, 230), (134, 230), (90, 234), (104, 234), (109, 234), (114, 234), (119, 234), (124, 234), (129, 234), (134, 234), (230, 234), (90, 139), (104, 139), (109, 139), (114, 139), (119, 139), (124, 139), (129, 139), (134, 139), (230, 139), (234, 139), (90, 144), (104, 144), (109, 144), (114, 144), (119, 144), (124, 144), (129, 144), (134, 144), (230, 144), (234, 144), (139, 144), (90, 148), (104, 148), (109, 148), (114, 148), (119, 148), (124, 148), (129, 148), (134, 148), (230, 148), (234, 148), (139, 148), (144, 148)]
theorem sn_7a : et_nw.flatMap et_np = et_prs := by decide +kernel
theorem sn_7b : ∀ i, i < 13 → ∀ j, j < 13 → i ≠ j → (et_six.getD i 0, et_six.getD j 0) ∈ et_prs ∨ (et_six.getD j 0, et_six.getD i 0) ∈ et_prs := by
  have h : (List.range 13).all (fun i => (List.range 13).all (fun j => i == j || et_prs.contains (et_six.getD i 0, et_six.getD j 0) || et_prs.contains (et_six.getD j 0, et_six.getD i 0))) = true := by decide +kernel
  intro i hi j hj hij
  have h2 := List.all_eq_true.mp (List.all_eq_true.mp h i (List.mem_range.mpr hi)) j (List.mem_range.mpr hj)
  simp only [Bool.or_eq_true, beq_iff_eq, List.contains_iff_mem] at h2
  rcases h2 with (h2 | h2) | h2
  · exact absurd h2 hij
  · exact Or.inl h2
  · exact Or.inr h2
theorem sn_7c {a b : Nat} (h : (a, b) ∈ et_prs) : Cond.not (Cond.eq (.string "EndingTown$Reader" a) (.string "EndingTown$Reader" b)) ∈ et_nw := by
  rw [← sn_7a] at h
  obtain ⟨c, hc, h2⟩ := List.mem_flatMap.mp h
  rw [← et_np_mem h2]
  exact hc
theorem sn_7 : ∀ i, i < 13 → ∀ j, j < 13 → i ≠ j → Cond.not (Cond.eq (et_tm i) (et_tm j)) ∈ et_nw ∨ Cond.not (Cond.eq (et_tm j) (et_tm i)) ∈ et_nw := fun i hi j hj h => (sn_7b i hi j hj h).imp sn_7c sn_7c
theorem sn_8 : ∀ i, i < 13 → Cond.stringRef "EndingTown$Reader" (et_six.getD i 0) (et_txt.getD i "") ∈ lw_tbl := by decide +kernel
theorem sn_9 : Cond.laysStatic "java/lang/String" "COMPACT_STRINGS" "Z" ∈ lw_tbl ∧ Cond.initialized "java/lang/String" ∈ lw_tbl ∧ Cond.eq (.static "java/lang/String" "COMPACT_STRINGS" "Z") (.int 1) ∈ et_nw := by decide +kernel
theorem sn_10 : Cond.laysStatic "jdk/internal/util/Preconditions" "SIOOBE_FORMATTER" "Ljava/util/function/BiFunction;" ∈ lw_tbl ∧ Cond.initialized "jdk/internal/util/Preconditions" ∈ lw_tbl ∧ Cond.isRef (.static "jdk/internal/util/Preconditions" "SIOOBE_FORMATTER" "Ljava/util/function/BiFunction;") ∈ et_nw := by decide +kernel
theorem sn_11 : Cond.not (.castable "java/lang/IllegalArgumentException" "java/util/NoSuchElementException") ∈ et_nw := by decide +kernel
theorem sn_12 : Cond.laysStatic Bundle.tN "UNASSIGNED_STACK" Bundle.steD ∈ lw_tbl ∧ Cond.laysStatic Bundle.tN "SUPPRESSED_SENTINEL" Bundle.listD ∈ lw_tbl ∧ Cond.initialized Bundle.tN ∈ lw_tbl ∧ Cond.isRef (.static Bundle.tN "UNASSIGNED_STACK" Bundle.steD) ∈ et_nw ∧ Cond.isRef (.static Bundle.tN "SUPPRESSED_SENTINEL" Bundle.listD) ∈ et_nw := by decide +kernel
theorem et_arr {s : State} {args : Array Value} {ty : FieldType} (h : (Cond.arrayClass ty).before args s = true) (hp : ∀ C, ty ≠ .object C) : ∃ cA : ClassId, ArrOfT s cA ty ∧ va_RA s cA ty := by
  obtain ⟨c, k, comp, h1, h2, h3⟩ := Cond.arrayClass_spec h
  refine ⟨c, fun n z => ⟨fun k h => (by cases h), k, h2, comp, h3⟩, ?_⟩
  cases ty with
  | object C => exact absurd rfl (hp C)
  | _ => exact h1
theorem tm_136 : Cond.classLink RL 8 RX9 ∈ et_tb := et_mt 136 (by decide +kernel) rfl
theorem ti_9 : Cond.instantiable RX9 18 ∈ et_tb ∧ Cond.initialized RX9 ∈ et_tb := ⟨et_mt 137 (by decide +kernel) rfl, et_mt 112 (by decide +kernel) rfl⟩
theorem df_9_0 : ∀ j, j < 18 → defaultValue (tyX9 j) = vp_V (([3, 0, 4, 17, 30, 31, 33, 36, 42, 48, 49, 0, 50, 61, 0, 0, 0, 0] : List Nat).map (fun q => match q with | 0 => Value.int 0 | 1 => Value.long 0 | _ => Value.null)) j := by decide +kernel
theorem tm_1342 : Cond.classLink RL 76 RX10 ∈ et_tb := et_mt 1342 (by decide +kernel) rfl
theorem ti_10 : Cond.instantiable RX10 74 ∈ et_tb ∧ Cond.initialized RX10 ∈ et_tb := ⟨et_mt 1343 (by decide +kernel) rfl, et_mt 122 (by decide +kernel) rfl⟩
theorem df_10_61 : ∀ j, j < 74 → defaultValue (tyX10 j) = vp_V (([0, 0, 0, 0, 0, 0, 0, 64, 65, 66, 67, 68, 69, 70, 71, 72, 73, 0, 0, 0, 74, 0, 0, 0, 0, 0, 0, 1, 0, 0, 0, 0, 0, 0, 0, 0, 0, 75, 76, 77, 78, 79, 80, 81, 82, 83, 84, 85, 0, 0, 0, 86, 87, 88, 89, 90, 91, 92, 93, 0, 0, 0, 0, 94, 95, 0, 96, 0, 0, 0, 0, 0, 0, 97] : List Nat).map (fun q => match q with | 0 => Value.int 0 | 1 => Value.long 0 | _ => Value.null)) j := by decide +kernel
theorem et_start {s : State} {b : Nat} (hts : ∀ q ∈ lw_tbl, q.before #[Value.ref b] s = true) (hgv : (Jvm.Cond.and given_1 narrow_1).before #[Value.ref b] s = true) (hbl : b < s.heap.size) : ∃ w : et_W, w.1 = s ∧ et_Sane w ∧ et_Row w ∧ et_ad w 3000 = b := by
  have hs := flat_of_before _ hgv
  have ft : ∀ {q : Cond}, q ∈ et_tb → q.before #[Value.ref b] s = true := fun h => hts _ (List.mem_filter.mp h).1
  obtain ⟨c0, iS0, hKn0⟩ := u_known (C := RX0) (T := TX0) (N := 17) (n := 17) hts (fun q h => (List.mem_filter.mp (iw_0 q h)).1) (ft ti_0.1)
  obtain ⟨c1, iS1, hKn1⟩ := u_known (C := RX1) (T := TX1) (N := 6) (n := 6) hts (fun q h => (List.mem_filter.mp (iw_1 q h)).1) (ft ti_1.1)
  obtain ⟨c2, iS2, hKn2⟩ := u_known (C := RX2) (T := TX2) (N := 4) (n := 4) hts (fun q h => (List.mem_filter.mp (iw_2 q h)).1) (ft ti_2.1)
  obtain ⟨c3, iS3, hKn3⟩ := u_known (C := RX3) (T := TX3) (N := 3) (n := 3) hts (fun q h => (List.mem_filter.mp (iw_3 q h)).1) (ft ti_3.1)
  obtain ⟨c4, iS4, hKn4⟩ := u_known (C := RX4) (T := TX4) (N := 11) (n := 11) hts (fun q h => (List.mem_filter.mp (iw_4 q h)).1) (ft ti_4.1)
  obtain ⟨c5, iS5, hKn5⟩ := u_known (C := RX5) (T := TX5) (N := 6) (n := 6) hts (fun q h => (List.mem_filter.mp (iw_5 q h)).1) (ft ti_5.1)
  obtain ⟨c6, iS6, hKn6⟩ := u_known (C := RX6) (T := TX6) (N := 15) (n := 15) hts (fun q h => (List.mem_filter.mp (iw_6 q h)).1) (ft ti_6.1)
  obtain ⟨c7, iS7, hKn7⟩ := u_known (C := RX7) (T := TX7) (N := 7) (n := 7) hts (fun q h => (List.mem_filter.mp (iw_7 q h)).1) (ft ti_7.1)
  obtain ⟨c8, iS8, hKn8⟩ := u_known (C := RX8) (T := TX8) (N := 2) (n := 2) hts (fun q h => (List.mem_filter.mp (iw_8 q h)).1) (ft ti_8.1)
  obtain ⟨c9, iS9, hKn9⟩ := u_known (C := RX9) (T := TX9) (N := 18) (n := 18) hts (fun q h => (List.mem_filter.mp (iw_9 q h)).1) (ft ti_9.1)
  obtain ⟨c10, iS10, hKn10⟩ := u_known (C := RX10) (T := TX10) (N := 74) (n := 74) hts (fun q h => (List.mem_filter.mp (iw_10 q h)).1) (ft ti_10.1)
  obtain ⟨aI, haI⟩ := et_arr (ft ta_int) (fun C h => by cases h)
  obtain ⟨aB, haB⟩ := et_arr (ft ta_byte) (fun C h => by cases h)
  obtain ⟨aZ, haZ⟩ := et_arr (ft ta_boolean) (fun C h => by cases h)
  obtain ⟨aJ, haJ⟩ := et_arr (ft ta_long) (fun C h => by cases h)
  have hA0 : ∀ a : Nat, a < s.heap.size → ¬ (fun q : Nat => s.heap.size ≤ q) a := fun a h h2 => Nat.not_lt.mpr h2 h
  obtain ⟨adK, adV, hSt, hev⟩ := vk_Sof (args := #[Value.ref b]) (s := s) (N := 13) (tm := et_tm) (len := et_sln) (byt := et_sby) (A := fun q : Nat => s.heap.size ≤ q) sn_1 (fun i hi => hs _ (sn_2 i hi)) (fun i hi => hs _ (sn_3 i hi)) (fun i hi => hs _ (sn_4 i hi)) (fun i hi => hs _ (sn_5 i hi)) (fun i hi j hj => hs _ (sn_6 i hi j hj)) (fun i j hi hj hij => (sn_7 i hi j hj hij).elim (fun h => Or.inl (hs _ h)) (fun h => Or.inr (hs _ h))) hA0
  let w : et_W := (s, (fun k => match k with | 0 => c0 | 1 => c1 | 2 => c2 | 3 => c3 | 4 => c4 | 5 => c5 | 6 => c6 | 7 => c7 | 8 => c8 | 9 => c9 | _ => c10, fun k => match k with | 0 => iS0 | 1 => iS1 | 2 => iS2 | 3 => iS3 | 4 => iS4 | 5 => iS5 | 6 => iS6 | 7 => iS7 | 8 => iS8 | 9 => iS9 | _ => iS10), fun t => match t with | .int => aI | .byte => aB | .boolean => aZ | _ => aJ, fun k => if k < 97 then s.heap.size + k else if k < 2000 then adK (k - 1000) else if k < 3000 then adV (k - 2000) else b)
  have ek : ∀ i, i < 13 → et_ad w (1000 + i) = adK i := fun i hi => by
    show (if 1000 + i < 97 then _ else if 1000 + i < 2000 then adK (1000 + i - 1000) else _) = adK i
    rw [if_neg (by omega), if_pos (by omega), Nat.add_sub_cancel_left]
  have ev : ∀ i, i < 13 → et_ad w (2000 + i) = adV i := fun i hi => by
    show (if 2000 + i < 97 then _ else if 2000 + i < 2000 then _ else if 2000 + i < 3000 then adV (2000 + i - 2000) else _) = adV i
    rw [if_neg (by omega), if_neg (by omega), if_pos (by omega), Nat.add_sub_cancel_left]
  have er : et_Row w := fun k hk => by
    rw [ly_len] at hk
    show (if k < 97 then s.heap.size + k else _) = s.heap.size + k
    rw [if_pos hk]
  refine ⟨w, rfl, ⟨⟨_, hts⟩, ⟨?_, ?_⟩, ?_, ?_, ?_, ?_, ?_⟩, er, rfl⟩
  · intro k q hq
    match k, hq with
    | 0, hq => cases hq; exact hKn0
    | 1, hq => cases hq; exact hKn1
    | 2, hq => cases hq; exact hKn2
    | 3, hq => cases hq; exact hKn3
    | 4, hq => cases hq; exact hKn4
    | 5, hq => cases hq; exact hKn5
    | 6, hq => cases hq; exact hKn6
    | 7, hq => cases hq; exact hKn7
    | 8, hq => cases hq; exact hKn8
    | 9, hq => cases hq; exact hKn9
    | 10, hq => cases hq; exact hKn10
    | k + 11, hq => simp [vwCl] at hq
  · intro k q hq
    match k, hq with
    | 0, hq => cases hq; exact haI
    | 1, hq => cases hq; exact haB
    | 2, hq => cases hq; exact haZ
    | 3, hq => cases hq; exact haJ
    | k + 4, hq => simp [et_tys] at hq
  · intro i j hi hj h
    rw [er i hi, er j hj] at h
    omega
  · intro i hi
    rw [er i hi]
    exact Nat.le_add_right _ _
  · exact vx_Zqof (hts _ sn_12.1) (hts _ sn_12.2.2.1) (hs _ sn_12.2.2.2.1) hA0
  · exact vx_Zqof (hts _ sn_12.2.1) (hts _ sn_12.2.2.1) (hs _ sn_12.2.2.2.2) hA0
  · refine ⟨⟨fun i hi => ?_, fun i j hi hj h => ?_⟩, fun i hi => ?_, ?_, ?_, ?_⟩
    · show va_O "java/lang/String" (et_ad w (1000 + i)) _ _ _ ∧ va_OF _ _ _ _ (et_ad w (1000 + i)) _ _ _ ∧ va_OF _ _ _ (.ref (et_ad w (2000 + i))) (et_ad w (1000 + i)) _ _ _ ∧ va_T _ (et_ad w (2000 + i)) _ _ _ _ _
      rw [ek i hi, ev i hi]
      exact hSt.1 i hi
    · have h : et_ad w (1000 + i) = et_ad w (1000 + j) := h
      rw [ek i hi, ek j hj] at h
      exact hSt.2 i j hi hj h
    · rw [ek i hi]
      exact vk_R.of (A := #[Value.ref b]) (hts _ (sn_8 i hi)) (hev i hi)
    · exact va_Zof (hts _ sn_9.1) (hts _ sn_9.2.1) (va_eqi (hs _ sn_9.2.2)) hA0
    · exact va_Zqof (hts _ sn_10.1) (hts _ sn_10.2.1) (hs _ sn_10.2.2) hA0
    · exact va_Nc.of (hs _ sn_11)
