/-! words by their places in the tables, links, constants (printed by a program of ours) -/
theorem et_uw {ws : List Cond} (ps : List Nat) (h : ws = ps.filterMap (fun i => lw_tbl[i]?)) (hg : ws.all et_gw = true) : ∀ q ∈ ws, q ∈ et_tb := by
  intro q hq
  have h1 := List.all_eq_true.mp hg q hq
  rw [h] at hq
  obtain ⟨i, -, hi⟩ := List.mem_filterMap.mp hq
  exact et_mt i hi h1
theorem kb_24 : (Int8.ofInt 24).toInt32 = 24 := by decide
theorem ki_m1 : Int32.ofInt (-1) = (-1) := by decide
theorem ki_0 : Int32.ofInt 0 = 0 := by decide
theorem ki_1 : Int32.ofInt 1 = 1 := by decide
theorem kn_1 (x : Int32) : x + Int32.ofInt 1 = x + 1 := by rw [show Int32.ofInt 1 = 1 from by decide]
theorem iw_0 : ∀ q ∈ u_ws RX0 TX0 17, q ∈ et_tb := et_uw [435, 437, 439, 441, 443, 445, 447, 449, 451, 453, 455, 457, 459, 461, 463, 465, 467] (by decide +kernel) (by decide +kernel)
theorem iw_1 : ∀ q ∈ u_ws RX1 TX1 6, q ∈ et_tb := et_uw [378, 380, 382, 384, 386, 388] (by decide +kernel) (by decide +kernel)
theorem iw_6 : ∀ q ∈ u_ws RX6 TX6 15, q ∈ et_tb := et_uw [230, 232, 234, 236, 238, 240, 242, 244, 246, 248, 250, 252, 254, 256, 258] (by decide +kernel) (by decide +kernel)
theorem fl_192 : et_FL RX6 50 6 3 (.int) false := ⟨RX6, TX6, 15, tyX6, rfl, by decide, iw_6, et_mt 192 (by decide +kernel) rfl, tyX6_ok, nmX6, rfl, rfl⟩
theorem fl_196 : et_FL RX6 26 6 4 (.array .int) true := ⟨RX6, TX6, 15, tyX6, rfl, by decide, iw_6, et_mt 196 (by decide +kernel) rfl, tyX6_ok, nmX6, rfl, rfl⟩
theorem fl_361 : et_FL RX0 89 1 0 (.int) false := ⟨RX1, TX1, 6, tyX1, rfl, by decide, iw_1, et_mt 361 (by decide +kernel) rfl, tyX1_ok, nmX1, rfl, rfl⟩
theorem fl_362 : et_FL RX1 9 1 1 (.array .int) true := ⟨RX1, TX1, 6, tyX1, rfl, by decide, iw_1, et_mt 362 (by decide +kernel) rfl, tyX1_ok, nmX1, rfl, rfl⟩
theorem fl_365 : et_FL RX1 15 1 2 (.array .int) true := ⟨RX1, TX1, 6, tyX1, rfl, by decide, iw_1, et_mt 365 (by decide +kernel) rfl, tyX1_ok, nmX1, rfl, rfl⟩
theorem fl_366 : et_FL RX0 95 1 2 (.array .int) true := ⟨RX1, TX1, 6, tyX1, rfl, by decide, iw_1, et_mt 366 (by decide +kernel) rfl, tyX1_ok, nmX1, rfl, rfl⟩
theorem fl_415 : et_FL RX0 42 0 0 (.object "EndingTown$Town") true := ⟨RX0, TX0, 17, tyX0, rfl, by decide, iw_0, et_mt 415 (by decide +kernel) rfl, tyX0_ok, nmX0, rfl, rfl⟩
theorem fl_416 : et_FL RX0 46 0 1 (.object "EndingTown$Ledger") true := ⟨RX0, TX0, 17, tyX0, rfl, by decide, iw_0, et_mt 416 (by decide +kernel) rfl, tyX0_ok, nmX0, rfl, rfl⟩
theorem tm_585 : Cond.methodLink RX0 124 yX1_isHeardBy ∈ et_tb := et_mt 585 (by decide +kernel) rfl
theorem tm_589 : Cond.methodLink RX1 38 yX6_placeAt ∈ et_tb := et_mt 589 (by decide +kernel) rfl
theorem md_X1_isHeardBy : et_MD yX1_isHeardBy cX1_isHeardBy 4 (some .boolean) 3 := ⟨et_mt 588 (by decide +kernel) rfl, et_mt 118 (by decide +kernel) rfl, ⟨by decide, by decide⟩, fun sig h => by have h2 : (parseMethodDescriptor (yX1_isHeardBy).desc).map (fun d => d.parameters.length) = some 3 := (by decide +kernel); rw [h] at h2; exact (Option.some.inj h2).symm⟩
theorem md_X6_placeAt : et_MD yX6_placeAt cX6_placeAt 3 (some .int) 2 := ⟨et_mt 592 (by decide +kernel) rfl, et_mt 113 (by decide +kernel) rfl, ⟨by decide, by decide⟩, fun sig h => by have h2 : (parseMethodDescriptor (yX6_placeAt).desc).map (fun d => d.parameters.length) = some 2 := (by decide +kernel); rw [h] at h2; exact (Option.some.inj h2).symm⟩
theorem mi_X1_isHeardBy : et_MI yX1_isHeardBy 1 := ⟨et_mt 586 (by decide +kernel) rfl, et_mt 587 (by decide +kernel) rfl, TX1, 6, rfl⟩
theorem mi_X6_placeAt : et_MI yX6_placeAt 6 := ⟨et_mt 590 (by decide +kernel) rfl, et_mt 591 (by decide +kernel) rfl, TX6, 15, rfl⟩
theorem dX6_placeAt_0 : decode cX6_placeAt 0 = .ok (.iload_n 1, 1) := by decide +kernel
theorem dX6_placeAt_1 : decode cX6_placeAt 1 = .ok (.ifCond .lt 21, 3) := by decide +kernel
theorem dX6_placeAt_4 : decode cX6_placeAt 4 = .ok (.iload_n 1, 1) := by decide +kernel
theorem dX6_placeAt_5 : decode cX6_placeAt 5 = .ok (.aload_n 0, 1) := by decide +kernel
theorem dX6_placeAt_6 : decode cX6_placeAt 6 = .ok (.getfield 50, 3) := by decide +kernel
theorem dX6_placeAt_9 : decode cX6_placeAt 9 = .ok (.if_icmp .ge 13, 3) := by decide +kernel
theorem dX6_placeAt_12 : decode cX6_placeAt 12 = .ok (.iload_n 2, 1) := by decide +kernel
theorem dX6_placeAt_13 : decode cX6_placeAt 13 = .ok (.ifCond .lt 9, 3) := by decide +kernel
theorem dX6_placeAt_16 : decode cX6_placeAt 16 = .ok (.iload_n 2, 1) := by decide +kernel
theorem dX6_placeAt_17 : decode cX6_placeAt 17 = .ok (.bipush 24, 2) := by decide +kernel
theorem dX6_placeAt_19 : decode cX6_placeAt 19 = .ok (.if_icmp .lt 5, 3) := by decide +kernel
theorem dX6_placeAt_22 : decode cX6_placeAt 22 = .ok (.iconst (-1), 1) := by decide +kernel
theorem dX6_placeAt_23 : decode cX6_placeAt 23 = .ok (.ireturn, 1) := by decide +kernel
theorem dX6_placeAt_24 : decode cX6_placeAt 24 = .ok (.aload_n 0, 1) := by decide +kernel
theorem dX6_placeAt_25 : decode cX6_placeAt 25 = .ok (.getfield 26, 3) := by decide +kernel
theorem dX6_placeAt_28 : decode cX6_placeAt 28 = .ok (.iload_n 1, 1) := by decide +kernel
theorem dX6_placeAt_29 : decode cX6_placeAt 29 = .ok (.bipush 24, 2) := by decide +kernel
theorem dX6_placeAt_31 : decode cX6_placeAt 31 = .ok (.imul, 1) := by decide +kernel
theorem dX6_placeAt_32 : decode cX6_placeAt 32 = .ok (.iload_n 2, 1) := by decide +kernel
theorem dX6_placeAt_33 : decode cX6_placeAt 33 = .ok (.iadd, 1) := by decide +kernel
theorem dX6_placeAt_34 : decode cX6_placeAt 34 = .ok (.iaload, 1) := by decide +kernel
theorem dX6_placeAt_35 : decode cX6_placeAt 35 = .ok (.ireturn, 1) := by decide +kernel
theorem dX1_isHeardBy_0 : decode cX1_isHeardBy 0 = .ok (.aload_n 0, 1) := by decide +kernel
theorem dX1_isHeardBy_1 : decode cX1_isHeardBy 1 = .ok (.getfield 9, 3) := by decide +kernel
theorem dX1_isHeardBy_4 : decode cX1_isHeardBy 4 = .ok (.iload_n 1, 1) := by decide +kernel
theorem dX1_isHeardBy_5 : decode cX1_isHeardBy 5 = .ok (.iaload, 1) := by decide +kernel
theorem dX1_isHeardBy_6 : decode cX1_isHeardBy 6 = .ok (.iload_n 2, 1) := by decide +kernel
theorem dX1_isHeardBy_7 : decode cX1_isHeardBy 7 = .ok (.if_icmp .eq 37, 3) := by decide +kernel
theorem dX1_isHeardBy_10 : decode cX1_isHeardBy 10 = .ok (.aload_n 3, 1) := by decide +kernel
theorem dX1_isHeardBy_11 : decode cX1_isHeardBy 11 = .ok (.iload_n 2, 1) := by decide +kernel
theorem dX1_isHeardBy_12 : decode cX1_isHeardBy 12 = .ok (.aload_n 0, 1) := by decide +kernel
theorem dX1_isHeardBy_13 : decode cX1_isHeardBy 13 = .ok (.getfield 15, 3) := by decide +kernel
theorem dX1_isHeardBy_16 : decode cX1_isHeardBy 16 = .ok (.iload_n 1, 1) := by decide +kernel
theorem dX1_isHeardBy_17 : decode cX1_isHeardBy 17 = .ok (.iaload, 1) := by decide +kernel
theorem dX1_isHeardBy_18 : decode cX1_isHeardBy 18 = .ok (.invokevirtual 38, 3) := by decide +kernel
theorem dX1_isHeardBy_21 : decode cX1_isHeardBy 21 = .ok (.aload_n 3, 1) := by decide +kernel
theorem dX1_isHeardBy_22 : decode cX1_isHeardBy 22 = .ok (.aload_n 0, 1) := by decide +kernel
theorem dX1_isHeardBy_23 : decode cX1_isHeardBy 23 = .ok (.getfield 9, 3) := by decide +kernel
theorem dX1_isHeardBy_26 : decode cX1_isHeardBy 26 = .ok (.iload_n 1, 1) := by decide +kernel
theorem dX1_isHeardBy_27 : decode cX1_isHeardBy 27 = .ok (.iaload, 1) := by decide +kernel
theorem dX1_isHeardBy_28 : decode cX1_isHeardBy 28 = .ok (.aload_n 0, 1) := by decide +kernel
theorem dX1_isHeardBy_29 : decode cX1_isHeardBy 29 = .ok (.getfield 15, 3) := by decide +kernel
theorem dX1_isHeardBy_32 : decode cX1_isHeardBy 32 = .ok (.iload_n 1, 1) := by decide +kernel
theorem dX1_isHeardBy_33 : decode cX1_isHeardBy 33 = .ok (.iaload, 1) := by decide +kernel
theorem dX1_isHeardBy_34 : decode cX1_isHeardBy 34 = .ok (.invokevirtual 38, 3) := by decide +kernel
theorem dX1_isHeardBy_37 : decode cX1_isHeardBy 37 = .ok (.if_icmp .ne 7, 3) := by decide +kernel
theorem dX1_isHeardBy_40 : decode cX1_isHeardBy 40 = .ok (.iconst 1, 1) := by decide +kernel
theorem dX1_isHeardBy_41 : decode cX1_isHeardBy 41 = .ok (.goto 4, 3) := by decide +kernel
theorem dX1_isHeardBy_44 : decode cX1_isHeardBy 44 = .ok (.iconst 0, 1) := by decide +kernel
theorem dX1_isHeardBy_45 : decode cX1_isHeardBy 45 = .ok (.ireturn, 1) := by decide +kernel
theorem dX0_heardBy_0 : decode cX0_heardBy 0 = .ok (.iconst 0, 1) := by decide +kernel
theorem dX0_heardBy_1 : decode cX0_heardBy 1 = .ok (.istore_n 3, 1) := by decide +kernel
theorem dX0_heardBy_2 : decode cX0_heardBy 2 = .ok (.iconst 0, 1) := by decide +kernel
theorem dX0_heardBy_3 : decode cX0_heardBy 3 = .ok (.istore 4, 2) := by decide +kernel
theorem dX0_heardBy_5 : decode cX0_heardBy 5 = .ok (.iload 4, 2) := by decide +kernel
theorem dX0_heardBy_7 : decode cX0_heardBy 7 = .ok (.aload_n 0, 1) := by decide +kernel
theorem dX0_heardBy_8 : decode cX0_heardBy 8 = .ok (.getfield 46, 3) := by decide +kernel
theorem dX0_heardBy_11 : decode cX0_heardBy 11 = .ok (.getfield 89, 3) := by decide +kernel
theorem dX0_heardBy_14 : decode cX0_heardBy 14 = .ok (.if_icmp .ge 47, 3) := by decide +kernel
theorem dX0_heardBy_17 : decode cX0_heardBy 17 = .ok (.aload_n 0, 1) := by decide +kernel
theorem dX0_heardBy_18 : decode cX0_heardBy 18 = .ok (.getfield 46, 3) := by decide +kernel
theorem dX0_heardBy_21 : decode cX0_heardBy 21 = .ok (.getfield 95, 3) := by decide +kernel
theorem dX0_heardBy_24 : decode cX0_heardBy 24 = .ok (.iload 4, 2) := by decide +kernel
theorem dX0_heardBy_26 : decode cX0_heardBy 26 = .ok (.iaload, 1) := by decide +kernel
theorem dX0_heardBy_27 : decode cX0_heardBy 27 = .ok (.iload_n 2, 1) := by decide +kernel
theorem dX0_heardBy_28 : decode cX0_heardBy 28 = .ok (.if_icmp .gt 27, 3) := by decide +kernel
theorem dX0_heardBy_31 : decode cX0_heardBy 31 = .ok (.aload_n 0, 1) := by decide +kernel
theorem dX0_heardBy_32 : decode cX0_heardBy 32 = .ok (.getfield 46, 3) := by decide +kernel
theorem dX0_heardBy_35 : decode cX0_heardBy 35 = .ok (.iload 4, 2) := by decide +kernel
theorem dX0_heardBy_37 : decode cX0_heardBy 37 = .ok (.iload_n 1, 1) := by decide +kernel
theorem dX0_heardBy_38 : decode cX0_heardBy 38 = .ok (.aload_n 0, 1) := by decide +kernel
theorem dX0_heardBy_39 : decode cX0_heardBy 39 = .ok (.getfield 42, 3) := by decide +kernel
theorem dX0_heardBy_42 : decode cX0_heardBy 42 = .ok (.invokevirtual 124, 3) := by decide +kernel
theorem dX0_heardBy_45 : decode cX0_heardBy 45 = .ok (.ifCond .eq 10, 3) := by decide +kernel
theorem dX0_heardBy_48 : decode cX0_heardBy 48 = .ok (.iload_n 3, 1) := by decide +kernel
theorem dX0_heardBy_49 : decode cX0_heardBy 49 = .ok (.iconst 1, 1) := by decide +kernel
theorem dX0_heardBy_50 : decode cX0_heardBy 50 = .ok (.iload 4, 2) := by decide +kernel
theorem dX0_heardBy_52 : decode cX0_heardBy 52 = .ok (.ishl, 1) := by decide +kernel
theorem dX0_heardBy_53 : decode cX0_heardBy 53 = .ok (.ior, 1) := by decide +kernel
theorem dX0_heardBy_54 : decode cX0_heardBy 54 = .ok (.istore_n 3, 1) := by decide +kernel
theorem dX0_heardBy_55 : decode cX0_heardBy 55 = .ok (.iinc 4 1, 3) := by decide +kernel
theorem dX0_heardBy_58 : decode cX0_heardBy 58 = .ok (.goto (-53), 3) := by decide +kernel
theorem dX0_heardBy_61 : decode cX0_heardBy 61 = .ok (.iload_n 3, 1) := by decide +kernel
theorem dX0_heardBy_62 : decode cX0_heardBy 62 = .ok (.ireturn, 1) := by decide +kernel
theorem dX9_hasBit_0 : decode cX9_hasBit 0 = .ok (.iload_n 0, 1) := by decide +kernel
theorem dX9_hasBit_1 : decode cX9_hasBit 1 = .ok (.iload_n 1, 1) := by decide +kernel
theorem dX9_hasBit_2 : decode cX9_hasBit 2 = .ok (.iushr, 1) := by decide +kernel
theorem dX9_hasBit_3 : decode cX9_hasBit 3 = .ok (.iconst 1, 1) := by decide +kernel
theorem dX9_hasBit_4 : decode cX9_hasBit 4 = .ok (.iand, 1) := by decide +kernel
theorem dX9_hasBit_5 : decode cX9_hasBit 5 = .ok (.ifCond .eq 7, 3) := by decide +kernel
theorem dX9_hasBit_8 : decode cX9_hasBit 8 = .ok (.iconst 1, 1) := by decide +kernel
theorem dX9_hasBit_9 : decode cX9_hasBit 9 = .ok (.goto 4, 3) := by decide +kernel
theorem dX9_hasBit_12 : decode cX9_hasBit 12 = .ok (.iconst 0, 1) := by decide +kernel
theorem dX9_hasBit_13 : decode cX9_hasBit 13 = .ok (.ireturn, 1) := by decide +kernel
