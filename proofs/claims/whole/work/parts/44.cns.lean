/-! the constructors, one by one (printed by a program of ours) -/
theorem ta_int : Cond.arrayClass .int ∈ et_tb := et_mt 182 (by decide +kernel) rfl
theorem tz_int (N : Nat) : ∀ cA : ClassId, vp_cell cA (N, et_z0a .int) = arrV cA N (fun _ => defaultValue .int) := fun cA => rfl
theorem ta_byte : Cond.arrayClass .byte ∈ et_tb := et_mt 181 (by decide +kernel) rfl
theorem tz_byte (N : Nat) : ∀ cA : ClassId, vp_cell cA (N, et_z0a .byte) = arrV cA N (fun _ => defaultValue .byte) := fun cA => rfl
theorem ta_boolean : Cond.arrayClass .boolean ∈ et_tb := et_mt 391 (by decide +kernel) rfl
theorem tz_boolean (N : Nat) : ∀ cA : ClassId, vp_cell cA (N, et_z0a .boolean) = arrV cA N (fun _ => defaultValue .boolean) := fun cA => rfl
theorem ta_long : Cond.arrayClass .long ∈ et_tb := et_mt 1906 (by decide +kernel) rfl
theorem tz_long (N : Nat) : ∀ cA : ClassId, vp_cell cA (N, et_z0a .long) = arrV cA N (fun _ => defaultValue .long) := fun cA => rfl
theorem dX9_init_0 : decode cX9_init 0 = .ok (.aload_n 0, 1) := by decide +kernel
theorem dX9_init_1 : decode cX9_init 1 = .ok (.invokespecial 3, 3) := by decide +kernel
theorem dX9_init_4 : decode cX9_init 4 = .ok (.aload_n 0, 1) := by decide +kernel
theorem dX9_init_5 : decode cX9_init 5 = .ok (.sipush 800, 3) := by decide +kernel
theorem dX9_init_8 : decode cX9_init 8 = .ok (.newarray .byte, 2) := by decide +kernel
theorem dX9_init_10 : decode cX9_init 10 = .ok (.putfield 9, 3) := by decide +kernel
theorem dX9_init_13 : decode cX9_init 13 = .ok (.aload_n 0, 1) := by decide +kernel
theorem dX9_init_14 : decode cX9_init 14 = .ok (.new 13, 3) := by decide +kernel
theorem dX9_init_17 : decode cX9_init 17 = .ok (.dup, 1) := by decide +kernel
theorem dX9_init_18 : decode cX9_init 18 = .ok (.invokespecial 15, 3) := by decide +kernel
theorem dX9_init_21 : decode cX9_init 21 = .ok (.putfield 16, 3) := by decide +kernel
theorem dX9_init_24 : decode cX9_init 24 = .ok (.aload_n 0, 1) := by decide +kernel
theorem dX9_init_25 : decode cX9_init 25 = .ok (.new 13, 3) := by decide +kernel
theorem dX9_init_28 : decode cX9_init 28 = .ok (.dup, 1) := by decide +kernel
theorem dX9_init_29 : decode cX9_init 29 = .ok (.invokespecial 15, 3) := by decide +kernel
theorem dX9_init_32 : decode cX9_init 32 = .ok (.putfield 20, 3) := by decide +kernel
theorem dX9_init_35 : decode cX9_init 35 = .ok (.aload_n 0, 1) := by decide +kernel
theorem dX9_init_36 : decode cX9_init 36 = .ok (.new 23, 3) := by decide +kernel
theorem dX9_init_39 : decode cX9_init 39 = .ok (.dup, 1) := by decide +kernel
theorem dX9_init_40 : decode cX9_init 40 = .ok (.aload_n 0, 1) := by decide +kernel
theorem dX9_init_41 : decode cX9_init 41 = .ok (.getfield 9, 3) := by decide +kernel
theorem dX9_init_44 : decode cX9_init 44 = .ok (.invokespecial 25, 3) := by decide +kernel
theorem dX9_init_47 : decode cX9_init 47 = .ok (.putfield 28, 3) := by decide +kernel
theorem dX9_init_50 : decode cX9_init 50 = .ok (.aload_n 0, 1) := by decide +kernel
theorem dX9_init_51 : decode cX9_init 51 = .ok (.new 32, 3) := by decide +kernel
theorem dX9_init_54 : decode cX9_init 54 = .ok (.dup, 1) := by decide +kernel
theorem dX9_init_55 : decode cX9_init 55 = .ok (.invokespecial 34, 3) := by decide +kernel
theorem dX9_init_58 : decode cX9_init 58 = .ok (.putfield 35, 3) := by decide +kernel
theorem dX9_init_61 : decode cX9_init 61 = .ok (.aload_n 0, 1) := by decide +kernel
theorem dX9_init_62 : decode cX9_init 62 = .ok (.new 39, 3) := by decide +kernel
theorem dX9_init_65 : decode cX9_init 65 = .ok (.dup, 1) := by decide +kernel
theorem dX9_init_66 : decode cX9_init 66 = .ok (.aload_n 0, 1) := by decide +kernel
theorem dX9_init_67 : decode cX9_init 67 = .ok (.getfield 9, 3) := by decide +kernel
theorem dX9_init_70 : decode cX9_init 70 = .ok (.invokespecial 41, 3) := by decide +kernel
theorem dX9_init_73 : decode cX9_init 73 = .ok (.putfield 42, 3) := by decide +kernel
theorem dX9_init_76 : decode cX9_init 76 = .ok (.aload_n 0, 1) := by decide +kernel
theorem dX9_init_77 : decode cX9_init 77 = .ok (.new 46, 3) := by decide +kernel
theorem dX9_init_80 : decode cX9_init 80 = .ok (.dup, 1) := by decide +kernel
theorem dX9_init_81 : decode cX9_init 81 = .ok (.invokespecial 48, 3) := by decide +kernel
theorem dX9_init_84 : decode cX9_init 84 = .ok (.putfield 49, 3) := by decide +kernel
theorem dX9_init_87 : decode cX9_init 87 = .ok (.aload_n 0, 1) := by decide +kernel
theorem dX9_init_88 : decode cX9_init 88 = .ok (.new 46, 3) := by decide +kernel
theorem dX9_init_91 : decode cX9_init 91 = .ok (.dup, 1) := by decide +kernel
theorem dX9_init_92 : decode cX9_init 92 = .ok (.invokespecial 48, 3) := by decide +kernel
theorem dX9_init_95 : decode cX9_init 95 = .ok (.putfield 53, 3) := by decide +kernel
theorem dX9_init_98 : decode cX9_init 98 = .ok (.aload_n 0, 1) := by decide +kernel
theorem dX9_init_99 : decode cX9_init 99 = .ok (.new 56, 3) := by decide +kernel
theorem dX9_init_102 : decode cX9_init 102 = .ok (.dup, 1) := by decide +kernel
theorem dX9_init_103 : decode cX9_init 103 = .ok (.aload_n 0, 1) := by decide +kernel
theorem dX9_init_104 : decode cX9_init 104 = .ok (.getfield 16, 3) := by decide +kernel
theorem dX9_init_107 : decode cX9_init 107 = .ok (.invokespecial 58, 3) := by decide +kernel
theorem dX9_init_110 : decode cX9_init 110 = .ok (.putfield 61, 3) := by decide +kernel
theorem dX9_init_113 : decode cX9_init 113 = .ok (.aload_n 0, 1) := by decide +kernel
theorem dX9_init_114 : decode cX9_init 114 = .ok (.new 56, 3) := by decide +kernel
theorem dX9_init_117 : decode cX9_init 117 = .ok (.dup, 1) := by decide +kernel
theorem dX9_init_118 : decode cX9_init 118 = .ok (.aload_n 0, 1) := by decide +kernel
theorem dX9_init_119 : decode cX9_init 119 = .ok (.getfield 16, 3) := by decide +kernel
theorem dX9_init_122 : decode cX9_init 122 = .ok (.invokespecial 58, 3) := by decide +kernel
theorem dX9_init_125 : decode cX9_init 125 = .ok (.putfield 65, 3) := by decide +kernel
theorem dX9_init_128 : decode cX9_init 128 = .ok (.aload_n 0, 1) := by decide +kernel
theorem dX9_init_129 : decode cX9_init 129 = .ok (.new 68, 3) := by decide +kernel
theorem dX9_init_132 : decode cX9_init 132 = .ok (.dup, 1) := by decide +kernel
theorem dX9_init_133 : decode cX9_init 133 = .ok (.aload_n 0, 1) := by decide +kernel
theorem dX9_init_134 : decode cX9_init 134 = .ok (.getfield 16, 3) := by decide +kernel
theorem dX9_init_137 : decode cX9_init 137 = .ok (.aload_n 0, 1) := by decide +kernel
theorem dX9_init_138 : decode cX9_init 138 = .ok (.getfield 49, 3) := by decide +kernel
theorem dX9_init_141 : decode cX9_init 141 = .ok (.invokespecial 70, 3) := by decide +kernel
theorem dX9_init_144 : decode cX9_init 144 = .ok (.putfield 73, 3) := by decide +kernel
theorem dX9_init_147 : decode cX9_init 147 = .ok (.aload_n 0, 1) := by decide +kernel
theorem dX9_init_148 : decode cX9_init 148 = .ok (.new 77, 3) := by decide +kernel
theorem dX9_init_151 : decode cX9_init 151 = .ok (.dup, 1) := by decide +kernel
theorem dX9_init_152 : decode cX9_init 152 = .ok (.aload_n 0, 1) := by decide +kernel
theorem dX9_init_153 : decode cX9_init 153 = .ok (.getfield 73, 3) := by decide +kernel
theorem dX9_init_156 : decode cX9_init 156 = .ok (.aload_n 0, 1) := by decide +kernel
theorem dX9_init_157 : decode cX9_init 157 = .ok (.getfield 49, 3) := by decide +kernel
theorem dX9_init_160 : decode cX9_init 160 = .ok (.invokespecial 79, 3) := by decide +kernel
theorem dX9_init_163 : decode cX9_init 163 = .ok (.putfield 82, 3) := by decide +kernel
theorem dX9_init_166 : decode cX9_init 166 = .ok (.aload_n 0, 1) := by decide +kernel
theorem dX9_init_167 : decode cX9_init 167 = .ok (.iconst (-1), 1) := by decide +kernel
theorem dX9_init_168 : decode cX9_init 168 = .ok (.putfield 86, 3) := by decide +kernel
theorem dX9_init_171 : decode cX9_init 171 = .ok (.return_, 1) := by decide +kernel
theorem tm_141 : Cond.methodLink RX9 3 Lib.objectInit ∈ et_tb := et_mt 141 (by decide +kernel) rfl
theorem ff_491 : et_FF RX9 9 9 0 (.array .byte) := ⟨TX9, 18, tyX9, rfl, by decide, iw_9, et_mt 491 (by decide +kernel) rfl, tyX9_ok, nmX9, rfl, rfl, rfl⟩
theorem tm_144 : Cond.classLink RX9 13 RX6 ∈ et_tb := et_mt 144 (by decide +kernel) rfl
theorem ti_6 : Cond.instantiable RX6 15 ∈ et_tb ∧ Cond.initialized RX6 ∈ et_tb := ⟨et_mt 145 (by decide +kernel) rfl, et_mt 113 (by decide +kernel) rfl⟩
theorem df_6_2 : ∀ j, j < 15 → defaultValue (tyX6 j) = vp_V (([5, 0, 9, 0, 10, 0, 11, 12, 13, 0, 0, 0, 14, 15, 16] : List Nat).map (fun q => match q with | 0 => Value.int 0 | 1 => Value.long 0 | _ => Value.null)) j := by decide +kernel
theorem dX6_init_0 : decode cX6_init 0 = .ok (.aload_n 0, 1) := by decide +kernel
theorem dX6_init_1 : decode cX6_init 1 = .ok (.invokespecial 3, 3) := by decide +kernel
theorem dX6_init_4 : decode cX6_init 4 = .ok (.aload_n 0, 1) := by decide +kernel
theorem dX6_init_5 : decode cX6_init 5 = .ok (.new 9, 3) := by decide +kernel
theorem dX6_init_8 : decode cX6_init 8 = .ok (.dup, 1) := by decide +kernel
theorem dX6_init_9 : decode cX6_init 9 = .ok (.invokespecial 11, 3) := by decide +kernel
theorem dX6_init_12 : decode cX6_init 12 = .ok (.putfield 12, 3) := by decide +kernel
theorem dX6_init_15 : decode cX6_init 15 = .ok (.aload_n 0, 1) := by decide +kernel
theorem dX6_init_16 : decode cX6_init 16 = .ok (.iconst 1, 1) := by decide +kernel
theorem dX6_init_17 : decode cX6_init 17 = .ok (.putfield 18, 3) := by decide +kernel
theorem dX6_init_20 : decode cX6_init 20 = .ok (.aload_n 0, 1) := by decide +kernel
theorem dX6_init_21 : decode cX6_init 21 = .ok (.bipush 6, 2) := by decide +kernel
theorem dX6_init_23 : decode cX6_init 23 = .ok (.newarray .int, 2) := by decide +kernel
theorem dX6_init_25 : decode cX6_init 25 = .ok (.putfield 22, 3) := by decide +kernel
theorem dX6_init_28 : decode cX6_init 28 = .ok (.aload_n 0, 1) := by decide +kernel
theorem dX6_init_29 : decode cX6_init 29 = .ok (.sipush 144, 3) := by decide +kernel
theorem dX6_init_32 : decode cX6_init 32 = .ok (.newarray .int, 2) := by decide +kernel
theorem dX6_init_34 : decode cX6_init 34 = .ok (.putfield 26, 3) := by decide +kernel
theorem dX6_init_37 : decode cX6_init 37 = .ok (.aload_n 0, 1) := by decide +kernel
theorem dX6_init_38 : decode cX6_init 38 = .ok (.bipush 8, 2) := by decide +kernel
theorem dX6_init_40 : decode cX6_init 40 = .ok (.newarray .int, 2) := by decide +kernel
theorem dX6_init_42 : decode cX6_init 42 = .ok (.putfield 29, 3) := by decide +kernel
theorem dX6_init_45 : decode cX6_init 45 = .ok (.aload_n 0, 1) := by decide +kernel
theorem dX6_init_46 : decode cX6_init 46 = .ok (.bipush 8, 2) := by decide +kernel
theorem dX6_init_48 : decode cX6_init 48 = .ok (.newarray .int, 2) := by decide +kernel
theorem dX6_init_50 : decode cX6_init 50 = .ok (.putfield 32, 3) := by decide +kernel
theorem dX6_init_53 : decode cX6_init 53 = .ok (.aload_n 0, 1) := by decide +kernel
theorem dX6_init_54 : decode cX6_init 54 = .ok (.bipush 8, 2) := by decide +kernel
theorem dX6_init_56 : decode cX6_init 56 = .ok (.newarray .int, 2) := by decide +kernel
theorem dX6_init_58 : decode cX6_init 58 = .ok (.putfield 35, 3) := by decide +kernel
theorem dX6_init_61 : decode cX6_init 61 = .ok (.aload_n 0, 1) := by decide +kernel
theorem dX6_init_62 : decode cX6_init 62 = .ok (.bipush 6, 2) := by decide +kernel
theorem dX6_init_64 : decode cX6_init 64 = .ok (.newarray .int, 2) := by decide +kernel
theorem dX6_init_66 : decode cX6_init 66 = .ok (.putfield 38, 3) := by decide +kernel
theorem dX6_init_69 : decode cX6_init 69 = .ok (.aload_n 0, 1) := by decide +kernel
theorem dX6_init_70 : decode cX6_init 70 = .ok (.bipush 6, 2) := by decide +kernel
theorem dX6_init_72 : decode cX6_init 72 = .ok (.newarray .int, 2) := by decide +kernel
theorem dX6_init_74 : decode cX6_init 74 = .ok (.putfield 41, 3) := by decide +kernel
theorem dX6_init_77 : decode cX6_init 77 = .ok (.aload_n 0, 1) := by decide +kernel
theorem dX6_init_78 : decode cX6_init 78 = .ok (.bipush 10, 2) := by decide +kernel
theorem dX6_init_80 : decode cX6_init 80 = .ok (.newarray .int, 2) := by decide +kernel
theorem dX6_init_82 : decode cX6_init 82 = .ok (.putfield 44, 3) := by decide +kernel
theorem dX6_init_85 : decode cX6_init 85 = .ok (.return_, 1) := by decide +kernel
theorem tm_149 : Cond.methodLink RX6 3 Lib.objectInit ∈ et_tb := et_mt 149 (by decide +kernel) rfl
theorem tm_150 : Cond.classLink RX6 9 RX5 ∈ et_tb := et_mt 150 (by decide +kernel) rfl
theorem ti_5 : Cond.instantiable RX5 6 ∈ et_tb ∧ Cond.initialized RX5 ∈ et_tb := ⟨et_mt 151 (by decide +kernel) rfl, et_mt 114 (by decide +kernel) rfl⟩
theorem df_5_3 : ∀ j, j < 6 → defaultValue (tyX5 j) = vp_V (([6, 7, 0, 0, 8, 0] : List Nat).map (fun q => match q with | 0 => Value.int 0 | 1 => Value.long 0 | _ => Value.null)) j := by decide +kernel
theorem dX5_init_0 : decode cX5_init 0 = .ok (.aload_n 0, 1) := by decide +kernel
theorem dX5_init_1 : decode cX5_init 1 = .ok (.invokespecial 5, 3) := by decide +kernel
theorem dX5_init_4 : decode cX5_init 4 = .ok (.aload_n 0, 1) := by decide +kernel
theorem dX5_init_5 : decode cX5_init 5 = .ok (.sipush 368, 3) := by decide +kernel
theorem dX5_init_8 : decode cX5_init 8 = .ok (.newarray .byte, 2) := by decide +kernel
theorem dX5_init_10 : decode cX5_init 10 = .ok (.putfield 11, 3) := by decide +kernel
theorem dX5_init_13 : decode cX5_init 13 = .ok (.aload_n 0, 1) := by decide +kernel
theorem dX5_init_14 : decode cX5_init 14 = .ok (.bipush 46, 2) := by decide +kernel
theorem dX5_init_16 : decode cX5_init 16 = .ok (.newarray .int, 2) := by decide +kernel
theorem dX5_init_18 : decode cX5_init 18 = .ok (.putfield 15, 3) := by decide +kernel
theorem dX5_init_21 : decode cX5_init 21 = .ok (.aload_n 0, 1) := by decide +kernel
theorem dX5_init_22 : decode cX5_init 22 = .ok (.bipush 24, 2) := by decide +kernel
theorem dX5_init_24 : decode cX5_init 24 = .ok (.newarray .byte, 2) := by decide +kernel
theorem dX5_init_26 : decode cX5_init 26 = .ok (.putfield 19, 3) := by decide +kernel
theorem dX5_init_29 : decode cX5_init 29 = .ok (.return_, 1) := by decide +kernel
theorem tm_155 : Cond.methodLink RX5 5 Lib.objectInit ∈ et_tb := et_mt 155 (by decide +kernel) rfl
theorem ks_368 : (Int16.ofInt 368).toInt32 = 368 := by decide
theorem ff_156 : et_FF RX5 11 5 0 (.array .byte) := ⟨TX5, 6, tyX5, rfl, by decide, iw_5, et_mt 156 (by decide +kernel) rfl, tyX5_ok, nmX5, rfl, rfl, rfl⟩
theorem kb_46 : (Int8.ofInt 46).toInt32 = 46 := by decide
theorem ff_157 : et_FF RX5 15 5 1 (.array .int) := ⟨TX5, 6, tyX5, rfl, by decide, iw_5, et_mt 157 (by decide +kernel) rfl, tyX5_ok, nmX5, rfl, rfl, rfl⟩
theorem ff_165 : et_FF RX5 19 5 4 (.array .byte) := ⟨TX5, 6, tyX5, rfl, by decide, iw_5, et_mt 165 (by decide +kernel) rfl, tyX5_ok, nmX5, rfl, rfl, rfl⟩
def kd_To_3 (c : et_P) : et_P := et_ps (et_ps (et_ps c 3 500 1) 3 501 1) 3 504 1
def rk_To_3 : Room := { frames := 1, cells := 3, slots := 438, locals := 12 }
theorem kc_To_3 {w : et_W} (hw : et_Sane w) (c : et_P) : et_KC w yX5_init (Cond.code yX5_init cX5_init 1 none) rk_To_3 [.ref (et_ad w 3)] c 4 (kd_To_3 c) 7 := et_kmk (lv0 := [some (.ref (et_ad w 3))]) hw (by decide) rfl rfl rfl (fun h => et_fr_up (n := 4) (et_fr_p (n := 4) rfl (et_fr_up (n := 4) (et_fr_p (n := 4) rfl (et_fr_up (n := 4) (et_fr_p (n := 4) rfl (et_fr_up (n := 4) (h) rfl)) rfl)) rfl)) rfl) (fun X hX hin => by
  refine kz_aload0 (pc := 0) hX dX5_init_0 ?_
  refine kz_obj (pc := 1) hX dX5_init_1 tm_155 rfl rfl ?_
  refine kz_aload0 (pc := 4) hX dX5_init_4 ?_
  refine kz_sipush (pc := 5) hX dX5_init_5 ks_368 ?_
  refine kz_newa (pc := 8) (t0 := 1) hX dX5_init_8 rfl ta_byte ly_4 (et_t1 w) (tz_byte 368) (by decide) (by decide) (by decide) rfl rfl ?_
  refine kz_putr (q := 4) (pc := 10) hX hin dX5_init_10 ff_156 ly_3 rfl rfl rfl rfl rfl ?_
  refine kz_aload0 (pc := 13) hX dX5_init_13 ?_
  refine kz_bipush (pc := 14) hX dX5_init_14 kb_46 ?_
  refine kz_newa (pc := 16) (t0 := 0) hX dX5_init_16 rfl ta_int ly_5 (et_t0 w) (tz_int 46) (by decide) (by decide) (by decide) rfl rfl ?_
  refine kz_putr (q := 5) (pc := 18) hX hin dX5_init_18 ff_157 ly_3 rfl rfl rfl rfl rfl ?_
  refine kz_aload0 (pc := 21) hX dX5_init_21 ?_
  refine kz_bipush (pc := 22) hX dX5_init_22 kb_24 ?_
  refine kz_newa (pc := 24) (t0 := 1) hX dX5_init_24 rfl ta_byte ly_6 (et_t1 w) (tz_byte 24) (by decide) (by decide) (by decide) rfl rfl ?_
  refine kz_putr (q := 6) (pc := 26) hX hin dX5_init_26 ff_165 ly_3 rfl rfl rfl rfl rfl ?_
  exact kz_ret (pc := 29) hX dX5_init_29 rfl rfl)
theorem md_X5_init : et_MD yX5_init cX5_init 1 none 0 := ⟨et_mt 154 (by decide +kernel) rfl, et_mt 114 (by decide +kernel) rfl, ⟨by decide, by decide⟩, fun sig h => by have h2 : (parseMethodDescriptor (yX5_init).desc).map (fun d => d.parameters.length) = some 0 := (by decide +kernel); rw [h] at h2; exact (Option.some.inj h2).symm⟩
theorem mo_X5_init : Cond.instanceMethod yX5_init ∈ et_tb := et_mt 153 (by decide +kernel) rfl
theorem nl_152 : Cond.methodLinkNest RX6 11 yX5_init "EndingTown" ∈ lw_tbl := List.mem_of_getElem? (i := 152) (by decide +kernel)
theorem ff_183 : et_FF RX6 12 6 0 (.object "EndingTown$Tongue") := ⟨TX6, 15, tyX6, rfl, by decide, iw_6, et_mt 183 (by decide +kernel) rfl, tyX6_ok, nmX6, rfl, rfl, rfl⟩
theorem ff_190 : et_FF RX6 22 6 2 (.array .int) := ⟨TX6, 15, tyX6, rfl, by decide, iw_6, et_mt 190 (by decide +kernel) rfl, tyX6_ok, nmX6, rfl, rfl, rfl⟩
theorem ff_196 : et_FF RX6 26 6 4 (.array .int) := ⟨TX6, 15, tyX6, rfl, by decide, iw_6, et_mt 196 (by decide +kernel) rfl, tyX6_ok, nmX6, rfl, rfl, rfl⟩
theorem ff_203 : et_FF RX6 29 6 6 (.array .int) := ⟨TX6, 15, tyX6, rfl, by decide, iw_6, et_mt 203 (by decide +kernel) rfl, tyX6_ok, nmX6, rfl, rfl, rfl⟩
theorem ff_206 : et_FF RX6 32 6 7 (.array .int) := ⟨TX6, 15, tyX6, rfl, by decide, iw_6, et_mt 206 (by decide +kernel) rfl, tyX6_ok, nmX6, rfl, rfl, rfl⟩
theorem ff_209 : et_FF RX6 35 6 8 (.array .int) := ⟨TX6, 15, tyX6, rfl, by decide, iw_6, et_mt 209 (by decide +kernel) rfl, tyX6_ok, nmX6, rfl, rfl, rfl⟩
theorem ff_223 : et_FF RX6 38 6 12 (.array .int) := ⟨TX6, 15, tyX6, rfl, by decide, iw_6, et_mt 223 (by decide +kernel) rfl, tyX6_ok, nmX6, rfl, rfl, rfl⟩
theorem ff_225 : et_FF RX6 41 6 13 (.array .int) := ⟨TX6, 15, tyX6, rfl, by decide, iw_6, et_mt 225 (by decide +kernel) rfl, tyX6_ok, nmX6, rfl, rfl, rfl⟩
theorem ff_228 : et_FF RX6 44 6 14 (.array .int) := ⟨TX6, 15, tyX6, rfl, by decide, iw_6, et_mt 228 (by decide +kernel) rfl, tyX6_ok, nmX6, rfl, rfl, rfl⟩
def kd_Tw_2 (c : et_P) : et_P := et_ps (et_ps (et_ps (et_ps (et_ps (et_ps (et_ps (et_ps (et_ps (et_ps (kd_To_3 (c)) 2 500 1) 2 1 1) 2 502 1) 2 504 1) 2 506 1) 2 507 1) 2 508 1) 2 512 1) 2 513 1) 2 514 1
def rk_Tw_2 : Room := { frames := 2, cells := 12, slots := 640, locals := 32 }
theorem kc_Tw_2 {w : et_W} (hw : et_Sane w) (c : et_P) : et_KC w yX6_init (Cond.code yX6_init cX6_init 1 none) rk_Tw_2 [.ref (et_ad w 2)] c 3 (kd_Tw_2 c) 15 := et_kmk (lv0 := [some (.ref (et_ad w 2))]) hw (by decide) rfl rfl rfl (fun h => et_fr_up (n := 7) (et_fr_p (n := 7) rfl (et_fr_up (n := 7) (et_fr_p (n := 7) rfl (et_fr_up (n := 7) (et_fr_p (n := 7) rfl (et_fr_up (n := 7) (et_fr_p (n := 7) rfl (et_fr_up (n := 7) (et_fr_p (n := 7) rfl (et_fr_up (n := 7) (et_fr_p (n := 7) rfl (et_fr_up (n := 7) (et_fr_p (n := 7) rfl (et_fr_up (n := 7) (et_fr_p (n := 7) rfl (et_fr_up (n := 7) (et_fr_p (n := 7) rfl (et_fr_up (n := 7) (et_fr_p (n := 7) rfl (et_fr_up (n := 7) ((kc_To_3 hw _).1 (et_fr_up (n := 3) (h) rfl)) rfl)) rfl)) rfl)) rfl)) rfl)) rfl)) rfl)) rfl)) rfl)) rfl)) rfl) (fun X hX hin => by
  refine kz_aload0 (pc := 0) hX dX6_init_0 ?_
  refine kz_obj (pc := 1) hX dX6_init_1 tm_149 rfl rfl ?_
  refine kz_aload0 (pc := 4) hX dX6_init_4 ?_
  refine kz_new (pc := 5) (tyf := tyX5) hX dX6_init_5 RX5 TX5 rfl iw_5 tyX5_ok tm_150 ti_5.1 ti_5.2 ly_3 df_5_3 rfl rfl ?_
  refine kz_dup (pc := 8) hX dX6_init_8 rfl ?_
  refine kz_callN (As := []) (pc := 9) hX dX6_init_9 rfl nl_152 md_X5_init mo_X5_init (kc_To_3 hX.sane _) rfl rfl rfl ?_
  refine kz_putr (q := 3) (pc := 12) hX hin dX6_init_12 ff_183 ly_2 rfl rfl rfl rfl rfl ?_
  refine kz_aload0 (pc := 15) hX dX6_init_15 ?_
  refine kz_iconst (pc := 16) hX dX6_init_16 ki_1 ?_
  refine kz_puti (pc := 17) hX dX6_init_17 fl_187 ly_2 rfl rfl rfl ?_
  refine kz_aload0 (pc := 20) hX dX6_init_20 ?_
  refine kz_bipush (pc := 21) hX dX6_init_21 kb_6 ?_
  refine kz_newa (pc := 23) (t0 := 0) hX dX6_init_23 rfl ta_int ly_7 (et_t0 w) (tz_int 6) (by decide) (by decide) (by decide) rfl rfl ?_
  refine kz_putr (q := 7) (pc := 25) hX hin dX6_init_25 ff_190 ly_2 rfl rfl rfl rfl rfl ?_
  refine kz_aload0 (pc := 28) hX dX6_init_28 ?_
  refine kz_sipush (pc := 29) hX dX6_init_29 ks_144 ?_
  refine kz_newa (pc := 32) (t0 := 0) hX dX6_init_32 rfl ta_int ly_8 (et_t0 w) (tz_int 144) (by decide) (by decide) (by decide) rfl rfl ?_
  refine kz_putr (q := 8) (pc := 34) hX hin dX6_init_34 ff_196 ly_2 rfl rfl rfl rfl rfl ?_
  refine kz_aload0 (pc := 37) hX dX6_init_37 ?_
  refine kz_bipush (pc := 38) hX dX6_init_38 kb_8 ?_
  refine kz_newa (pc := 40) (t0 := 0) hX dX6_init_40 rfl ta_int ly_9 (et_t0 w) (tz_int 8) (by decide) (by decide) (by decide) rfl rfl ?_
  refine kz_putr (q := 9) (pc := 42) hX hin dX6_init_42 ff_203 ly_2 rfl rfl rfl rfl rfl ?_
  refine kz_aload0 (pc := 45) hX dX6_init_45 ?_
  refine kz_bipush (pc := 46) hX dX6_init_46 kb_8 ?_
  refine kz_newa (pc := 48) (t0 := 0) hX dX6_init_48 rfl ta_int ly_10 (et_t0 w) (tz_int 8) (by decide) (by decide) (by decide) rfl rfl ?_
  refine kz_putr (q := 10) (pc := 50) hX hin dX6_init_50 ff_206 ly_2 rfl rfl rfl rfl rfl ?_
  refine kz_aload0 (pc := 53) hX dX6_init_53 ?_
  refine kz_bipush (pc := 54) hX dX6_init_54 kb_8 ?_
  refine kz_newa (pc := 56) (t0 := 0) hX dX6_init_56 rfl ta_int ly_11 (et_t0 w) (tz_int 8) (by decide) (by decide) (by decide) rfl rfl ?_
  refine kz_putr (q := 11) (pc := 58) hX hin dX6_init_58 ff_209 ly_2 rfl rfl rfl rfl rfl ?_
  refine kz_aload0 (pc := 61) hX dX6_init_61 ?_
  refine kz_bipush (pc := 62) hX dX6_init_62 kb_6 ?_
  refine kz_newa (pc := 64) (t0 := 0) hX dX6_init_64 rfl ta_int ly_12 (et_t0 w) (tz_int 6) (by decide) (by decide) (by decide) rfl rfl ?_
  refine kz_putr (q := 12) (pc := 66) hX hin dX6_init_66 ff_223 ly_2 rfl rfl rfl rfl rfl ?_
  refine kz_aload0 (pc := 69) hX dX6_init_69 ?_
  refine kz_bipush (pc := 70) hX dX6_init_70 kb_6 ?_
  refine kz_newa (pc := 72) (t0 := 0) hX dX6_init_72 rfl ta_int ly_13 (et_t0 w) (tz_int 6) (by decide) (by decide) (by decide) rfl rfl ?_
  refine kz_putr (q := 13) (pc := 74) hX hin dX6_init_74 ff_225 ly_2 rfl rfl rfl rfl rfl ?_
  refine kz_aload0 (pc := 77) hX dX6_init_77 ?_
  refine kz_bipush (pc := 78) hX dX6_init_78 kb_10 ?_
  refine kz_newa (pc := 80) (t0 := 0) hX dX6_init_80 rfl ta_int ly_14 (et_t0 w) (tz_int 10) (by decide) (by decide) (by decide) rfl rfl ?_
  refine kz_putr (q := 14) (pc := 82) hX hin dX6_init_82 ff_228 ly_2 rfl rfl rfl rfl rfl ?_
  exact kz_ret (pc := 85) hX dX6_init_85 rfl rfl)
theorem md_X6_init : et_MD yX6_init cX6_init 1 none 0 := ⟨et_mt 148 (by decide +kernel) rfl, et_mt 113 (by decide +kernel) rfl, ⟨by decide, by decide⟩, fun sig h => by have h2 : (parseMethodDescriptor (yX6_init).desc).map (fun d => d.parameters.length) = some 0 := (by decide +kernel); rw [h] at h2; exact (Option.some.inj h2).symm⟩
theorem mo_X6_init : Cond.instanceMethod yX6_init ∈ et_tb := et_mt 147 (by decide +kernel) rfl
theorem nl_146 : Cond.methodLinkNest RX9 15 yX6_init "EndingTown" ∈ lw_tbl := List.mem_of_getElem? (i := 146) (by decide +kernel)
theorem ff_493 : et_FF RX9 16 9 2 (.object "EndingTown$Town") := ⟨TX9, 18, tyX9, rfl, by decide, iw_9, et_mt 493 (by decide +kernel) rfl, tyX9_ok, nmX9, rfl, rfl, rfl⟩
theorem df_6_15 : ∀ j, j < 15 → defaultValue (tyX6 j) = vp_V (([18, 0, 22, 0, 23, 0, 24, 25, 26, 0, 0, 0, 27, 28, 29] : List Nat).map (fun q => match q with | 0 => Value.int 0 | 1 => Value.long 0 | _ => Value.null)) j := by decide +kernel
theorem df_5_16 : ∀ j, j < 6 → defaultValue (tyX5 j) = vp_V (([19, 20, 0, 0, 21, 0] : List Nat).map (fun q => match q with | 0 => Value.int 0 | 1 => Value.long 0 | _ => Value.null)) j := by decide +kernel
def kd_To_16 (c : et_P) : et_P := et_ps (et_ps (et_ps c 16 500 1) 16 501 1) 16 504 1
def rk_To_16 : Room := { frames := 1, cells := 3, slots := 438, locals := 12 }
theorem kc_To_16 {w : et_W} (hw : et_Sane w) (c : et_P) : et_KC w yX5_init (Cond.code yX5_init cX5_init 1 none) rk_To_16 [.ref (et_ad w 16)] c 17 (kd_To_16 c) 20 := et_kmk (lv0 := [some (.ref (et_ad w 16))]) hw (by decide) rfl rfl rfl (fun h => et_fr_up (n := 17) (et_fr_p (n := 17) rfl (et_fr_up (n := 17) (et_fr_p (n := 17) rfl (et_fr_up (n := 17) (et_fr_p (n := 17) rfl (et_fr_up (n := 17) (h) rfl)) rfl)) rfl)) rfl) (fun X hX hin => by
  refine kz_aload0 (pc := 0) hX dX5_init_0 ?_
  refine kz_obj (pc := 1) hX dX5_init_1 tm_155 rfl rfl ?_
  refine kz_aload0 (pc := 4) hX dX5_init_4 ?_
  refine kz_sipush (pc := 5) hX dX5_init_5 ks_368 ?_
  refine kz_newa (pc := 8) (t0 := 1) hX dX5_init_8 rfl ta_byte ly_17 (et_t1 w) (tz_byte 368) (by decide) (by decide) (by decide) rfl rfl ?_
  refine kz_putr (q := 17) (pc := 10) hX hin dX5_init_10 ff_156 ly_16 rfl rfl rfl rfl rfl ?_
  refine kz_aload0 (pc := 13) hX dX5_init_13 ?_
  refine kz_bipush (pc := 14) hX dX5_init_14 kb_46 ?_
  refine kz_newa (pc := 16) (t0 := 0) hX dX5_init_16 rfl ta_int ly_18 (et_t0 w) (tz_int 46) (by decide) (by decide) (by decide) rfl rfl ?_
  refine kz_putr (q := 18) (pc := 18) hX hin dX5_init_18 ff_157 ly_16 rfl rfl rfl rfl rfl ?_
  refine kz_aload0 (pc := 21) hX dX5_init_21 ?_
  refine kz_bipush (pc := 22) hX dX5_init_22 kb_24 ?_
  refine kz_newa (pc := 24) (t0 := 1) hX dX5_init_24 rfl ta_byte ly_19 (et_t1 w) (tz_byte 24) (by decide) (by decide) (by decide) rfl rfl ?_
  refine kz_putr (q := 19) (pc := 26) hX hin dX5_init_26 ff_165 ly_16 rfl rfl rfl rfl rfl ?_
  exact kz_ret (pc := 29) hX dX5_init_29 rfl rfl)
def kd_Tw_15 (c : et_P) : et_P := et_ps (et_ps (et_ps (et_ps (et_ps (et_ps (et_ps (et_ps (et_ps (et_ps (kd_To_16 (c)) 15 500 1) 15 1 1) 15 502 1) 15 504 1) 15 506 1) 15 507 1) 15 508 1) 15 512 1) 15 513 1) 15 514 1
def rk_Tw_15 : Room := { frames := 2, cells := 12, slots := 640, locals := 32 }
theorem kc_Tw_15 {w : et_W} (hw : et_Sane w) (c : et_P) : et_KC w yX6_init (Cond.code yX6_init cX6_init 1 none) rk_Tw_15 [.ref (et_ad w 15)] c 16 (kd_Tw_15 c) 28 := et_kmk (lv0 := [some (.ref (et_ad w 15))]) hw (by decide) rfl rfl rfl (fun h => et_fr_up (n := 20) (et_fr_p (n := 20) rfl (et_fr_up (n := 20) (et_fr_p (n := 20) rfl (et_fr_up (n := 20) (et_fr_p (n := 20) rfl (et_fr_up (n := 20) (et_fr_p (n := 20) rfl (et_fr_up (n := 20) (et_fr_p (n := 20) rfl (et_fr_up (n := 20) (et_fr_p (n := 20) rfl (et_fr_up (n := 20) (et_fr_p (n := 20) rfl (et_fr_up (n := 20) (et_fr_p (n := 20) rfl (et_fr_up (n := 20) (et_fr_p (n := 20) rfl (et_fr_up (n := 20) (et_fr_p (n := 20) rfl (et_fr_up (n := 20) ((kc_To_16 hw _).1 (et_fr_up (n := 16) (h) rfl)) rfl)) rfl)) rfl)) rfl)) rfl)) rfl)) rfl)) rfl)) rfl)) rfl)) rfl) (fun X hX hin => by
  refine kz_aload0 (pc := 0) hX dX6_init_0 ?_
  refine kz_obj (pc := 1) hX dX6_init_1 tm_149 rfl rfl ?_
  refine kz_aload0 (pc := 4) hX dX6_init_4 ?_
  refine kz_new (pc := 5) (tyf := tyX5) hX dX6_init_5 RX5 TX5 rfl iw_5 tyX5_ok tm_150 ti_5.1 ti_5.2 ly_16 df_5_16 rfl rfl ?_
  refine kz_dup (pc := 8) hX dX6_init_8 rfl ?_
  refine kz_callN (As := []) (pc := 9) hX dX6_init_9 rfl nl_152 md_X5_init mo_X5_init (kc_To_16 hX.sane _) rfl rfl rfl ?_
  refine kz_putr (q := 16) (pc := 12) hX hin dX6_init_12 ff_183 ly_15 rfl rfl rfl rfl rfl ?_
  refine kz_aload0 (pc := 15) hX dX6_init_15 ?_
  refine kz_iconst (pc := 16) hX dX6_init_16 ki_1 ?_
  refine kz_puti (pc := 17) hX dX6_init_17 fl_187 ly_15 rfl rfl rfl ?_
  refine kz_aload0 (pc := 20) hX dX6_init_20 ?_
  refine kz_bipush (pc := 21) hX dX6_init_21 kb_6 ?_
  refine kz_newa (pc := 23) (t0 := 0) hX dX6_init_23 rfl ta_int ly_20 (et_t0 w) (tz_int 6) (by decide) (by decide) (by decide) rfl rfl ?_
  refine kz_putr (q := 20) (pc := 25) hX hin dX6_init_25 ff_190 ly_15 rfl rfl rfl rfl rfl ?_
  refine kz_aload0 (pc := 28) hX dX6_init_28 ?_
  refine kz_sipush (pc := 29) hX dX6_init_29 ks_144 ?_
  refine kz_newa (pc := 32) (t0 := 0) hX dX6_init_32 rfl ta_int ly_21 (et_t0 w) (tz_int 144) (by decide) (by decide) (by decide) rfl rfl ?_
  refine kz_putr (q := 21) (pc := 34) hX hin dX6_init_34 ff_196 ly_15 rfl rfl rfl rfl rfl ?_
  refine kz_aload0 (pc := 37) hX dX6_init_37 ?_
  refine kz_bipush (pc := 38) hX dX6_init_38 kb_8 ?_
  refine kz_newa (pc := 40) (t0 := 0) hX dX6_init_40 rfl ta_int ly_22 (et_t0 w) (tz_int 8) (by decide) (by decide) (by decide) rfl rfl ?_
  refine kz_putr (q := 22) (pc := 42) hX hin dX6_init_42 ff_203 ly_15 rfl rfl rfl rfl rfl ?_
  refine kz_aload0 (pc := 45) hX dX6_init_45 ?_
  refine kz_bipush (pc := 46) hX dX6_init_46 kb_8 ?_
  refine kz_newa (pc := 48) (t0 := 0) hX dX6_init_48 rfl ta_int ly_23 (et_t0 w) (tz_int 8) (by decide) (by decide) (by decide) rfl rfl ?_
  refine kz_putr (q := 23) (pc := 50) hX hin dX6_init_50 ff_206 ly_15 rfl rfl rfl rfl rfl ?_
  refine kz_aload0 (pc := 53) hX dX6_init_53 ?_
  refine kz_bipush (pc := 54) hX dX6_init_54 kb_8 ?_
  refine kz_newa (pc := 56) (t0 := 0) hX dX6_init_56 rfl ta_int ly_24 (et_t0 w) (tz_int 8) (by decide) (by decide) (by decide) rfl rfl ?_
  refine kz_putr (q := 24) (pc := 58) hX hin dX6_init_58 ff_209 ly_15 rfl rfl rfl rfl rfl ?_
  refine kz_aload0 (pc := 61) hX dX6_init_61 ?_
  refine kz_bipush (pc := 62) hX dX6_init_62 kb_6 ?_
  refine kz_newa (pc := 64) (t0 := 0) hX dX6_init_64 rfl ta_int ly_25 (et_t0 w) (tz_int 6) (by decide) (by decide) (by decide) rfl rfl ?_
  refine kz_putr (q := 25) (pc := 66) hX hin dX6_init_66 ff_223 ly_15 rfl rfl rfl rfl rfl ?_
  refine kz_aload0 (pc := 69) hX dX6_init_69 ?_
  refine kz_bipush (pc := 70) hX dX6_init_70 kb_6 ?_
  refine kz_newa (pc := 72) (t0 := 0) hX dX6_init_72 rfl ta_int ly_26 (et_t0 w) (tz_int 6) (by decide) (by decide) (by decide) rfl rfl ?_
  refine kz_putr (q := 26) (pc := 74) hX hin dX6_init_74 ff_225 ly_15 rfl rfl rfl rfl rfl ?_
  refine kz_aload0 (pc := 77) hX dX6_init_77 ?_
  refine kz_bipush (pc := 78) hX dX6_init_78 kb_10 ?_
  refine kz_newa (pc := 80) (t0 := 0) hX dX6_init_80 rfl ta_int ly_27 (et_t0 w) (tz_int 10) (by decide) (by decide) (by decide) rfl rfl ?_
  refine kz_putr (q := 27) (pc := 82) hX hin dX6_init_82 ff_228 ly_15 rfl rfl rfl rfl rfl ?_
  exact kz_ret (pc := 85) hX dX6_init_85 rfl rfl)
theorem ff_494 : et_FF RX9 20 9 3 (.object "EndingTown$Town") := ⟨TX9, 18, tyX9, rfl, by decide, iw_9, et_mt 494 (by decide +kernel) rfl, tyX9_ok, nmX9, rfl, rfl, rfl⟩
theorem tm_261 : Cond.classLink RX9 23 RX4 ∈ et_tb := et_mt 261 (by decide +kernel) rfl
theorem ti_4 : Cond.instantiable RX4 11 ∈ et_tb ∧ Cond.initialized RX4 ∈ et_tb := ⟨et_mt 262 (by decide +kernel) rfl, et_mt 115 (by decide +kernel) rfl⟩
theorem df_4_28 : ∀ j, j < 11 → defaultValue (tyX4 j) = vp_V (([3, 0, 0, 0, 0, 0, 0, 0, 0, 0, 0] : List Nat).map (fun q => match q with | 0 => Value.int 0 | 1 => Value.long 0 | _ => Value.null)) j := by decide +kernel
theorem dX4_init_0 : decode cX4_init 0 = .ok (.aload_n 0, 1) := by decide +kernel
theorem dX4_init_1 : decode cX4_init 1 = .ok (.invokespecial 3, 3) := by decide +kernel
theorem dX4_init_4 : decode cX4_init 4 = .ok (.aload_n 0, 1) := by decide +kernel
theorem dX4_init_5 : decode cX4_init 5 = .ok (.iconst (-1), 1) := by decide +kernel
theorem dX4_init_6 : decode cX4_init 6 = .ok (.putfield 9, 3) := by decide +kernel
theorem dX4_init_9 : decode cX4_init 9 = .ok (.aload_n 0, 1) := by decide +kernel
theorem dX4_init_10 : decode cX4_init 10 = .ok (.aload_n 1, 1) := by decide +kernel
theorem dX4_init_11 : decode cX4_init 11 = .ok (.putfield 15, 3) := by decide +kernel
theorem dX4_init_14 : decode cX4_init 14 = .ok (.return_, 1) := by decide +kernel
theorem tm_266 : Cond.methodLink RX4 3 Lib.objectInit ∈ et_tb := et_mt 266 (by decide +kernel) rfl
theorem ff_267 : et_FF RX4 15 4 0 (.array .byte) := ⟨TX4, 11, tyX4, rfl, by decide, iw_4, et_mt 267 (by decide +kernel) rfl, tyX4_ok, nmX4, rfl, rfl, rfl⟩
def kd_Re_28 (c : et_P) : et_P := et_ps (et_ps c 28 10 (-1)) 28 500 1
def rk_Re_28 : Room := { frames := 1, cells := 0, slots := 0, locals := 12 }
theorem kc_Re_28 {w : et_W} (hw : et_Sane w) (c : et_P) : et_KC w yX4_init (Cond.code yX4_init cX4_init 2 none) rk_Re_28 [.ref (et_ad w 28), .ref (et_ad w 1)] c 29 (kd_Re_28 c) 29 := et_kmk (lv0 := [some (.ref (et_ad w 28)), some (.ref (et_ad w 1))]) hw (by decide) rfl rfl rfl (fun h => et_fr_up (n := 29) (et_fr_p (n := 29) rfl (et_fr_up (n := 29) (et_fr_p (n := 29) rfl (et_fr_up (n := 29) (h) rfl)) rfl)) rfl) (fun X hX hin => by
  refine kz_aload0 (pc := 0) hX dX4_init_0 ?_
  refine kz_obj (pc := 1) hX dX4_init_1 tm_266 rfl rfl ?_
  refine kz_aload0 (pc := 4) hX dX4_init_4 ?_
  refine kz_iconst (pc := 5) hX dX4_init_5 ki_m1 ?_
  refine kz_puti (pc := 6) hX dX4_init_6 fl_277 ly_28 rfl rfl rfl ?_
  refine kz_aload0 (pc := 9) hX dX4_init_9 ?_
  refine kz_aload1 (pc := 10) hX dX4_init_10 ?_
  refine kz_putr (q := 1) (pc := 11) hX hin dX4_init_11 ff_267 ly_28 rfl rfl rfl rfl rfl ?_
  exact kz_ret (pc := 14) hX dX4_init_14 rfl rfl)
theorem md_X4_init : et_MD yX4_init cX4_init 2 none 1 := ⟨et_mt 265 (by decide +kernel) rfl, et_mt 115 (by decide +kernel) rfl, ⟨by decide, by decide⟩, fun sig h => by have h2 : (parseMethodDescriptor (yX4_init).desc).map (fun d => d.parameters.length) = some 1 := (by decide +kernel); rw [h] at h2; exact (Option.some.inj h2).symm⟩
theorem mo_X4_init : Cond.instanceMethod yX4_init ∈ et_tb := et_mt 264 (by decide +kernel) rfl
theorem tm_263 : Cond.methodLink RX9 25 yX4_init ∈ et_tb := et_mt 263 (by decide +kernel) rfl
theorem ff_495 : et_FF RX9 28 9 4 (.object "EndingTown$Reader") := ⟨TX9, 18, tyX9, rfl, by decide, iw_9, et_mt 495 (by decide +kernel) rfl, tyX9_ok, nmX9, rfl, rfl, rfl⟩
theorem tm_302 : Cond.classLink RX9 32 RX8 ∈ et_tb := et_mt 302 (by decide +kernel) rfl
theorem ti_8 : Cond.instantiable RX8 2 ∈ et_tb ∧ Cond.initialized RX8 ∈ et_tb := ⟨et_mt 303 (by decide +kernel) rfl, et_mt 116 (by decide +kernel) rfl⟩
theorem df_8_29 : ∀ j, j < 2 → defaultValue (tyX8 j) = vp_V (([32, 0] : List Nat).map (fun q => match q with | 0 => Value.int 0 | 1 => Value.long 0 | _ => Value.null)) j := by decide +kernel
theorem dX8_init_0 : decode cX8_init 0 = .ok (.aload_n 0, 1) := by decide +kernel
theorem dX8_init_1 : decode cX8_init 1 = .ok (.invokespecial 3, 3) := by decide +kernel
theorem dX8_init_4 : decode cX8_init 4 = .ok (.aload_n 0, 1) := by decide +kernel
theorem dX8_init_5 : decode cX8_init 5 = .ok (.sipush 180, 3) := by decide +kernel
theorem dX8_init_8 : decode cX8_init 8 = .ok (.newarray .int, 2) := by decide +kernel
theorem dX8_init_10 : decode cX8_init 10 = .ok (.putfield 9, 3) := by decide +kernel
theorem dX8_init_13 : decode cX8_init 13 = .ok (.return_, 1) := by decide +kernel
theorem tm_307 : Cond.methodLink RX8 3 Lib.objectInit ∈ et_tb := et_mt 307 (by decide +kernel) rfl
theorem ks_180 : (Int16.ofInt 180).toInt32 = 180 := by decide
theorem ff_308 : et_FF RX8 9 8 0 (.array .int) := ⟨TX8, 2, tyX8, rfl, by decide, iw_8, et_mt 308 (by decide +kernel) rfl, tyX8_ok, nmX8, rfl, rfl, rfl⟩
def kd_Wa_29 (c : et_P) : et_P := et_ps c 29 500 1
def rk_Wa_29 : Room := { frames := 1, cells := 1, slots := 180, locals := 12 }
theorem kc_Wa_29 {w : et_W} (hw : et_Sane w) (c : et_P) : et_KC w yX8_init (Cond.code yX8_init cX8_init 1 none) rk_Wa_29 [.ref (et_ad w 29)] c 30 (kd_Wa_29 c) 31 := et_kmk (lv0 := [some (.ref (et_ad w 29))]) hw (by decide) rfl rfl rfl (fun h => et_fr_up (n := 30) (et_fr_p (n := 30) rfl (et_fr_up (n := 30) (h) rfl)) rfl) (fun X hX hin => by
  refine kz_aload0 (pc := 0) hX dX8_init_0 ?_
  refine kz_obj (pc := 1) hX dX8_init_1 tm_307 rfl rfl ?_
  refine kz_aload0 (pc := 4) hX dX8_init_4 ?_
  refine kz_sipush (pc := 5) hX dX8_init_5 ks_180 ?_
  refine kz_newa (pc := 8) (t0 := 0) hX dX8_init_8 rfl ta_int ly_30 (et_t0 w) (tz_int 180) (by decide) (by decide) (by decide) rfl rfl ?_
  refine kz_putr (q := 30) (pc := 10) hX hin dX8_init_10 ff_308 ly_29 rfl rfl rfl rfl rfl ?_
  exact kz_ret (pc := 13) hX dX8_init_13 rfl rfl)
theorem md_X8_init : et_MD yX8_init cX8_init 1 none 0 := ⟨et_mt 306 (by decide +kernel) rfl, et_mt 116 (by decide +kernel) rfl, ⟨by decide, by decide⟩, fun sig h => by have h2 : (parseMethodDescriptor (yX8_init).desc).map (fun d => d.parameters.length) = some 0 := (by decide +kernel); rw [h] at h2; exact (Option.some.inj h2).symm⟩
theorem mo_X8_init : Cond.instanceMethod yX8_init ∈ et_tb := et_mt 305 (by decide +kernel) rfl
theorem nl_304 : Cond.methodLinkNest RX9 34 yX8_init "EndingTown" ∈ lw_tbl := List.mem_of_getElem? (i := 304) (by decide +kernel)
theorem ff_496 : et_FF RX9 35 9 5 (.object "EndingTown$Ways") := ⟨TX9, 18, tyX9, rfl, by decide, iw_9, et_mt 496 (by decide +kernel) rfl, tyX9_ok, nmX9, rfl, rfl, rfl⟩
theorem tm_319 : Cond.classLink RX9 39 RX7 ∈ et_tb := et_mt 319 (by decide +kernel) rfl
theorem ti_7 : Cond.instantiable RX7 7 ∈ et_tb ∧ Cond.initialized RX7 ∈ et_tb := ⟨et_mt 320 (by decide +kernel) rfl, et_mt 117 (by decide +kernel) rfl⟩
theorem df_7_31 : ∀ j, j < 7 → defaultValue (tyX7 j) = vp_V (([3, 34, 0, 0, 0, 0, 0] : List Nat).map (fun q => match q with | 0 => Value.int 0 | 1 => Value.long 0 | _ => Value.null)) j := by decide +kernel
theorem dX7_init_0 : decode cX7_init 0 = .ok (.aload_n 0, 1) := by decide +kernel
theorem dX7_init_1 : decode cX7_init 1 = .ok (.invokespecial 3, 3) := by decide +kernel
theorem dX7_init_4 : decode cX7_init 4 = .ok (.aload_n 0, 1) := by decide +kernel
theorem dX7_init_5 : decode cX7_init 5 = .ok (.new 9, 3) := by decide +kernel
theorem dX7_init_8 : decode cX7_init 8 = .ok (.dup, 1) := by decide +kernel
theorem dX7_init_9 : decode cX7_init 9 = .ok (.invokespecial 11, 3) := by decide +kernel
theorem dX7_init_12 : decode cX7_init 12 = .ok (.putfield 12, 3) := by decide +kernel
theorem dX7_init_15 : decode cX7_init 15 = .ok (.aload_n 0, 1) := by decide +kernel
theorem dX7_init_16 : decode cX7_init 16 = .ok (.aload_n 1, 1) := by decide +kernel
theorem dX7_init_17 : decode cX7_init 17 = .ok (.putfield 18, 3) := by decide +kernel
theorem dX7_init_20 : decode cX7_init 20 = .ok (.return_, 1) := by decide +kernel
theorem tm_324 : Cond.methodLink RX7 3 Lib.objectInit ∈ et_tb := et_mt 324 (by decide +kernel) rfl
theorem tm_325 : Cond.classLink RX7 9 RX8 ∈ et_tb := et_mt 325 (by decide +kernel) rfl
theorem df_8_32 : ∀ j, j < 2 → defaultValue (tyX8 j) = vp_V (([35, 0] : List Nat).map (fun q => match q with | 0 => Value.int 0 | 1 => Value.long 0 | _ => Value.null)) j := by decide +kernel
def kd_Wa_32 (c : et_P) : et_P := et_ps c 32 500 1
def rk_Wa_32 : Room := { frames := 1, cells := 1, slots := 180, locals := 12 }
theorem kc_Wa_32 {w : et_W} (hw : et_Sane w) (c : et_P) : et_KC w yX8_init (Cond.code yX8_init cX8_init 1 none) rk_Wa_32 [.ref (et_ad w 32)] c 33 (kd_Wa_32 c) 34 := et_kmk (lv0 := [some (.ref (et_ad w 32))]) hw (by decide) rfl rfl rfl (fun h => et_fr_up (n := 33) (et_fr_p (n := 33) rfl (et_fr_up (n := 33) (h) rfl)) rfl) (fun X hX hin => by
  refine kz_aload0 (pc := 0) hX dX8_init_0 ?_
  refine kz_obj (pc := 1) hX dX8_init_1 tm_307 rfl rfl ?_
  refine kz_aload0 (pc := 4) hX dX8_init_4 ?_
  refine kz_sipush (pc := 5) hX dX8_init_5 ks_180 ?_
  refine kz_newa (pc := 8) (t0 := 0) hX dX8_init_8 rfl ta_int ly_33 (et_t0 w) (tz_int 180) (by decide) (by decide) (by decide) rfl rfl ?_
  refine kz_putr (q := 33) (pc := 10) hX hin dX8_init_10 ff_308 ly_32 rfl rfl rfl rfl rfl ?_
  exact kz_ret (pc := 13) hX dX8_init_13 rfl rfl)
theorem nl_326 : Cond.methodLinkNest RX7 11 yX8_init "EndingTown" ∈ lw_tbl := List.mem_of_getElem? (i := 326) (by decide +kernel)
theorem ff_328 : et_FF RX7 12 7 1 (.object "EndingTown$Ways") := ⟨TX7, 7, tyX7, rfl, by decide, iw_7, et_mt 328 (by decide +kernel) rfl, tyX7_ok, nmX7, rfl, rfl, rfl⟩
theorem ff_327 : et_FF RX7 18 7 0 (.array .byte) := ⟨TX7, 7, tyX7, rfl, by decide, iw_7, et_mt 327 (by decide +kernel) rfl, tyX7_ok, nmX7, rfl, rfl, rfl⟩
def kd_Ut_31 (c : et_P) : et_P := et_ps (et_ps (kd_Wa_32 (c)) 31 501 1) 31 500 1
def rk_Ut_31 : Room := { frames := 2, cells := 2, slots := 182, locals := 32 }
theorem kc_Ut_31 {w : et_W} (hw : et_Sane w) (c : et_P) : et_KC w yX7_init (Cond.code yX7_init cX7_init 2 none) rk_Ut_31 [.ref (et_ad w 31), .ref (et_ad w 1)] c 32 (kd_Ut_31 c) 34 := et_kmk (lv0 := [some (.ref (et_ad w 31)), some (.ref (et_ad w 1))]) hw (by decide) rfl rfl rfl (fun h => et_fr_up (n := 34) (et_fr_p (n := 34) rfl (et_fr_up (n := 34) (et_fr_p (n := 34) rfl (et_fr_up (n := 34) ((kc_Wa_32 hw _).1 (et_fr_up (n := 32) (h) rfl)) rfl)) rfl)) rfl) (fun X hX hin => by
  refine kz_aload0 (pc := 0) hX dX7_init_0 ?_
  refine kz_obj (pc := 1) hX dX7_init_1 tm_324 rfl rfl ?_
  refine kz_aload0 (pc := 4) hX dX7_init_4 ?_
  refine kz_new (pc := 5) (tyf := tyX8) hX dX7_init_5 RX8 TX8 rfl iw_8 tyX8_ok tm_325 ti_8.1 ti_8.2 ly_32 df_8_32 rfl rfl ?_
  refine kz_dup (pc := 8) hX dX7_init_8 rfl ?_
  refine kz_callN (As := []) (pc := 9) hX dX7_init_9 rfl nl_326 md_X8_init mo_X8_init (kc_Wa_32 hX.sane _) rfl rfl rfl ?_
  refine kz_putr (q := 32) (pc := 12) hX hin dX7_init_12 ff_328 ly_31 rfl rfl rfl rfl rfl ?_
  refine kz_aload0 (pc := 15) hX dX7_init_15 ?_
  refine kz_aload1 (pc := 16) hX dX7_init_16 ?_
  refine kz_putr (q := 1) (pc := 17) hX hin dX7_init_17 ff_327 ly_31 rfl rfl rfl rfl rfl ?_
  exact kz_ret (pc := 20) hX dX7_init_20 rfl rfl)
theorem md_X7_init : et_MD yX7_init cX7_init 2 none 1 := ⟨et_mt 323 (by decide +kernel) rfl, et_mt 117 (by decide +kernel) rfl, ⟨by decide, by decide⟩, fun sig h => by have h2 : (parseMethodDescriptor (yX7_init).desc).map (fun d => d.parameters.length) = some 1 := (by decide +kernel); rw [h] at h2; exact (Option.some.inj h2).symm⟩
theorem mo_X7_init : Cond.instanceMethod yX7_init ∈ et_tb := et_mt 322 (by decide +kernel) rfl
theorem tm_321 : Cond.methodLink RX9 41 yX7_init ∈ et_tb := et_mt 321 (by decide +kernel) rfl
theorem ff_497 : et_FF RX9 42 9 6 (.object "EndingTown$Utterance") := ⟨TX9, 18, tyX9, rfl, by decide, iw_9, et_mt 497 (by decide +kernel) rfl, tyX9_ok, nmX9, rfl, rfl, rfl⟩
theorem tm_352 : Cond.classLink RX9 46 RX1 ∈ et_tb := et_mt 352 (by decide +kernel) rfl
theorem ti_1 : Cond.instantiable RX1 6 ∈ et_tb ∧ Cond.initialized RX1 ∈ et_tb := ⟨et_mt 353 (by decide +kernel) rfl, et_mt 118 (by decide +kernel) rfl⟩
theorem df_1_34 : ∀ j, j < 6 → defaultValue (tyX1 j) = vp_V (([0, 37, 38, 39, 40, 41] : List Nat).map (fun q => match q with | 0 => Value.int 0 | 1 => Value.long 0 | _ => Value.null)) j := by decide +kernel
theorem dX1_init_0 : decode cX1_init 0 = .ok (.aload_n 0, 1) := by decide +kernel
theorem dX1_init_1 : decode cX1_init 1 = .ok (.invokespecial 3, 3) := by decide +kernel
theorem dX1_init_4 : decode cX1_init 4 = .ok (.aload_n 0, 1) := by decide +kernel
theorem dX1_init_5 : decode cX1_init 5 = .ok (.bipush 20, 2) := by decide +kernel
theorem dX1_init_7 : decode cX1_init 7 = .ok (.newarray .int, 2) := by decide +kernel
theorem dX1_init_9 : decode cX1_init 9 = .ok (.putfield 9, 3) := by decide +kernel
theorem dX1_init_12 : decode cX1_init 12 = .ok (.aload_n 0, 1) := by decide +kernel
theorem dX1_init_13 : decode cX1_init 13 = .ok (.bipush 20, 2) := by decide +kernel
theorem dX1_init_15 : decode cX1_init 15 = .ok (.newarray .int, 2) := by decide +kernel
theorem dX1_init_17 : decode cX1_init 17 = .ok (.putfield 15, 3) := by decide +kernel
theorem dX1_init_20 : decode cX1_init 20 = .ok (.aload_n 0, 1) := by decide +kernel
theorem dX1_init_21 : decode cX1_init 21 = .ok (.bipush 20, 2) := by decide +kernel
theorem dX1_init_23 : decode cX1_init 23 = .ok (.newarray .int, 2) := by decide +kernel
theorem dX1_init_25 : decode cX1_init 25 = .ok (.putfield 18, 3) := by decide +kernel
theorem dX1_init_28 : decode cX1_init 28 = .ok (.aload_n 0, 1) := by decide +kernel
theorem dX1_init_29 : decode cX1_init 29 = .ok (.bipush 20, 2) := by decide +kernel
theorem dX1_init_31 : decode cX1_init 31 = .ok (.newarray .int, 2) := by decide +kernel
theorem dX1_init_33 : decode cX1_init 33 = .ok (.putfield 21, 3) := by decide +kernel
theorem dX1_init_36 : decode cX1_init 36 = .ok (.aload_n 0, 1) := by decide +kernel
theorem dX1_init_37 : decode cX1_init 37 = .ok (.bipush 20, 2) := by decide +kernel
theorem dX1_init_39 : decode cX1_init 39 = .ok (.newarray .boolean, 2) := by decide +kernel
theorem dX1_init_41 : decode cX1_init 41 = .ok (.putfield 24, 3) := by decide +kernel
theorem dX1_init_44 : decode cX1_init 44 = .ok (.return_, 1) := by decide +kernel
theorem tm_357 : Cond.methodLink RX1 3 Lib.objectInit ∈ et_tb := et_mt 357 (by decide +kernel) rfl
theorem ff_362 : et_FF RX1 9 1 1 (.array .int) := ⟨TX1, 6, tyX1, rfl, by decide, iw_1, et_mt 362 (by decide +kernel) rfl, tyX1_ok, nmX1, rfl, rfl, rfl⟩
theorem ff_365 : et_FF RX1 15 1 2 (.array .int) := ⟨TX1, 6, tyX1, rfl, by decide, iw_1, et_mt 365 (by decide +kernel) rfl, tyX1_ok, nmX1, rfl, rfl, rfl⟩
theorem ff_368 : et_FF RX1 18 1 3 (.array .int) := ⟨TX1, 6, tyX1, rfl, by decide, iw_1, et_mt 368 (by decide +kernel) rfl, tyX1_ok, nmX1, rfl, rfl, rfl⟩
theorem ff_371 : et_FF RX1 21 1 4 (.array .int) := ⟨TX1, 6, tyX1, rfl, by decide, iw_1, et_mt 371 (by decide +kernel) rfl, tyX1_ok, nmX1, rfl, rfl, rfl⟩
theorem ff_375 : et_FF RX1 24 1 5 (.array .boolean) := ⟨TX1, 6, tyX1, rfl, by decide, iw_1, et_mt 375 (by decide +kernel) rfl, tyX1_ok, nmX1, rfl, rfl, rfl⟩
def kd_Le_34 (c : et_P) : et_P := et_ps (et_ps (et_ps (et_ps (et_ps c 34 501 1) 34 502 1) 34 503 1) 34 504 1) 34 505 1
def rk_Le_34 : Room := { frames := 1, cells := 5, slots := 100, locals := 12 }
theorem kc_Le_34 {w : et_W} (hw : et_Sane w) (c : et_P) : et_KC w yX1_init (Cond.code yX1_init cX1_init 1 none) rk_Le_34 [.ref (et_ad w 34)] c 35 (kd_Le_34 c) 40 := et_kmk (lv0 := [some (.ref (et_ad w 34))]) hw (by decide) rfl rfl rfl (fun h => et_fr_up (n := 35) (et_fr_p (n := 35) rfl (et_fr_up (n := 35) (et_fr_p (n := 35) rfl (et_fr_up (n := 35) (et_fr_p (n := 35) rfl (et_fr_up (n := 35) (et_fr_p (n := 35) rfl (et_fr_up (n := 35) (et_fr_p (n := 35) rfl (et_fr_up (n := 35) (h) rfl)) rfl)) rfl)) rfl)) rfl)) rfl) (fun X hX hin => by
  refine kz_aload0 (pc := 0) hX dX1_init_0 ?_
  refine kz_obj (pc := 1) hX dX1_init_1 tm_357 rfl rfl ?_
  refine kz_aload0 (pc := 4) hX dX1_init_4 ?_
  refine kz_bipush (pc := 5) hX dX1_init_5 kb_20 ?_
  refine kz_newa (pc := 7) (t0 := 0) hX dX1_init_7 rfl ta_int ly_35 (et_t0 w) (tz_int 20) (by decide) (by decide) (by decide) rfl rfl ?_
  refine kz_putr (q := 35) (pc := 9) hX hin dX1_init_9 ff_362 ly_34 rfl rfl rfl rfl rfl ?_
  refine kz_aload0 (pc := 12) hX dX1_init_12 ?_
  refine kz_bipush (pc := 13) hX dX1_init_13 kb_20 ?_
  refine kz_newa (pc := 15) (t0 := 0) hX dX1_init_15 rfl ta_int ly_36 (et_t0 w) (tz_int 20) (by decide) (by decide) (by decide) rfl rfl ?_
  refine kz_putr (q := 36) (pc := 17) hX hin dX1_init_17 ff_365 ly_34 rfl rfl rfl rfl rfl ?_
  refine kz_aload0 (pc := 20) hX dX1_init_20 ?_
  refine kz_bipush (pc := 21) hX dX1_init_21 kb_20 ?_
  refine kz_newa (pc := 23) (t0 := 0) hX dX1_init_23 rfl ta_int ly_37 (et_t0 w) (tz_int 20) (by decide) (by decide) (by decide) rfl rfl ?_
  refine kz_putr (q := 37) (pc := 25) hX hin dX1_init_25 ff_368 ly_34 rfl rfl rfl rfl rfl ?_
  refine kz_aload0 (pc := 28) hX dX1_init_28 ?_
  refine kz_bipush (pc := 29) hX dX1_init_29 kb_20 ?_
  refine kz_newa (pc := 31) (t0 := 0) hX dX1_init_31 rfl ta_int ly_38 (et_t0 w) (tz_int 20) (by decide) (by decide) (by decide) rfl rfl ?_
  refine kz_putr (q := 38) (pc := 33) hX hin dX1_init_33 ff_371 ly_34 rfl rfl rfl rfl rfl ?_
  refine kz_aload0 (pc := 36) hX dX1_init_36 ?_
  refine kz_bipush (pc := 37) hX dX1_init_37 kb_20 ?_
  refine kz_newa (pc := 39) (t0 := 2) hX dX1_init_39 rfl ta_boolean ly_39 (et_t2 w) (tz_boolean 20) (by decide) (by decide) (by decide) rfl rfl ?_
  refine kz_putr (q := 39) (pc := 41) hX hin dX1_init_41 ff_375 ly_34 rfl rfl rfl rfl rfl ?_
  exact kz_ret (pc := 44) hX dX1_init_44 rfl rfl)
theorem md_X1_init : et_MD yX1_init cX1_init 1 none 0 := ⟨et_mt 356 (by decide +kernel) rfl, et_mt 118 (by decide +kernel) rfl, ⟨by decide, by decide⟩, fun sig h => by have h2 : (parseMethodDescriptor (yX1_init).desc).map (fun d => d.parameters.length) = some 0 := (by decide +kernel); rw [h] at h2; exact (Option.some.inj h2).symm⟩
theorem mo_X1_init : Cond.instanceMethod yX1_init ∈ et_tb := et_mt 355 (by decide +kernel) rfl
theorem nl_354 : Cond.methodLinkNest RX9 48 yX1_init "EndingTown" ∈ lw_tbl := List.mem_of_getElem? (i := 354) (by decide +kernel)
theorem ff_498 : et_FF RX9 49 9 7 (.object "EndingTown$Ledger") := ⟨TX9, 18, tyX9, rfl, by decide, iw_9, et_mt 498 (by decide +kernel) rfl, tyX9_ok, nmX9, rfl, rfl, rfl⟩
theorem df_1_40 : ∀ j, j < 6 → defaultValue (tyX1 j) = vp_V (([0, 43, 44, 45, 46, 47] : List Nat).map (fun q => match q with | 0 => Value.int 0 | 1 => Value.long 0 | _ => Value.null)) j := by decide +kernel
def kd_Le_40 (c : et_P) : et_P := et_ps (et_ps (et_ps (et_ps (et_ps c 40 501 1) 40 502 1) 40 503 1) 40 504 1) 40 505 1
def rk_Le_40 : Room := { frames := 1, cells := 5, slots := 100, locals := 12 }
theorem kc_Le_40 {w : et_W} (hw : et_Sane w) (c : et_P) : et_KC w yX1_init (Cond.code yX1_init cX1_init 1 none) rk_Le_40 [.ref (et_ad w 40)] c 41 (kd_Le_40 c) 46 := et_kmk (lv0 := [some (.ref (et_ad w 40))]) hw (by decide) rfl rfl rfl (fun h => et_fr_up (n := 41) (et_fr_p (n := 41) rfl (et_fr_up (n := 41) (et_fr_p (n := 41) rfl (et_fr_up (n := 41) (et_fr_p (n := 41) rfl (et_fr_up (n := 41) (et_fr_p (n := 41) rfl (et_fr_up (n := 41) (et_fr_p (n := 41) rfl (et_fr_up (n := 41) (h) rfl)) rfl)) rfl)) rfl)) rfl)) rfl) (fun X hX hin => by
  refine kz_aload0 (pc := 0) hX dX1_init_0 ?_
  refine kz_obj (pc := 1) hX dX1_init_1 tm_357 rfl rfl ?_
  refine kz_aload0 (pc := 4) hX dX1_init_4 ?_
  refine kz_bipush (pc := 5) hX dX1_init_5 kb_20 ?_
  refine kz_newa (pc := 7) (t0 := 0) hX dX1_init_7 rfl ta_int ly_41 (et_t0 w) (tz_int 20) (by decide) (by decide) (by decide) rfl rfl ?_
  refine kz_putr (q := 41) (pc := 9) hX hin dX1_init_9 ff_362 ly_40 rfl rfl rfl rfl rfl ?_
  refine kz_aload0 (pc := 12) hX dX1_init_12 ?_
  refine kz_bipush (pc := 13) hX dX1_init_13 kb_20 ?_
  refine kz_newa (pc := 15) (t0 := 0) hX dX1_init_15 rfl ta_int ly_42 (et_t0 w) (tz_int 20) (by decide) (by decide) (by decide) rfl rfl ?_
  refine kz_putr (q := 42) (pc := 17) hX hin dX1_init_17 ff_365 ly_40 rfl rfl rfl rfl rfl ?_
  refine kz_aload0 (pc := 20) hX dX1_init_20 ?_
  refine kz_bipush (pc := 21) hX dX1_init_21 kb_20 ?_
  refine kz_newa (pc := 23) (t0 := 0) hX dX1_init_23 rfl ta_int ly_43 (et_t0 w) (tz_int 20) (by decide) (by decide) (by decide) rfl rfl ?_
  refine kz_putr (q := 43) (pc := 25) hX hin dX1_init_25 ff_368 ly_40 rfl rfl rfl rfl rfl ?_
  refine kz_aload0 (pc := 28) hX dX1_init_28 ?_
  refine kz_bipush (pc := 29) hX dX1_init_29 kb_20 ?_
  refine kz_newa (pc := 31) (t0 := 0) hX dX1_init_31 rfl ta_int ly_44 (et_t0 w) (tz_int 20) (by decide) (by decide) (by decide) rfl rfl ?_
  refine kz_putr (q := 44) (pc := 33) hX hin dX1_init_33 ff_371 ly_40 rfl rfl rfl rfl rfl ?_
  refine kz_aload0 (pc := 36) hX dX1_init_36 ?_
  refine kz_bipush (pc := 37) hX dX1_init_37 kb_20 ?_
  refine kz_newa (pc := 39) (t0 := 2) hX dX1_init_39 rfl ta_boolean ly_45 (et_t2 w) (tz_boolean 20) (by decide) (by decide) (by decide) rfl rfl ?_
  refine kz_putr (q := 45) (pc := 41) hX hin dX1_init_41 ff_375 ly_40 rfl rfl rfl rfl rfl ?_
  exact kz_ret (pc := 44) hX dX1_init_44 rfl rfl)
theorem ff_499 : et_FF RX9 53 9 8 (.object "EndingTown$Ledger") := ⟨TX9, 18, tyX9, rfl, by decide, iw_9, et_mt 499 (by decide +kernel) rfl, tyX9_ok, nmX9, rfl, rfl, rfl⟩
theorem tm_392 : Cond.classLink RX9 56 RX3 ∈ et_tb := et_mt 392 (by decide +kernel) rfl
theorem ti_3 : Cond.instantiable RX3 3 ∈ et_tb ∧ Cond.initialized RX3 ∈ et_tb := ⟨et_mt 393 (by decide +kernel) rfl, et_mt 119 (by decide +kernel) rfl⟩
theorem df_3_46 : ∀ j, j < 3 → defaultValue (tyX3 j) = vp_V (([4, 0, 0] : List Nat).map (fun q => match q with | 0 => Value.int 0 | 1 => Value.long 0 | _ => Value.null)) j := by decide +kernel
theorem dX3_init_0 : decode cX3_init 0 = .ok (.aload_n 0, 1) := by decide +kernel
theorem dX3_init_1 : decode cX3_init 1 = .ok (.invokespecial 3, 3) := by decide +kernel
theorem dX3_init_4 : decode cX3_init 4 = .ok (.aload_n 0, 1) := by decide +kernel
theorem dX3_init_5 : decode cX3_init 5 = .ok (.aload_n 1, 1) := by decide +kernel
theorem dX3_init_6 : decode cX3_init 6 = .ok (.putfield 9, 3) := by decide +kernel
theorem dX3_init_9 : decode cX3_init 9 = .ok (.return_, 1) := by decide +kernel
theorem tm_397 : Cond.methodLink RX3 3 Lib.objectInit ∈ et_tb := et_mt 397 (by decide +kernel) rfl
theorem ff_398 : et_FF RX3 9 3 0 (.object "EndingTown$Town") := ⟨TX3, 3, tyX3, rfl, by decide, iw_3, et_mt 398 (by decide +kernel) rfl, tyX3_ok, nmX3, rfl, rfl, rfl⟩
def kd_Mi_46 (c : et_P) : et_P := et_ps c 46 500 1
def rk_Mi_46 : Room := { frames := 1, cells := 0, slots := 0, locals := 12 }
theorem kc_Mi_46 {w : et_W} (hw : et_Sane w) (c : et_P) : et_KC w yX3_init (Cond.code yX3_init cX3_init 2 none) rk_Mi_46 [.ref (et_ad w 46), .ref (et_ad w 2)] c 47 (kd_Mi_46 c) 47 := et_kmk (lv0 := [some (.ref (et_ad w 46)), some (.ref (et_ad w 2))]) hw (by decide) rfl rfl rfl (fun h => et_fr_up (n := 47) (et_fr_p (n := 47) rfl (et_fr_up (n := 47) (h) rfl)) rfl) (fun X hX hin => by
  refine kz_aload0 (pc := 0) hX dX3_init_0 ?_
  refine kz_obj (pc := 1) hX dX3_init_1 tm_397 rfl rfl ?_
  refine kz_aload0 (pc := 4) hX dX3_init_4 ?_
  refine kz_aload1 (pc := 5) hX dX3_init_5 ?_
  refine kz_putr (q := 2) (pc := 6) hX hin dX3_init_6 ff_398 ly_46 rfl rfl rfl rfl rfl ?_
  exact kz_ret (pc := 9) hX dX3_init_9 rfl rfl)
theorem md_X3_init : et_MD yX3_init cX3_init 2 none 1 := ⟨et_mt 396 (by decide +kernel) rfl, et_mt 119 (by decide +kernel) rfl, ⟨by decide, by decide⟩, fun sig h => by have h2 : (parseMethodDescriptor (yX3_init).desc).map (fun d => d.parameters.length) = some 1 := (by decide +kernel); rw [h] at h2; exact (Option.some.inj h2).symm⟩
theorem mo_X3_init : Cond.instanceMethod yX3_init ∈ et_tb := et_mt 395 (by decide +kernel) rfl
theorem tm_394 : Cond.methodLink RX9 58 yX3_init ∈ et_tb := et_mt 394 (by decide +kernel) rfl
theorem ff_500 : et_FF RX9 61 9 9 (.object "EndingTown$Minds") := ⟨TX9, 18, tyX9, rfl, by decide, iw_9, et_mt 500 (by decide +kernel) rfl, tyX9_ok, nmX9, rfl, rfl, rfl⟩
theorem df_3_47 : ∀ j, j < 3 → defaultValue (tyX3 j) = vp_V (([4, 0, 0] : List Nat).map (fun q => match q with | 0 => Value.int 0 | 1 => Value.long 0 | _ => Value.null)) j := by decide +kernel
def kd_Mi_47 (c : et_P) : et_P := et_ps c 47 500 1
def rk_Mi_47 : Room := { frames := 1, cells := 0, slots := 0, locals := 12 }
theorem kc_Mi_47 {w : et_W} (hw : et_Sane w) (c : et_P) : et_KC w yX3_init (Cond.code yX3_init cX3_init 2 none) rk_Mi_47 [.ref (et_ad w 47), .ref (et_ad w 2)] c 48 (kd_Mi_47 c) 48 := et_kmk (lv0 := [some (.ref (et_ad w 47)), some (.ref (et_ad w 2))]) hw (by decide) rfl rfl rfl (fun h => et_fr_up (n := 48) (et_fr_p (n := 48) rfl (et_fr_up (n := 48) (h) rfl)) rfl) (fun X hX hin => by
  refine kz_aload0 (pc := 0) hX dX3_init_0 ?_
  refine kz_obj (pc := 1) hX dX3_init_1 tm_397 rfl rfl ?_
  refine kz_aload0 (pc := 4) hX dX3_init_4 ?_
  refine kz_aload1 (pc := 5) hX dX3_init_5 ?_
  refine kz_putr (q := 2) (pc := 6) hX hin dX3_init_6 ff_398 ly_47 rfl rfl rfl rfl rfl ?_
  exact kz_ret (pc := 9) hX dX3_init_9 rfl rfl)
theorem ff_501 : et_FF RX9 65 9 10 (.object "EndingTown$Minds") := ⟨TX9, 18, tyX9, rfl, by decide, iw_9, et_mt 501 (by decide +kernel) rfl, tyX9_ok, nmX9, rfl, rfl, rfl⟩
theorem tm_409 : Cond.classLink RX9 68 RX0 ∈ et_tb := et_mt 409 (by decide +kernel) rfl
theorem ti_0 : Cond.instantiable RX0 17 ∈ et_tb ∧ Cond.initialized RX0 ∈ et_tb := ⟨et_mt 410 (by decide +kernel) rfl, et_mt 120 (by decide +kernel) rfl⟩
theorem df_0_48 : ∀ j, j < 17 → defaultValue (tyX0 j) = vp_V (([4, 36, 51, 52, 53, 54, 55, 56, 57, 58, 59, 60, 0, 0, 0, 0, 0] : List Nat).map (fun q => match q with | 0 => Value.int 0 | 1 => Value.long 0 | _ => Value.null)) j := by decide +kernel
theorem dX0_init_0 : decode cX0_init 0 = .ok (.aload_n 0, 1) := by decide +kernel
theorem dX0_init_1 : decode cX0_init 1 = .ok (.invokespecial 5, 3) := by decide +kernel
theorem dX0_init_4 : decode cX0_init 4 = .ok (.aload_n 0, 1) := by decide +kernel
theorem dX0_init_5 : decode cX0_init 5 = .ok (.bipush 20, 2) := by decide +kernel
theorem dX0_init_7 : decode cX0_init 7 = .ok (.newarray .int, 2) := by decide +kernel
theorem dX0_init_9 : decode cX0_init 9 = .ok (.putfield 11, 3) := by decide +kernel
theorem dX0_init_12 : decode cX0_init 12 = .ok (.aload_n 0, 1) := by decide +kernel
theorem dX0_init_13 : decode cX0_init 13 = .ok (.bipush 20, 2) := by decide +kernel
theorem dX0_init_15 : decode cX0_init 15 = .ok (.newarray .int, 2) := by decide +kernel
theorem dX0_init_17 : decode cX0_init 17 = .ok (.putfield 15, 3) := by decide +kernel
theorem dX0_init_20 : decode cX0_init 20 = .ok (.aload_n 0, 1) := by decide +kernel
theorem dX0_init_21 : decode cX0_init 21 = .ok (.bipush 20, 2) := by decide +kernel
theorem dX0_init_23 : decode cX0_init 23 = .ok (.newarray .int, 2) := by decide +kernel
theorem dX0_init_25 : decode cX0_init 25 = .ok (.putfield 18, 3) := by decide +kernel
theorem dX0_init_28 : decode cX0_init 28 = .ok (.aload_n 0, 1) := by decide +kernel
theorem dX0_init_29 : decode cX0_init 29 = .ok (.bipush 16, 2) := by decide +kernel
theorem dX0_init_31 : decode cX0_init 31 = .ok (.newarray .int, 2) := by decide +kernel
theorem dX0_init_33 : decode cX0_init 33 = .ok (.putfield 21, 3) := by decide +kernel
theorem dX0_init_36 : decode cX0_init 36 = .ok (.aload_n 0, 1) := by decide +kernel
theorem dX0_init_37 : decode cX0_init 37 = .ok (.bipush 20, 2) := by decide +kernel
theorem dX0_init_39 : decode cX0_init 39 = .ok (.newarray .int, 2) := by decide +kernel
theorem dX0_init_41 : decode cX0_init 41 = .ok (.putfield 24, 3) := by decide +kernel
theorem dX0_init_44 : decode cX0_init 44 = .ok (.aload_n 0, 1) := by decide +kernel
theorem dX0_init_45 : decode cX0_init 45 = .ok (.bipush 20, 2) := by decide +kernel
theorem dX0_init_47 : decode cX0_init 47 = .ok (.newarray .int, 2) := by decide +kernel
theorem dX0_init_49 : decode cX0_init 49 = .ok (.putfield 27, 3) := by decide +kernel
theorem dX0_init_52 : decode cX0_init 52 = .ok (.aload_n 0, 1) := by decide +kernel
theorem dX0_init_53 : decode cX0_init 53 = .ok (.bipush 20, 2) := by decide +kernel
theorem dX0_init_55 : decode cX0_init 55 = .ok (.newarray .int, 2) := by decide +kernel
theorem dX0_init_57 : decode cX0_init 57 = .ok (.putfield 30, 3) := by decide +kernel
theorem dX0_init_60 : decode cX0_init 60 = .ok (.aload_n 0, 1) := by decide +kernel
theorem dX0_init_61 : decode cX0_init 61 = .ok (.bipush 20, 2) := by decide +kernel
theorem dX0_init_63 : decode cX0_init 63 = .ok (.newarray .int, 2) := by decide +kernel
theorem dX0_init_65 : decode cX0_init 65 = .ok (.putfield 33, 3) := by decide +kernel
theorem dX0_init_68 : decode cX0_init 68 = .ok (.aload_n 0, 1) := by decide +kernel
theorem dX0_init_69 : decode cX0_init 69 = .ok (.bipush 20, 2) := by decide +kernel
theorem dX0_init_71 : decode cX0_init 71 = .ok (.newarray .int, 2) := by decide +kernel
theorem dX0_init_73 : decode cX0_init 73 = .ok (.putfield 36, 3) := by decide +kernel
theorem dX0_init_76 : decode cX0_init 76 = .ok (.aload_n 0, 1) := by decide +kernel
theorem dX0_init_77 : decode cX0_init 77 = .ok (.sipush 160, 3) := by decide +kernel
theorem dX0_init_80 : decode cX0_init 80 = .ok (.newarray .int, 2) := by decide +kernel
theorem dX0_init_82 : decode cX0_init 82 = .ok (.putfield 39, 3) := by decide +kernel
theorem dX0_init_85 : decode cX0_init 85 = .ok (.aload_n 0, 1) := by decide +kernel
theorem dX0_init_86 : decode cX0_init 86 = .ok (.aload_n 1, 1) := by decide +kernel
theorem dX0_init_87 : decode cX0_init 87 = .ok (.putfield 42, 3) := by decide +kernel
theorem dX0_init_90 : decode cX0_init 90 = .ok (.aload_n 0, 1) := by decide +kernel
theorem dX0_init_91 : decode cX0_init 91 = .ok (.aload_n 2, 1) := by decide +kernel
theorem dX0_init_92 : decode cX0_init 92 = .ok (.putfield 46, 3) := by decide +kernel
theorem dX0_init_95 : decode cX0_init 95 = .ok (.return_, 1) := by decide +kernel
theorem tm_414 : Cond.methodLink RX0 5 Lib.objectInit ∈ et_tb := et_mt 414 (by decide +kernel) rfl
theorem ff_417 : et_FF RX0 11 0 2 (.array .int) := ⟨TX0, 17, tyX0, rfl, by decide, iw_0, et_mt 417 (by decide +kernel) rfl, tyX0_ok, nmX0, rfl, rfl, rfl⟩
theorem ff_418 : et_FF RX0 15 0 3 (.array .int) := ⟨TX0, 17, tyX0, rfl, by decide, iw_0, et_mt 418 (by decide +kernel) rfl, tyX0_ok, nmX0, rfl, rfl, rfl⟩
theorem ff_419 : et_FF RX0 18 0 4 (.array .int) := ⟨TX0, 17, tyX0, rfl, by decide, iw_0, et_mt 419 (by decide +kernel) rfl, tyX0_ok, nmX0, rfl, rfl, rfl⟩
theorem ff_420 : et_FF RX0 21 0 5 (.array .int) := ⟨TX0, 17, tyX0, rfl, by decide, iw_0, et_mt 420 (by decide +kernel) rfl, tyX0_ok, nmX0, rfl, rfl, rfl⟩
theorem ff_421 : et_FF RX0 24 0 6 (.array .int) := ⟨TX0, 17, tyX0, rfl, by decide, iw_0, et_mt 421 (by decide +kernel) rfl, tyX0_ok, nmX0, rfl, rfl, rfl⟩
theorem ff_422 : et_FF RX0 27 0 7 (.array .int) := ⟨TX0, 17, tyX0, rfl, by decide, iw_0, et_mt 422 (by decide +kernel) rfl, tyX0_ok, nmX0, rfl, rfl, rfl⟩
theorem ff_423 : et_FF RX0 30 0 8 (.array .int) := ⟨TX0, 17, tyX0, rfl, by decide, iw_0, et_mt 423 (by decide +kernel) rfl, tyX0_ok, nmX0, rfl, rfl, rfl⟩
theorem ff_424 : et_FF RX0 33 0 9 (.array .int) := ⟨TX0, 17, tyX0, rfl, by decide, iw_0, et_mt 424 (by decide +kernel) rfl, tyX0_ok, nmX0, rfl, rfl, rfl⟩
theorem ff_426 : et_FF RX0 36 0 10 (.array .int) := ⟨TX0, 17, tyX0, rfl, by decide, iw_0, et_mt 426 (by decide +kernel) rfl, tyX0_ok, nmX0, rfl, rfl, rfl⟩
theorem ks_160 : (Int16.ofInt 160).toInt32 = 160 := by decide
theorem ff_427 : et_FF RX0 39 0 11 (.array .int) := ⟨TX0, 17, tyX0, rfl, by decide, iw_0, et_mt 427 (by decide +kernel) rfl, tyX0_ok, nmX0, rfl, rfl, rfl⟩
theorem ff_415 : et_FF RX0 42 0 0 (.object "EndingTown$Town") := ⟨TX0, 17, tyX0, rfl, by decide, iw_0, et_mt 415 (by decide +kernel) rfl, tyX0_ok, nmX0, rfl, rfl, rfl⟩
theorem ff_416 : et_FF RX0 46 0 1 (.object "EndingTown$Ledger") := ⟨TX0, 17, tyX0, rfl, by decide, iw_0, et_mt 416 (by decide +kernel) rfl, tyX0_ok, nmX0, rfl, rfl, rfl⟩
def kd_Gr_48 (c : et_P) : et_P := et_ps (et_ps (et_ps (et_ps (et_ps (et_ps (et_ps (et_ps (et_ps (et_ps (et_ps (et_ps c 48 502 1) 48 503 1) 48 504 1) 48 505 1) 48 506 1) 48 507 1) 48 508 1) 48 509 1) 48 510 1) 48 511 1) 48 500 1) 48 501 1
def rk_Gr_48 : Room := { frames := 1, cells := 10, slots := 336, locals := 12 }
theorem kc_Gr_48 {w : et_W} (hw : et_Sane w) (c : et_P) : et_KC w yX0_init (Cond.code yX0_init cX0_init 3 none) rk_Gr_48 [.ref (et_ad w 48), .ref (et_ad w 2), .ref (et_ad w 34)] c 49 (kd_Gr_48 c) 59 := et_kmk (lv0 := [some (.ref (et_ad w 48)), some (.ref (et_ad w 2)), some (.ref (et_ad w 34))]) hw (by decide) rfl rfl rfl (fun h => et_fr_up (n := 49) (et_fr_p (n := 49) rfl (et_fr_up (n := 49) (et_fr_p (n := 49) rfl (et_fr_up (n := 49) (et_fr_p (n := 49) rfl (et_fr_up (n := 49) (et_fr_p (n := 49) rfl (et_fr_up (n := 49) (et_fr_p (n := 49) rfl (et_fr_up (n := 49) (et_fr_p (n := 49) rfl (et_fr_up (n := 49) (et_fr_p (n := 49) rfl (et_fr_up (n := 49) (et_fr_p (n := 49) rfl (et_fr_up (n := 49) (et_fr_p (n := 49) rfl (et_fr_up (n := 49) (et_fr_p (n := 49) rfl (et_fr_up (n := 49) (et_fr_p (n := 49) rfl (et_fr_up (n := 49) (et_fr_p (n := 49) rfl (et_fr_up (n := 49) (h) rfl)) rfl)) rfl)) rfl)) rfl)) rfl)) rfl)) rfl)) rfl)) rfl)) rfl)) rfl)) rfl) (fun X hX hin => by
  refine kz_aload0 (pc := 0) hX dX0_init_0 ?_
  refine kz_obj (pc := 1) hX dX0_init_1 tm_414 rfl rfl ?_
  refine kz_aload0 (pc := 4) hX dX0_init_4 ?_
  refine kz_bipush (pc := 5) hX dX0_init_5 kb_20 ?_
  refine kz_newa (pc := 7) (t0 := 0) hX dX0_init_7 rfl ta_int ly_49 (et_t0 w) (tz_int 20) (by decide) (by decide) (by decide) rfl rfl ?_
  refine kz_putr (q := 49) (pc := 9) hX hin dX0_init_9 ff_417 ly_48 rfl rfl rfl rfl rfl ?_
  refine kz_aload0 (pc := 12) hX dX0_init_12 ?_
  refine kz_bipush (pc := 13) hX dX0_init_13 kb_20 ?_
  refine kz_newa (pc := 15) (t0 := 0) hX dX0_init_15 rfl ta_int ly_50 (et_t0 w) (tz_int 20) (by decide) (by decide) (by decide) rfl rfl ?_
  refine kz_putr (q := 50) (pc := 17) hX hin dX0_init_17 ff_418 ly_48 rfl rfl rfl rfl rfl ?_
  refine kz_aload0 (pc := 20) hX dX0_init_20 ?_
  refine kz_bipush (pc := 21) hX dX0_init_21 kb_20 ?_
  refine kz_newa (pc := 23) (t0 := 0) hX dX0_init_23 rfl ta_int ly_51 (et_t0 w) (tz_int 20) (by decide) (by decide) (by decide) rfl rfl ?_
  refine kz_putr (q := 51) (pc := 25) hX hin dX0_init_25 ff_419 ly_48 rfl rfl rfl rfl rfl ?_
  refine kz_aload0 (pc := 28) hX dX0_init_28 ?_
  refine kz_bipush (pc := 29) hX dX0_init_29 kb_16 ?_
  refine kz_newa (pc := 31) (t0 := 0) hX dX0_init_31 rfl ta_int ly_52 (et_t0 w) (tz_int 16) (by decide) (by decide) (by decide) rfl rfl ?_
  refine kz_putr (q := 52) (pc := 33) hX hin dX0_init_33 ff_420 ly_48 rfl rfl rfl rfl rfl ?_
  refine kz_aload0 (pc := 36) hX dX0_init_36 ?_
  refine kz_bipush (pc := 37) hX dX0_init_37 kb_20 ?_
  refine kz_newa (pc := 39) (t0 := 0) hX dX0_init_39 rfl ta_int ly_53 (et_t0 w) (tz_int 20) (by decide) (by decide) (by decide) rfl rfl ?_
  refine kz_putr (q := 53) (pc := 41) hX hin dX0_init_41 ff_421 ly_48 rfl rfl rfl rfl rfl ?_
  refine kz_aload0 (pc := 44) hX dX0_init_44 ?_
  refine kz_bipush (pc := 45) hX dX0_init_45 kb_20 ?_
  refine kz_newa (pc := 47) (t0 := 0) hX dX0_init_47 rfl ta_int ly_54 (et_t0 w) (tz_int 20) (by decide) (by decide) (by decide) rfl rfl ?_
  refine kz_putr (q := 54) (pc := 49) hX hin dX0_init_49 ff_422 ly_48 rfl rfl rfl rfl rfl ?_
  refine kz_aload0 (pc := 52) hX dX0_init_52 ?_
  refine kz_bipush (pc := 53) hX dX0_init_53 kb_20 ?_
  refine kz_newa (pc := 55) (t0 := 0) hX dX0_init_55 rfl ta_int ly_55 (et_t0 w) (tz_int 20) (by decide) (by decide) (by decide) rfl rfl ?_
  refine kz_putr (q := 55) (pc := 57) hX hin dX0_init_57 ff_423 ly_48 rfl rfl rfl rfl rfl ?_
  refine kz_aload0 (pc := 60) hX dX0_init_60 ?_
  refine kz_bipush (pc := 61) hX dX0_init_61 kb_20 ?_
  refine kz_newa (pc := 63) (t0 := 0) hX dX0_init_63 rfl ta_int ly_56 (et_t0 w) (tz_int 20) (by decide) (by decide) (by decide) rfl rfl ?_
  refine kz_putr (q := 56) (pc := 65) hX hin dX0_init_65 ff_424 ly_48 rfl rfl rfl rfl rfl ?_
  refine kz_aload0 (pc := 68) hX dX0_init_68 ?_
  refine kz_bipush (pc := 69) hX dX0_init_69 kb_20 ?_
  refine kz_newa (pc := 71) (t0 := 0) hX dX0_init_71 rfl ta_int ly_57 (et_t0 w) (tz_int 20) (by decide) (by decide) (by decide) rfl rfl ?_
  refine kz_putr (q := 57) (pc := 73) hX hin dX0_init_73 ff_426 ly_48 rfl rfl rfl rfl rfl ?_
  refine kz_aload0 (pc := 76) hX dX0_init_76 ?_
  refine kz_sipush (pc := 77) hX dX0_init_77 ks_160 ?_
  refine kz_newa (pc := 80) (t0 := 0) hX dX0_init_80 rfl ta_int ly_58 (et_t0 w) (tz_int 160) (by decide) (by decide) (by decide) rfl rfl ?_
  refine kz_putr (q := 58) (pc := 82) hX hin dX0_init_82 ff_427 ly_48 rfl rfl rfl rfl rfl ?_
  refine kz_aload0 (pc := 85) hX dX0_init_85 ?_
  refine kz_aload1 (pc := 86) hX dX0_init_86 ?_
  refine kz_putr (q := 2) (pc := 87) hX hin dX0_init_87 ff_415 ly_48 rfl rfl rfl rfl rfl ?_
  refine kz_aload0 (pc := 90) hX dX0_init_90 ?_
  refine kz_aload2 (pc := 91) hX dX0_init_91 ?_
  refine kz_putr (q := 34) (pc := 92) hX hin dX0_init_92 ff_416 ly_48 rfl rfl rfl rfl rfl ?_
  exact kz_ret (pc := 95) hX dX0_init_95 rfl rfl)
theorem md_X0_init : et_MD yX0_init cX0_init 3 none 2 := ⟨et_mt 413 (by decide +kernel) rfl, et_mt 120 (by decide +kernel) rfl, ⟨by decide, by decide⟩, fun sig h => by have h2 : (parseMethodDescriptor (yX0_init).desc).map (fun d => d.parameters.length) = some 2 := (by decide +kernel); rw [h] at h2; exact (Option.some.inj h2).symm⟩
theorem mo_X0_init : Cond.instanceMethod yX0_init ∈ et_tb := et_mt 412 (by decide +kernel) rfl
theorem tm_411 : Cond.methodLink RX9 70 yX0_init ∈ et_tb := et_mt 411 (by decide +kernel) rfl
theorem ff_503 : et_FF RX9 73 9 12 (.object "EndingTown$Ground") := ⟨TX9, 18, tyX9, rfl, by decide, iw_9, et_mt 503 (by decide +kernel) rfl, tyX9_ok, nmX9, rfl, rfl, rfl⟩
theorem tm_470 : Cond.classLink RX9 77 RX2 ∈ et_tb := et_mt 470 (by decide +kernel) rfl
theorem ti_2 : Cond.instantiable RX2 4 ∈ et_tb ∧ Cond.initialized RX2 ∈ et_tb := ⟨et_mt 471 (by decide +kernel) rfl, et_mt 121 (by decide +kernel) rfl⟩
theorem df_2_59 : ∀ j, j < 4 → defaultValue (tyX2 j) = vp_V (([50, 36, 62, 0] : List Nat).map (fun q => match q with | 0 => Value.int 0 | 1 => Value.long 0 | _ => Value.null)) j := by decide +kernel
theorem dX2_init_0 : decode cX2_init 0 = .ok (.aload_n 0, 1) := by decide +kernel
theorem dX2_init_1 : decode cX2_init 1 = .ok (.invokespecial 3, 3) := by decide +kernel
theorem dX2_init_4 : decode cX2_init 4 = .ok (.aload_n 0, 1) := by decide +kernel
theorem dX2_init_5 : decode cX2_init 5 = .ok (.bipush 12, 2) := by decide +kernel
theorem dX2_init_7 : decode cX2_init 7 = .ok (.newarray .int, 2) := by decide +kernel
theorem dX2_init_9 : decode cX2_init 9 = .ok (.putfield 9, 3) := by decide +kernel
theorem dX2_init_12 : decode cX2_init 12 = .ok (.aload_n 0, 1) := by decide +kernel
theorem dX2_init_13 : decode cX2_init 13 = .ok (.iconst (-1), 1) := by decide +kernel
theorem dX2_init_14 : decode cX2_init 14 = .ok (.putfield 15, 3) := by decide +kernel
theorem dX2_init_17 : decode cX2_init 17 = .ok (.aload_n 0, 1) := by decide +kernel
theorem dX2_init_18 : decode cX2_init 18 = .ok (.aload_n 1, 1) := by decide +kernel
theorem dX2_init_19 : decode cX2_init 19 = .ok (.putfield 19, 3) := by decide +kernel
theorem dX2_init_22 : decode cX2_init 22 = .ok (.aload_n 0, 1) := by decide +kernel
theorem dX2_init_23 : decode cX2_init 23 = .ok (.aload_n 2, 1) := by decide +kernel
theorem dX2_init_24 : decode cX2_init 24 = .ok (.putfield 23, 3) := by decide +kernel
theorem dX2_init_27 : decode cX2_init 27 = .ok (.return_, 1) := by decide +kernel
theorem tm_475 : Cond.methodLink RX2 3 Lib.objectInit ∈ et_tb := et_mt 475 (by decide +kernel) rfl
theorem ff_478 : et_FF RX2 9 2 2 (.array .int) := ⟨TX2, 4, tyX2, rfl, by decide, iw_2, et_mt 478 (by decide +kernel) rfl, tyX2_ok, nmX2, rfl, rfl, rfl⟩
theorem ff_476 : et_FF RX2 19 2 0 (.object "EndingTown$Ground") := ⟨TX2, 4, tyX2, rfl, by decide, iw_2, et_mt 476 (by decide +kernel) rfl, tyX2_ok, nmX2, rfl, rfl, rfl⟩
theorem ff_477 : et_FF RX2 23 2 1 (.object "EndingTown$Ledger") := ⟨TX2, 4, tyX2, rfl, by decide, iw_2, et_mt 477 (by decide +kernel) rfl, tyX2_ok, nmX2, rfl, rfl, rfl⟩
def kd_Me_59 (c : et_P) : et_P := et_ps (et_ps (et_ps (et_ps c 59 502 1) 59 3 (-1)) 59 500 1) 59 501 1
def rk_Me_59 : Room := { frames := 1, cells := 1, slots := 12, locals := 12 }
theorem kc_Me_59 {w : et_W} (hw : et_Sane w) (c : et_P) : et_KC w yX2_init (Cond.code yX2_init cX2_init 3 none) rk_Me_59 [.ref (et_ad w 59), .ref (et_ad w 48), .ref (et_ad w 34)] c 60 (kd_Me_59 c) 61 := et_kmk (lv0 := [some (.ref (et_ad w 59)), some (.ref (et_ad w 48)), some (.ref (et_ad w 34))]) hw (by decide) rfl rfl rfl (fun h => et_fr_up (n := 60) (et_fr_p (n := 60) rfl (et_fr_up (n := 60) (et_fr_p (n := 60) rfl (et_fr_up (n := 60) (et_fr_p (n := 60) rfl (et_fr_up (n := 60) (et_fr_p (n := 60) rfl (et_fr_up (n := 60) (h) rfl)) rfl)) rfl)) rfl)) rfl) (fun X hX hin => by
  refine kz_aload0 (pc := 0) hX dX2_init_0 ?_
  refine kz_obj (pc := 1) hX dX2_init_1 tm_475 rfl rfl ?_
  refine kz_aload0 (pc := 4) hX dX2_init_4 ?_
  refine kz_bipush (pc := 5) hX dX2_init_5 kb_12 ?_
  refine kz_newa (pc := 7) (t0 := 0) hX dX2_init_7 rfl ta_int ly_60 (et_t0 w) (tz_int 12) (by decide) (by decide) (by decide) rfl rfl ?_
  refine kz_putr (q := 60) (pc := 9) hX hin dX2_init_9 ff_478 ly_59 rfl rfl rfl rfl rfl ?_
  refine kz_aload0 (pc := 12) hX dX2_init_12 ?_
  refine kz_iconst (pc := 13) hX dX2_init_13 ki_m1 ?_
  refine kz_puti (pc := 14) hX dX2_init_14 fl_480 ly_59 rfl rfl rfl ?_
  refine kz_aload0 (pc := 17) hX dX2_init_17 ?_
  refine kz_aload1 (pc := 18) hX dX2_init_18 ?_
  refine kz_putr (q := 48) (pc := 19) hX hin dX2_init_19 ff_476 ly_59 rfl rfl rfl rfl rfl ?_
  refine kz_aload0 (pc := 22) hX dX2_init_22 ?_
  refine kz_aload2 (pc := 23) hX dX2_init_23 ?_
  refine kz_putr (q := 34) (pc := 24) hX hin dX2_init_24 ff_477 ly_59 rfl rfl rfl rfl rfl ?_
  exact kz_ret (pc := 27) hX dX2_init_27 rfl rfl)
theorem md_X2_init : et_MD yX2_init cX2_init 3 none 2 := ⟨et_mt 474 (by decide +kernel) rfl, et_mt 121 (by decide +kernel) rfl, ⟨by decide, by decide⟩, fun sig h => by have h2 : (parseMethodDescriptor (yX2_init).desc).map (fun d => d.parameters.length) = some 2 := (by decide +kernel); rw [h] at h2; exact (Option.some.inj h2).symm⟩
theorem mo_X2_init : Cond.instanceMethod yX2_init ∈ et_tb := et_mt 473 (by decide +kernel) rfl
theorem tm_472 : Cond.methodLink RX9 79 yX2_init ∈ et_tb := et_mt 472 (by decide +kernel) rfl
theorem ff_504 : et_FF RX9 82 9 13 (.object "EndingTown$Mender") := ⟨TX9, 18, tyX9, rfl, by decide, iw_9, et_mt 504 (by decide +kernel) rfl, tyX9_ok, nmX9, rfl, rfl, rfl⟩
def kd_Et_0 (c : et_P) : et_P := et_ps (et_ps (kd_Me_59 (et_ps (kd_Gr_48 (et_ps (kd_Mi_47 (et_ps (kd_Mi_46 (et_ps (kd_Le_40 (et_ps (kd_Le_34 (et_ps (kd_Ut_31 (et_ps (kd_Wa_29 (et_ps (kd_Re_28 (et_ps (kd_Tw_15 (et_ps (kd_Tw_2 (et_ps c 0 500 1)) 0 502 1)) 0 503 1)) 0 504 1)) 0 505 1)) 0 506 1)) 0 507 1)) 0 508 1)) 0 509 1)) 0 510 1)) 0 512 1)) 0 513 1) 0 14 (-1)
def rk_Et_0 : Room := { frames := 3, cells := 60, slots := 3079, locals := 53 }
theorem kc_Et_0 {w : et_W} (hw : et_Sane w) (c : et_P) : et_KC w yX9_init (Cond.code yX9_init cX9_init 1 none) rk_Et_0 [.ref (et_ad w 0)] c 1 (kd_Et_0 c) 61 := et_kmk (lv0 := [some (.ref (et_ad w 0))]) hw (by decide) rfl rfl rfl (fun h => et_fr_up (n := 61) (et_fr_p (n := 61) rfl (et_fr_up (n := 61) (et_fr_p (n := 61) rfl (et_fr_up (n := 61) ((kc_Me_59 hw _).1 (et_fr_up (n := 59) (et_fr_p (n := 59) rfl (et_fr_up (n := 59) ((kc_Gr_48 hw _).1 (et_fr_up (n := 48) (et_fr_p (n := 48) rfl (et_fr_up (n := 48) ((kc_Mi_47 hw _).1 (et_fr_up (n := 47) (et_fr_p (n := 47) rfl (et_fr_up (n := 47) ((kc_Mi_46 hw _).1 (et_fr_up (n := 46) (et_fr_p (n := 46) rfl (et_fr_up (n := 46) ((kc_Le_40 hw _).1 (et_fr_up (n := 40) (et_fr_p (n := 40) rfl (et_fr_up (n := 40) ((kc_Le_34 hw _).1 (et_fr_up (n := 34) (et_fr_p (n := 34) rfl (et_fr_up (n := 34) ((kc_Ut_31 hw _).1 (et_fr_up (n := 31) (et_fr_p (n := 31) rfl (et_fr_up (n := 31) ((kc_Wa_29 hw _).1 (et_fr_up (n := 29) (et_fr_p (n := 29) rfl (et_fr_up (n := 29) ((kc_Re_28 hw _).1 (et_fr_up (n := 28) (et_fr_p (n := 28) rfl (et_fr_up (n := 28) ((kc_Tw_15 hw _).1 (et_fr_up (n := 15) (et_fr_p (n := 15) rfl (et_fr_up (n := 15) ((kc_Tw_2 hw _).1 (et_fr_up (n := 1) (et_fr_p (n := 1) rfl (et_fr_up (n := 1) (h) rfl)) rfl)) rfl)) rfl)) rfl)) rfl)) rfl)) rfl)) rfl)) rfl)) rfl)) rfl)) rfl)) rfl)) rfl)) rfl)) rfl)) rfl)) rfl)) rfl)) rfl)) rfl)) rfl)) rfl)) rfl) (fun X hX hin => by
  refine kz_aload0 (pc := 0) hX dX9_init_0 ?_
  refine kz_obj (pc := 1) hX dX9_init_1 tm_141 rfl rfl ?_
  refine kz_aload0 (pc := 4) hX dX9_init_4 ?_
  refine kz_sipush (pc := 5) hX dX9_init_5 ks_800 ?_
  refine kz_newa (pc := 8) (t0 := 1) hX dX9_init_8 rfl ta_byte ly_1 (et_t1 w) (tz_byte 800) (by decide) (by decide) (by decide) rfl rfl ?_
  refine kz_putr (q := 1) (pc := 10) hX hin dX9_init_10 ff_491 ly_0 rfl rfl rfl rfl rfl ?_
  refine kz_aload0 (pc := 13) hX dX9_init_13 ?_
  refine kz_new (pc := 14) (tyf := tyX6) hX dX9_init_14 RX6 TX6 rfl iw_6 tyX6_ok tm_144 ti_6.1 ti_6.2 ly_2 df_6_2 rfl rfl ?_
  refine kz_dup (pc := 17) hX dX9_init_17 rfl ?_
  refine kz_callN (As := []) (pc := 18) hX dX9_init_18 rfl nl_146 md_X6_init mo_X6_init (kc_Tw_2 hX.sane _) rfl rfl rfl ?_
  refine kz_putr (q := 2) (pc := 21) hX hin dX9_init_21 ff_493 ly_0 rfl rfl rfl rfl rfl ?_
  refine kz_aload0 (pc := 24) hX dX9_init_24 ?_
  refine kz_new (pc := 25) (tyf := tyX6) hX dX9_init_25 RX6 TX6 rfl iw_6 tyX6_ok tm_144 ti_6.1 ti_6.2 ly_15 df_6_15 rfl rfl ?_
  refine kz_dup (pc := 28) hX dX9_init_28 rfl ?_
  refine kz_callN (As := []) (pc := 29) hX dX9_init_29 rfl nl_146 md_X6_init mo_X6_init (kc_Tw_15 hX.sane _) rfl rfl rfl ?_
  refine kz_putr (q := 15) (pc := 32) hX hin dX9_init_32 ff_494 ly_0 rfl rfl rfl rfl rfl ?_
  refine kz_aload0 (pc := 35) hX dX9_init_35 ?_
  refine kz_new (pc := 36) (tyf := tyX4) hX dX9_init_36 RX4 TX4 rfl iw_4 tyX4_ok tm_261 ti_4.1 ti_4.2 ly_28 df_4_28 rfl rfl ?_
  refine kz_dup (pc := 39) hX dX9_init_39 rfl ?_
  refine kz_aload0 (pc := 40) hX dX9_init_40 ?_
  refine kz_getr (q := 1) (pc := 41) hX dX9_init_41 fl_491 ly_0 rfl rfl rfl ?_
  refine kz_call (As := [.ref (et_ad w 1)]) (pc := 44) hX dX9_init_44 rfl tm_263 md_X4_init mo_X4_init (kc_Re_28 hX.sane _) rfl rfl rfl ?_
  refine kz_putr (q := 28) (pc := 47) hX hin dX9_init_47 ff_495 ly_0 rfl rfl rfl rfl rfl ?_
  refine kz_aload0 (pc := 50) hX dX9_init_50 ?_
  refine kz_new (pc := 51) (tyf := tyX8) hX dX9_init_51 RX8 TX8 rfl iw_8 tyX8_ok tm_302 ti_8.1 ti_8.2 ly_29 df_8_29 rfl rfl ?_
  refine kz_dup (pc := 54) hX dX9_init_54 rfl ?_
  refine kz_callN (As := []) (pc := 55) hX dX9_init_55 rfl nl_304 md_X8_init mo_X8_init (kc_Wa_29 hX.sane _) rfl rfl rfl ?_
  refine kz_putr (q := 29) (pc := 58) hX hin dX9_init_58 ff_496 ly_0 rfl rfl rfl rfl rfl ?_
  refine kz_aload0 (pc := 61) hX dX9_init_61 ?_
  refine kz_new (pc := 62) (tyf := tyX7) hX dX9_init_62 RX7 TX7 rfl iw_7 tyX7_ok tm_319 ti_7.1 ti_7.2 ly_31 df_7_31 rfl rfl ?_
  refine kz_dup (pc := 65) hX dX9_init_65 rfl ?_
  refine kz_aload0 (pc := 66) hX dX9_init_66 ?_
  refine kz_getr (q := 1) (pc := 67) hX dX9_init_67 fl_491 ly_0 rfl rfl rfl ?_
  refine kz_call (As := [.ref (et_ad w 1)]) (pc := 70) hX dX9_init_70 rfl tm_321 md_X7_init mo_X7_init (kc_Ut_31 hX.sane _) rfl rfl rfl ?_
  refine kz_putr (q := 31) (pc := 73) hX hin dX9_init_73 ff_497 ly_0 rfl rfl rfl rfl rfl ?_
  refine kz_aload0 (pc := 76) hX dX9_init_76 ?_
  refine kz_new (pc := 77) (tyf := tyX1) hX dX9_init_77 RX1 TX1 rfl iw_1 tyX1_ok tm_352 ti_1.1 ti_1.2 ly_34 df_1_34 rfl rfl ?_
  refine kz_dup (pc := 80) hX dX9_init_80 rfl ?_
  refine kz_callN (As := []) (pc := 81) hX dX9_init_81 rfl nl_354 md_X1_init mo_X1_init (kc_Le_34 hX.sane _) rfl rfl rfl ?_
  refine kz_putr (q := 34) (pc := 84) hX hin dX9_init_84 ff_498 ly_0 rfl rfl rfl rfl rfl ?_
  refine kz_aload0 (pc := 87) hX dX9_init_87 ?_
  refine kz_new (pc := 88) (tyf := tyX1) hX dX9_init_88 RX1 TX1 rfl iw_1 tyX1_ok tm_352 ti_1.1 ti_1.2 ly_40 df_1_40 rfl rfl ?_
  refine kz_dup (pc := 91) hX dX9_init_91 rfl ?_
  refine kz_callN (As := []) (pc := 92) hX dX9_init_92 rfl nl_354 md_X1_init mo_X1_init (kc_Le_40 hX.sane _) rfl rfl rfl ?_
  refine kz_putr (q := 40) (pc := 95) hX hin dX9_init_95 ff_499 ly_0 rfl rfl rfl rfl rfl ?_
  refine kz_aload0 (pc := 98) hX dX9_init_98 ?_
  refine kz_new (pc := 99) (tyf := tyX3) hX dX9_init_99 RX3 TX3 rfl iw_3 tyX3_ok tm_392 ti_3.1 ti_3.2 ly_46 df_3_46 rfl rfl ?_
  refine kz_dup (pc := 102) hX dX9_init_102 rfl ?_
  refine kz_aload0 (pc := 103) hX dX9_init_103 ?_
  refine kz_getr (q := 2) (pc := 104) hX dX9_init_104 fl_493 ly_0 rfl rfl rfl ?_
  refine kz_call (As := [.ref (et_ad w 2)]) (pc := 107) hX dX9_init_107 rfl tm_394 md_X3_init mo_X3_init (kc_Mi_46 hX.sane _) rfl rfl rfl ?_
  refine kz_putr (q := 46) (pc := 110) hX hin dX9_init_110 ff_500 ly_0 rfl rfl rfl rfl rfl ?_
  refine kz_aload0 (pc := 113) hX dX9_init_113 ?_
  refine kz_new (pc := 114) (tyf := tyX3) hX dX9_init_114 RX3 TX3 rfl iw_3 tyX3_ok tm_392 ti_3.1 ti_3.2 ly_47 df_3_47 rfl rfl ?_
  refine kz_dup (pc := 117) hX dX9_init_117 rfl ?_
  refine kz_aload0 (pc := 118) hX dX9_init_118 ?_
  refine kz_getr (q := 2) (pc := 119) hX dX9_init_119 fl_493 ly_0 rfl rfl rfl ?_
  refine kz_call (As := [.ref (et_ad w 2)]) (pc := 122) hX dX9_init_122 rfl tm_394 md_X3_init mo_X3_init (kc_Mi_47 hX.sane _) rfl rfl rfl ?_
  refine kz_putr (q := 47) (pc := 125) hX hin dX9_init_125 ff_501 ly_0 rfl rfl rfl rfl rfl ?_
  refine kz_aload0 (pc := 128) hX dX9_init_128 ?_
  refine kz_new (pc := 129) (tyf := tyX0) hX dX9_init_129 RX0 TX0 rfl iw_0 tyX0_ok tm_409 ti_0.1 ti_0.2 ly_48 df_0_48 rfl rfl ?_
  refine kz_dup (pc := 132) hX dX9_init_132 rfl ?_
  refine kz_aload0 (pc := 133) hX dX9_init_133 ?_
  refine kz_getr (q := 2) (pc := 134) hX dX9_init_134 fl_493 ly_0 rfl rfl rfl ?_
  refine kz_aload0 (pc := 137) hX dX9_init_137 ?_
  refine kz_getr (q := 34) (pc := 138) hX dX9_init_138 fl_498 ly_0 rfl rfl rfl ?_
  refine kz_call (As := [.ref (et_ad w 2), .ref (et_ad w 34)]) (pc := 141) hX dX9_init_141 rfl tm_411 md_X0_init mo_X0_init (kc_Gr_48 hX.sane _) rfl rfl rfl ?_
  refine kz_putr (q := 48) (pc := 144) hX hin dX9_init_144 ff_503 ly_0 rfl rfl rfl rfl rfl ?_
  refine kz_aload0 (pc := 147) hX dX9_init_147 ?_
  refine kz_new (pc := 148) (tyf := tyX2) hX dX9_init_148 RX2 TX2 rfl iw_2 tyX2_ok tm_470 ti_2.1 ti_2.2 ly_59 df_2_59 rfl rfl ?_
  refine kz_dup (pc := 151) hX dX9_init_151 rfl ?_
  refine kz_aload0 (pc := 152) hX dX9_init_152 ?_
  refine kz_getr (q := 48) (pc := 153) hX dX9_init_153 fl_503 ly_0 rfl rfl rfl ?_
  refine kz_aload0 (pc := 156) hX dX9_init_156 ?_
  refine kz_getr (q := 34) (pc := 157) hX dX9_init_157 fl_498 ly_0 rfl rfl rfl ?_
  refine kz_call (As := [.ref (et_ad w 48), .ref (et_ad w 34)]) (pc := 160) hX dX9_init_160 rfl tm_472 md_X2_init mo_X2_init (kc_Me_59 hX.sane _) rfl rfl rfl ?_
  refine kz_putr (q := 59) (pc := 163) hX hin dX9_init_163 ff_504 ly_0 rfl rfl rfl rfl rfl ?_
  refine kz_aload0 (pc := 166) hX dX9_init_166 ?_
  refine kz_iconst (pc := 167) hX dX9_init_167 ki_m1 ?_
  refine kz_puti (pc := 168) hX dX9_init_168 fl_505 ly_0 rfl rfl rfl ?_
  exact kz_ret (pc := 171) hX dX9_init_171 rfl rfl)
theorem dX10_init_0 : decode cX10_init 0 = .ok (.aload_n 0, 1) := by decide +kernel
theorem dX10_init_1 : decode cX10_init 1 = .ok (.invokespecial 1, 3) := by decide +kernel
theorem dX10_init_4 : decode cX10_init 4 = .ok (.aload_n 0, 1) := by decide +kernel
theorem dX10_init_5 : decode cX10_init 5 = .ok (.iconst 1, 1) := by decide +kernel
theorem dX10_init_6 : decode cX10_init 6 = .ok (.putfield 7, 3) := by decide +kernel
theorem dX10_init_9 : decode cX10_init 9 = .ok (.aload_n 0, 1) := by decide +kernel
theorem dX10_init_10 : decode cX10_init 10 = .ok (.bipush 108, 2) := by decide +kernel
theorem dX10_init_12 : decode cX10_init 12 = .ok (.newarray .int, 2) := by decide +kernel
theorem dX10_init_14 : decode cX10_init 14 = .ok (.putfield 13, 3) := by decide +kernel
theorem dX10_init_17 : decode cX10_init 17 = .ok (.aload_n 0, 1) := by decide +kernel
theorem dX10_init_18 : decode cX10_init 18 = .ok (.sipush 135, 3) := by decide +kernel
theorem dX10_init_21 : decode cX10_init 21 = .ok (.newarray .int, 2) := by decide +kernel
theorem dX10_init_23 : decode cX10_init 23 = .ok (.putfield 17, 3) := by decide +kernel
theorem dX10_init_26 : decode cX10_init 26 = .ok (.aload_n 0, 1) := by decide +kernel
theorem dX10_init_27 : decode cX10_init 27 = .ok (.sipush 162, 3) := by decide +kernel
theorem dX10_init_30 : decode cX10_init 30 = .ok (.newarray .int, 2) := by decide +kernel
theorem dX10_init_32 : decode cX10_init 32 = .ok (.putfield 20, 3) := by decide +kernel
theorem dX10_init_35 : decode cX10_init 35 = .ok (.aload_n 0, 1) := by decide +kernel
theorem dX10_init_36 : decode cX10_init 36 = .ok (.bipush 9, 2) := by decide +kernel
theorem dX10_init_38 : decode cX10_init 38 = .ok (.newarray .int, 2) := by decide +kernel
theorem dX10_init_40 : decode cX10_init 40 = .ok (.putfield 23, 3) := by decide +kernel
theorem dX10_init_43 : decode cX10_init 43 = .ok (.aload_n 0, 1) := by decide +kernel
theorem dX10_init_44 : decode cX10_init 44 = .ok (.bipush 40, 2) := by decide +kernel
theorem dX10_init_46 : decode cX10_init 46 = .ok (.newarray .int, 2) := by decide +kernel
theorem dX10_init_48 : decode cX10_init 48 = .ok (.putfield 26, 3) := by decide +kernel
theorem dX10_init_51 : decode cX10_init 51 = .ok (.aload_n 0, 1) := by decide +kernel
theorem dX10_init_52 : decode cX10_init 52 = .ok (.bipush 30, 2) := by decide +kernel
theorem dX10_init_54 : decode cX10_init 54 = .ok (.newarray .int, 2) := by decide +kernel
theorem dX10_init_56 : decode cX10_init 56 = .ok (.putfield 29, 3) := by decide +kernel
theorem dX10_init_59 : decode cX10_init 59 = .ok (.aload_n 0, 1) := by decide +kernel
theorem dX10_init_60 : decode cX10_init 60 = .ok (.bipush 6, 2) := by decide +kernel
theorem dX10_init_62 : decode cX10_init 62 = .ok (.newarray .int, 2) := by decide +kernel
theorem dX10_init_64 : decode cX10_init 64 = .ok (.putfield 32, 3) := by decide +kernel
theorem dX10_init_67 : decode cX10_init 67 = .ok (.aload_n 0, 1) := by decide +kernel
theorem dX10_init_68 : decode cX10_init 68 = .ok (.sipush 144, 3) := by decide +kernel
theorem dX10_init_71 : decode cX10_init 71 = .ok (.newarray .int, 2) := by decide +kernel
theorem dX10_init_73 : decode cX10_init 73 = .ok (.putfield 35, 3) := by decide +kernel
theorem dX10_init_76 : decode cX10_init 76 = .ok (.aload_n 0, 1) := by decide +kernel
theorem dX10_init_77 : decode cX10_init 77 = .ok (.bipush 10, 2) := by decide +kernel
theorem dX10_init_79 : decode cX10_init 79 = .ok (.newarray .int, 2) := by decide +kernel
theorem dX10_init_81 : decode cX10_init 81 = .ok (.dup, 1) := by decide +kernel
theorem dX10_init_82 : decode cX10_init 82 = .ok (.iconst 0, 1) := by decide +kernel
theorem dX10_init_83 : decode cX10_init 83 = .ok (.sipush 500, 3) := by decide +kernel
theorem dX10_init_86 : decode cX10_init 86 = .ok (.iastore, 1) := by decide +kernel
theorem dX10_init_87 : decode cX10_init 87 = .ok (.dup, 1) := by decide +kernel
theorem dX10_init_88 : decode cX10_init 88 = .ok (.iconst 1, 1) := by decide +kernel
theorem dX10_init_89 : decode cX10_init 89 = .ok (.sipush 500, 3) := by decide +kernel
theorem dX10_init_92 : decode cX10_init 92 = .ok (.iastore, 1) := by decide +kernel
theorem dX10_init_93 : decode cX10_init 93 = .ok (.dup, 1) := by decide +kernel
theorem dX10_init_94 : decode cX10_init 94 = .ok (.iconst 2, 1) := by decide +kernel
theorem dX10_init_95 : decode cX10_init 95 = .ok (.sipush 500, 3) := by decide +kernel
theorem dX10_init_98 : decode cX10_init 98 = .ok (.iastore, 1) := by decide +kernel
theorem dX10_init_99 : decode cX10_init 99 = .ok (.dup, 1) := by decide +kernel
theorem dX10_init_100 : decode cX10_init 100 = .ok (.iconst 3, 1) := by decide +kernel
theorem dX10_init_101 : decode cX10_init 101 = .ok (.sipush 500, 3) := by decide +kernel
theorem dX10_init_104 : decode cX10_init 104 = .ok (.iastore, 1) := by decide +kernel
theorem dX10_init_105 : decode cX10_init 105 = .ok (.dup, 1) := by decide +kernel
theorem dX10_init_106 : decode cX10_init 106 = .ok (.iconst 4, 1) := by decide +kernel
theorem dX10_init_107 : decode cX10_init 107 = .ok (.sipush 500, 3) := by decide +kernel
theorem dX10_init_110 : decode cX10_init 110 = .ok (.iastore, 1) := by decide +kernel
theorem dX10_init_111 : decode cX10_init 111 = .ok (.dup, 1) := by decide +kernel
theorem dX10_init_112 : decode cX10_init 112 = .ok (.iconst 5, 1) := by decide +kernel
theorem dX10_init_113 : decode cX10_init 113 = .ok (.sipush 500, 3) := by decide +kernel
theorem dX10_init_116 : decode cX10_init 116 = .ok (.iastore, 1) := by decide +kernel
theorem dX10_init_117 : decode cX10_init 117 = .ok (.dup, 1) := by decide +kernel
theorem dX10_init_118 : decode cX10_init 118 = .ok (.bipush 6, 2) := by decide +kernel
theorem dX10_init_120 : decode cX10_init 120 = .ok (.sipush 500, 3) := by decide +kernel
theorem dX10_init_123 : decode cX10_init 123 = .ok (.iastore, 1) := by decide +kernel
theorem dX10_init_124 : decode cX10_init 124 = .ok (.dup, 1) := by decide +kernel
theorem dX10_init_125 : decode cX10_init 125 = .ok (.bipush 7, 2) := by decide +kernel
theorem dX10_init_127 : decode cX10_init 127 = .ok (.sipush 500, 3) := by decide +kernel
theorem dX10_init_130 : decode cX10_init 130 = .ok (.iastore, 1) := by decide +kernel
theorem dX10_init_131 : decode cX10_init 131 = .ok (.dup, 1) := by decide +kernel
theorem dX10_init_132 : decode cX10_init 132 = .ok (.bipush 8, 2) := by decide +kernel
theorem dX10_init_134 : decode cX10_init 134 = .ok (.sipush 500, 3) := by decide +kernel
theorem dX10_init_137 : decode cX10_init 137 = .ok (.iastore, 1) := by decide +kernel
theorem dX10_init_138 : decode cX10_init 138 = .ok (.dup, 1) := by decide +kernel
theorem dX10_init_139 : decode cX10_init 139 = .ok (.bipush 9, 2) := by decide +kernel
theorem dX10_init_141 : decode cX10_init 141 = .ok (.sipush 500, 3) := by decide +kernel
theorem dX10_init_144 : decode cX10_init 144 = .ok (.iastore, 1) := by decide +kernel
theorem dX10_init_145 : decode cX10_init 145 = .ok (.putfield 38, 3) := by decide +kernel
theorem dX10_init_148 : decode cX10_init 148 = .ok (.aload_n 0, 1) := by decide +kernel
theorem dX10_init_149 : decode cX10_init 149 = .ok (.sipush 800, 3) := by decide +kernel
theorem dX10_init_152 : decode cX10_init 152 = .ok (.newarray .int, 2) := by decide +kernel
theorem dX10_init_154 : decode cX10_init 154 = .ok (.putfield 41, 3) := by decide +kernel
theorem dX10_init_157 : decode cX10_init 157 = .ok (.aload_n 0, 1) := by decide +kernel
theorem dX10_init_158 : decode cX10_init 158 = .ok (.iconst (-1), 1) := by decide +kernel
theorem dX10_init_159 : decode cX10_init 159 = .ok (.putfield 44, 3) := by decide +kernel
theorem dX10_init_162 : decode cX10_init 162 = .ok (.aload_n 0, 1) := by decide +kernel
theorem dX10_init_163 : decode cX10_init 163 = .ok (.iconst 3, 1) := by decide +kernel
theorem dX10_init_164 : decode cX10_init 164 = .ok (.newarray .int, 2) := by decide +kernel
theorem dX10_init_166 : decode cX10_init 166 = .ok (.putfield 47, 3) := by decide +kernel
theorem dX10_init_169 : decode cX10_init 169 = .ok (.aload_n 0, 1) := by decide +kernel
theorem dX10_init_170 : decode cX10_init 170 = .ok (.bipush 108, 2) := by decide +kernel
theorem dX10_init_172 : decode cX10_init 172 = .ok (.newarray .int, 2) := by decide +kernel
theorem dX10_init_174 : decode cX10_init 174 = .ok (.putfield 50, 3) := by decide +kernel
theorem dX10_init_177 : decode cX10_init 177 = .ok (.aload_n 0, 1) := by decide +kernel
theorem dX10_init_178 : decode cX10_init 178 = .ok (.sipush 135, 3) := by decide +kernel
theorem dX10_init_181 : decode cX10_init 181 = .ok (.newarray .int, 2) := by decide +kernel
theorem dX10_init_183 : decode cX10_init 183 = .ok (.putfield 53, 3) := by decide +kernel
theorem dX10_init_186 : decode cX10_init 186 = .ok (.aload_n 0, 1) := by decide +kernel
theorem dX10_init_187 : decode cX10_init 187 = .ok (.sipush 162, 3) := by decide +kernel
theorem dX10_init_190 : decode cX10_init 190 = .ok (.newarray .int, 2) := by decide +kernel
theorem dX10_init_192 : decode cX10_init 192 = .ok (.putfield 56, 3) := by decide +kernel
theorem dX10_init_195 : decode cX10_init 195 = .ok (.aload_n 0, 1) := by decide +kernel
theorem dX10_init_196 : decode cX10_init 196 = .ok (.bipush 9, 2) := by decide +kernel
theorem dX10_init_198 : decode cX10_init 198 = .ok (.newarray .int, 2) := by decide +kernel
theorem dX10_init_200 : decode cX10_init 200 = .ok (.putfield 59, 3) := by decide +kernel
theorem dX10_init_203 : decode cX10_init 203 = .ok (.aload_n 0, 1) := by decide +kernel
theorem dX10_init_204 : decode cX10_init 204 = .ok (.bipush 40, 2) := by decide +kernel
theorem dX10_init_206 : decode cX10_init 206 = .ok (.newarray .int, 2) := by decide +kernel
theorem dX10_init_208 : decode cX10_init 208 = .ok (.putfield 62, 3) := by decide +kernel
theorem dX10_init_211 : decode cX10_init 211 = .ok (.aload_n 0, 1) := by decide +kernel
theorem dX10_init_212 : decode cX10_init 212 = .ok (.bipush 30, 2) := by decide +kernel
theorem dX10_init_214 : decode cX10_init 214 = .ok (.newarray .int, 2) := by decide +kernel
theorem dX10_init_216 : decode cX10_init 216 = .ok (.putfield 65, 3) := by decide +kernel
theorem dX10_init_219 : decode cX10_init 219 = .ok (.aload_n 0, 1) := by decide +kernel
theorem dX10_init_220 : decode cX10_init 220 = .ok (.bipush 6, 2) := by decide +kernel
theorem dX10_init_222 : decode cX10_init 222 = .ok (.newarray .int, 2) := by decide +kernel
theorem dX10_init_224 : decode cX10_init 224 = .ok (.putfield 68, 3) := by decide +kernel
theorem dX10_init_227 : decode cX10_init 227 = .ok (.aload_n 0, 1) := by decide +kernel
theorem dX10_init_228 : decode cX10_init 228 = .ok (.sipush 144, 3) := by decide +kernel
theorem dX10_init_231 : decode cX10_init 231 = .ok (.newarray .int, 2) := by decide +kernel
theorem dX10_init_233 : decode cX10_init 233 = .ok (.putfield 71, 3) := by decide +kernel
theorem dX10_init_236 : decode cX10_init 236 = .ok (.aload_n 0, 1) := by decide +kernel
theorem dX10_init_237 : decode cX10_init 237 = .ok (.bipush 10, 2) := by decide +kernel
theorem dX10_init_239 : decode cX10_init 239 = .ok (.newarray .int, 2) := by decide +kernel
theorem dX10_init_241 : decode cX10_init 241 = .ok (.putfield 74, 3) := by decide +kernel
theorem dX10_init_244 : decode cX10_init 244 = .ok (.aload_n 0, 1) := by decide +kernel
theorem dX10_init_245 : decode cX10_init 245 = .ok (.bipush 32, 2) := by decide +kernel
theorem dX10_init_247 : decode cX10_init 247 = .ok (.newarray .int, 2) := by decide +kernel
theorem dX10_init_249 : decode cX10_init 249 = .ok (.putfield 77, 3) := by decide +kernel
theorem dX10_init_252 : decode cX10_init 252 = .ok (.aload_n 0, 1) := by decide +kernel
theorem dX10_init_253 : decode cX10_init 253 = .ok (.sipush 180, 3) := by decide +kernel
theorem dX10_init_256 : decode cX10_init 256 = .ok (.newarray .int, 2) := by decide +kernel
theorem dX10_init_258 : decode cX10_init 258 = .ok (.putfield 80, 3) := by decide +kernel
theorem dX10_init_261 : decode cX10_init 261 = .ok (.aload_n 0, 1) := by decide +kernel
theorem dX10_init_262 : decode cX10_init 262 = .ok (.bipush 100, 2) := by decide +kernel
theorem dX10_init_264 : decode cX10_init 264 = .ok (.newarray .int, 2) := by decide +kernel
theorem dX10_init_266 : decode cX10_init 266 = .ok (.putfield 83, 3) := by decide +kernel
theorem dX10_init_269 : decode cX10_init 269 = .ok (.aload_n 0, 1) := by decide +kernel
theorem dX10_init_270 : decode cX10_init 270 = .ok (.sipush 180, 3) := by decide +kernel
theorem dX10_init_273 : decode cX10_init 273 = .ok (.newarray .int, 2) := by decide +kernel
theorem dX10_init_275 : decode cX10_init 275 = .ok (.putfield 86, 3) := by decide +kernel
theorem dX10_init_278 : decode cX10_init 278 = .ok (.aload_n 0, 1) := by decide +kernel
theorem dX10_init_279 : decode cX10_init 279 = .ok (.bipush 20, 2) := by decide +kernel
theorem dX10_init_281 : decode cX10_init 281 = .ok (.newarray .int, 2) := by decide +kernel
theorem dX10_init_283 : decode cX10_init 283 = .ok (.putfield 89, 3) := by decide +kernel
theorem dX10_init_286 : decode cX10_init 286 = .ok (.aload_n 0, 1) := by decide +kernel
theorem dX10_init_287 : decode cX10_init 287 = .ok (.bipush 20, 2) := by decide +kernel
theorem dX10_init_289 : decode cX10_init 289 = .ok (.newarray .int, 2) := by decide +kernel
theorem dX10_init_291 : decode cX10_init 291 = .ok (.putfield 92, 3) := by decide +kernel
theorem dX10_init_294 : decode cX10_init 294 = .ok (.aload_n 0, 1) := by decide +kernel
theorem dX10_init_295 : decode cX10_init 295 = .ok (.bipush 21, 2) := by decide +kernel
theorem dX10_init_297 : decode cX10_init 297 = .ok (.newarray .int, 2) := by decide +kernel
theorem dX10_init_299 : decode cX10_init 299 = .ok (.putfield 95, 3) := by decide +kernel
theorem dX10_init_302 : decode cX10_init 302 = .ok (.aload_n 0, 1) := by decide +kernel
theorem dX10_init_303 : decode cX10_init 303 = .ok (.bipush 21, 2) := by decide +kernel
theorem dX10_init_305 : decode cX10_init 305 = .ok (.newarray .int, 2) := by decide +kernel
theorem dX10_init_307 : decode cX10_init 307 = .ok (.putfield 98, 3) := by decide +kernel
theorem dX10_init_310 : decode cX10_init 310 = .ok (.aload_n 0, 1) := by decide +kernel
theorem dX10_init_311 : decode cX10_init 311 = .ok (.bipush 20, 2) := by decide +kernel
theorem dX10_init_313 : decode cX10_init 313 = .ok (.newarray .int, 2) := by decide +kernel
theorem dX10_init_315 : decode cX10_init 315 = .ok (.putfield 101, 3) := by decide +kernel
theorem dX10_init_318 : decode cX10_init 318 = .ok (.aload_n 0, 1) := by decide +kernel
theorem dX10_init_319 : decode cX10_init 319 = .ok (.sipush 168, 3) := by decide +kernel
theorem dX10_init_322 : decode cX10_init 322 = .ok (.newarray .int, 2) := by decide +kernel
theorem dX10_init_324 : decode cX10_init 324 = .ok (.putfield 104, 3) := by decide +kernel
theorem dX10_init_327 : decode cX10_init 327 = .ok (.aload_n 0, 1) := by decide +kernel
theorem dX10_init_328 : decode cX10_init 328 = .ok (.bipush 20, 2) := by decide +kernel
theorem dX10_init_330 : decode cX10_init 330 = .ok (.newarray .int, 2) := by decide +kernel
theorem dX10_init_332 : decode cX10_init 332 = .ok (.putfield 107, 3) := by decide +kernel
theorem dX10_init_335 : decode cX10_init 335 = .ok (.aload_n 0, 1) := by decide +kernel
theorem dX10_init_336 : decode cX10_init 336 = .ok (.sipush 168, 3) := by decide +kernel
theorem dX10_init_339 : decode cX10_init 339 = .ok (.newarray .int, 2) := by decide +kernel
theorem dX10_init_341 : decode cX10_init 341 = .ok (.putfield 110, 3) := by decide +kernel
theorem dX10_init_344 : decode cX10_init 344 = .ok (.aload_n 0, 1) := by decide +kernel
theorem dX10_init_345 : decode cX10_init 345 = .ok (.iconst (-1), 1) := by decide +kernel
theorem dX10_init_346 : decode cX10_init 346 = .ok (.putfield 113, 3) := by decide +kernel
theorem dX10_init_349 : decode cX10_init 349 = .ok (.aload_n 0, 1) := by decide +kernel
theorem dX10_init_350 : decode cX10_init 350 = .ok (.bipush 20, 2) := by decide +kernel
theorem dX10_init_352 : decode cX10_init 352 = .ok (.newarray .int, 2) := by decide +kernel
theorem dX10_init_354 : decode cX10_init 354 = .ok (.putfield 116, 3) := by decide +kernel
theorem dX10_init_357 : decode cX10_init 357 = .ok (.aload_n 0, 1) := by decide +kernel
theorem dX10_init_358 : decode cX10_init 358 = .ok (.bipush 100, 2) := by decide +kernel
theorem dX10_init_360 : decode cX10_init 360 = .ok (.newarray .int, 2) := by decide +kernel
theorem dX10_init_362 : decode cX10_init 362 = .ok (.putfield 119, 3) := by decide +kernel
theorem dX10_init_365 : decode cX10_init 365 = .ok (.return_, 1) := by decide +kernel
theorem tm_1347 : Cond.methodLink RX10 1 Lib.objectInit ∈ et_tb := et_mt 1347 (by decide +kernel) rfl
theorem ff_1355 : et_FF RX10 13 10 7 (.array .int) := ⟨TX10, 74, tyX10, rfl, by decide, iw_10, et_mt 1355 (by decide +kernel) rfl, tyX10_ok, nmX10, rfl, rfl, rfl⟩
theorem ff_1356 : et_FF RX10 17 10 8 (.array .int) := ⟨TX10, 74, tyX10, rfl, by decide, iw_10, et_mt 1356 (by decide +kernel) rfl, tyX10_ok, nmX10, rfl, rfl, rfl⟩
theorem ks_162 : (Int16.ofInt 162).toInt32 = 162 := by decide
theorem ff_1357 : et_FF RX10 20 10 9 (.array .int) := ⟨TX10, 74, tyX10, rfl, by decide, iw_10, et_mt 1357 (by decide +kernel) rfl, tyX10_ok, nmX10, rfl, rfl, rfl⟩
theorem ff_1358 : et_FF RX10 23 10 10 (.array .int) := ⟨TX10, 74, tyX10, rfl, by decide, iw_10, et_mt 1358 (by decide +kernel) rfl, tyX10_ok, nmX10, rfl, rfl, rfl⟩
theorem kb_40 : (Int8.ofInt 40).toInt32 = 40 := by decide
theorem ff_1359 : et_FF RX10 26 10 11 (.array .int) := ⟨TX10, 74, tyX10, rfl, by decide, iw_10, et_mt 1359 (by decide +kernel) rfl, tyX10_ok, nmX10, rfl, rfl, rfl⟩
theorem kb_30 : (Int8.ofInt 30).toInt32 = 30 := by decide
theorem ff_1360 : et_FF RX10 29 10 12 (.array .int) := ⟨TX10, 74, tyX10, rfl, by decide, iw_10, et_mt 1360 (by decide +kernel) rfl, tyX10_ok, nmX10, rfl, rfl, rfl⟩
theorem ff_1361 : et_FF RX10 32 10 13 (.array .int) := ⟨TX10, 74, tyX10, rfl, by decide, iw_10, et_mt 1361 (by decide +kernel) rfl, tyX10_ok, nmX10, rfl, rfl, rfl⟩
theorem ff_1362 : et_FF RX10 35 10 14 (.array .int) := ⟨TX10, 74, tyX10, rfl, by decide, iw_10, et_mt 1362 (by decide +kernel) rfl, tyX10_ok, nmX10, rfl, rfl, rfl⟩
theorem ff_1363 : et_FF RX10 38 10 15 (.array .int) := ⟨TX10, 74, tyX10, rfl, by decide, iw_10, et_mt 1363 (by decide +kernel) rfl, tyX10_ok, nmX10, rfl, rfl, rfl⟩
theorem ff_1364 : et_FF RX10 41 10 16 (.array .int) := ⟨TX10, 74, tyX10, rfl, by decide, iw_10, et_mt 1364 (by decide +kernel) rfl, tyX10_ok, nmX10, rfl, rfl, rfl⟩
theorem ff_1368 : et_FF RX10 47 10 20 (.array .int) := ⟨TX10, 74, tyX10, rfl, by decide, iw_10, et_mt 1368 (by decide +kernel) rfl, tyX10_ok, nmX10, rfl, rfl, rfl⟩
theorem ff_1385 : et_FF RX10 50 10 37 (.array .int) := ⟨TX10, 74, tyX10, rfl, by decide, iw_10, et_mt 1385 (by decide +kernel) rfl, tyX10_ok, nmX10, rfl, rfl, rfl⟩
theorem ff_1386 : et_FF RX10 53 10 38 (.array .int) := ⟨TX10, 74, tyX10, rfl, by decide, iw_10, et_mt 1386 (by decide +kernel) rfl, tyX10_ok, nmX10, rfl, rfl, rfl⟩
theorem ff_1387 : et_FF RX10 56 10 39 (.array .int) := ⟨TX10, 74, tyX10, rfl, by decide, iw_10, et_mt 1387 (by decide +kernel) rfl, tyX10_ok, nmX10, rfl, rfl, rfl⟩
theorem ff_1388 : et_FF RX10 59 10 40 (.array .int) := ⟨TX10, 74, tyX10, rfl, by decide, iw_10, et_mt 1388 (by decide +kernel) rfl, tyX10_ok, nmX10, rfl, rfl, rfl⟩
theorem ff_1389 : et_FF RX10 62 10 41 (.array .int) := ⟨TX10, 74, tyX10, rfl, by decide, iw_10, et_mt 1389 (by decide +kernel) rfl, tyX10_ok, nmX10, rfl, rfl, rfl⟩
theorem ff_1390 : et_FF RX10 65 10 42 (.array .int) := ⟨TX10, 74, tyX10, rfl, by decide, iw_10, et_mt 1390 (by decide +kernel) rfl, tyX10_ok, nmX10, rfl, rfl, rfl⟩
theorem ff_1391 : et_FF RX10 68 10 43 (.array .int) := ⟨TX10, 74, tyX10, rfl, by decide, iw_10, et_mt 1391 (by decide +kernel) rfl, tyX10_ok, nmX10, rfl, rfl, rfl⟩
theorem ff_1392 : et_FF RX10 71 10 44 (.array .int) := ⟨TX10, 74, tyX10, rfl, by decide, iw_10, et_mt 1392 (by decide +kernel) rfl, tyX10_ok, nmX10, rfl, rfl, rfl⟩
theorem ff_1393 : et_FF RX10 74 10 45 (.array .int) := ⟨TX10, 74, tyX10, rfl, by decide, iw_10, et_mt 1393 (by decide +kernel) rfl, tyX10_ok, nmX10, rfl, rfl, rfl⟩
theorem ff_1394 : et_FF RX10 77 10 46 (.array .int) := ⟨TX10, 74, tyX10, rfl, by decide, iw_10, et_mt 1394 (by decide +kernel) rfl, tyX10_ok, nmX10, rfl, rfl, rfl⟩
theorem ff_1395 : et_FF RX10 80 10 47 (.array .int) := ⟨TX10, 74, tyX10, rfl, by decide, iw_10, et_mt 1395 (by decide +kernel) rfl, tyX10_ok, nmX10, rfl, rfl, rfl⟩
theorem ff_1399 : et_FF RX10 83 10 51 (.array .int) := ⟨TX10, 74, tyX10, rfl, by decide, iw_10, et_mt 1399 (by decide +kernel) rfl, tyX10_ok, nmX10, rfl, rfl, rfl⟩
theorem ff_1400 : et_FF RX10 86 10 52 (.array .int) := ⟨TX10, 74, tyX10, rfl, by decide, iw_10, et_mt 1400 (by decide +kernel) rfl, tyX10_ok, nmX10, rfl, rfl, rfl⟩
theorem ff_1401 : et_FF RX10 89 10 53 (.array .int) := ⟨TX10, 74, tyX10, rfl, by decide, iw_10, et_mt 1401 (by decide +kernel) rfl, tyX10_ok, nmX10, rfl, rfl, rfl⟩
theorem ff_1402 : et_FF RX10 92 10 54 (.array .int) := ⟨TX10, 74, tyX10, rfl, by decide, iw_10, et_mt 1402 (by decide +kernel) rfl, tyX10_ok, nmX10, rfl, rfl, rfl⟩
theorem kb_21 : (Int8.ofInt 21).toInt32 = 21 := by decide
theorem ff_1403 : et_FF RX10 95 10 55 (.array .int) := ⟨TX10, 74, tyX10, rfl, by decide, iw_10, et_mt 1403 (by decide +kernel) rfl, tyX10_ok, nmX10, rfl, rfl, rfl⟩
theorem ff_1404 : et_FF RX10 98 10 56 (.array .int) := ⟨TX10, 74, tyX10, rfl, by decide, iw_10, et_mt 1404 (by decide +kernel) rfl, tyX10_ok, nmX10, rfl, rfl, rfl⟩
theorem ff_1405 : et_FF RX10 101 10 57 (.array .int) := ⟨TX10, 74, tyX10, rfl, by decide, iw_10, et_mt 1405 (by decide +kernel) rfl, tyX10_ok, nmX10, rfl, rfl, rfl⟩
theorem ks_168 : (Int16.ofInt 168).toInt32 = 168 := by decide
theorem ff_1406 : et_FF RX10 104 10 58 (.array .int) := ⟨TX10, 74, tyX10, rfl, by decide, iw_10, et_mt 1406 (by decide +kernel) rfl, tyX10_ok, nmX10, rfl, rfl, rfl⟩
theorem ff_1411 : et_FF RX10 107 10 63 (.array .int) := ⟨TX10, 74, tyX10, rfl, by decide, iw_10, et_mt 1411 (by decide +kernel) rfl, tyX10_ok, nmX10, rfl, rfl, rfl⟩
theorem ff_1412 : et_FF RX10 110 10 64 (.array .int) := ⟨TX10, 74, tyX10, rfl, by decide, iw_10, et_mt 1412 (by decide +kernel) rfl, tyX10_ok, nmX10, rfl, rfl, rfl⟩
theorem ff_1414 : et_FF RX10 116 10 66 (.array .int) := ⟨TX10, 74, tyX10, rfl, by decide, iw_10, et_mt 1414 (by decide +kernel) rfl, tyX10_ok, nmX10, rfl, rfl, rfl⟩
theorem ff_1421 : et_FF RX10 119 10 73 (.array .int) := ⟨TX10, 74, tyX10, rfl, by decide, iw_10, et_mt 1421 (by decide +kernel) rfl, tyX10_ok, nmX10, rfl, rfl, rfl⟩
def kd_Mo_61 (c : et_P) : et_P := et_ps (et_ps (et_ps (et_ps (et_ps (et_ps (et_ps (et_ps (et_ps (et_ps (et_ps (et_ps (et_ps (et_ps (et_ps (et_ps (et_ps (et_ps (et_ps (et_ps (et_ps (et_ps (et_ps (et_ps (et_ps (et_ps (et_ps (et_ps (et_ps (et_ps (et_ps (et_ps (et_ps (et_ps (et_ps (et_ps (et_ps (et_ps (et_ps (et_ps (et_ps (et_ps (et_ps (et_ps (et_ps (et_ps (et_ps c 61 3 1) 61 507 1) 61 508 1) 61 509 1) 61 510 1) 61 511 1) 61 512 1) 61 513 1) 61 514 1) 70 0 500) 70 1 500) 70 2 500) 70 3 500) 70 4 500) 70 5 500) 70 6 500) 70 7 500) 70 8 500) 70 9 500) 61 515 1) 61 516 1) 61 19 (-1)) 61 520 1) 61 537 1) 61 538 1) 61 539 1) 61 540 1) 61 541 1) 61 542 1) 61 543 1) 61 544 1) 61 545 1) 61 546 1) 61 547 1) 61 551 1) 61 552 1) 61 553 1) 61 554 1) 61 555 1) 61 556 1) 61 557 1) 61 558 1) 61 563 1) 61 564 1) 61 65 (-1)) 61 566 1) 61 573 1
def rk_Mo_61 : Room := { frames := 1, cells := 34, slots := 3161, locals := 12 }
theorem kc_Mo_61 {w : et_W} (hw : et_Sane w) (c : et_P) : et_KC w yX10_init (Cond.code yX10_init cX10_init 1 none) rk_Mo_61 [.ref (et_ad w 61)] c 62 (kd_Mo_61 c) 96 := et_kmk (lv0 := [some (.ref (et_ad w 61))]) hw (by decide) rfl rfl rfl (fun h => et_fr_up (n := 71) (et_fr_p (n := 71) rfl (et_fr_up (n := 71) (et_fr_p (n := 71) rfl (et_fr_up (n := 71) (et_fr_p (n := 71) rfl (et_fr_up (n := 71) (et_fr_p (n := 71) rfl (et_fr_up (n := 71) (et_fr_p (n := 71) rfl (et_fr_up (n := 71) (et_fr_p (n := 71) rfl (et_fr_up (n := 71) (et_fr_p (n := 71) rfl (et_fr_up (n := 71) (et_fr_p (n := 71) rfl (et_fr_up (n := 71) (et_fr_p (n := 71) rfl (et_fr_up (n := 71) (et_fr_p (n := 71) rfl (et_fr_up (n := 71) (et_fr_p (n := 71) rfl (et_fr_up (n := 71) (et_fr_p (n := 71) rfl (et_fr_up (n := 71) (et_fr_p (n := 71) rfl (et_fr_up (n := 71) (et_fr_p (n := 71) rfl (et_fr_up (n := 71) (et_fr_p (n := 71) rfl (et_fr_up (n := 71) (et_fr_p (n := 71) rfl (et_fr_up (n := 71) (et_fr_p (n := 71) rfl (et_fr_up (n := 71) (et_fr_p (n := 71) rfl (et_fr_up (n := 71) (et_fr_p (n := 71) rfl (et_fr_up (n := 71) (et_fr_p (n := 71) rfl (et_fr_up (n := 71) (et_fr_p (n := 71) rfl (et_fr_up (n := 71) (et_fr_p (n := 71) rfl (et_fr_up (n := 71) (et_fr_p (n := 71) rfl (et_fr_up (n := 71) (et_fr_p (n := 71) rfl (et_fr_up (n := 71) (et_fr_p (n := 71) rfl (et_fr_up (n := 71) (et_fr_p (n := 71) rfl (et_fr_up (n := 71) (et_fr_p (n := 71) rfl (et_fr_up (n := 71) (et_fr_p (n := 71) rfl (et_fr_up (n := 71) (et_fr_p (n := 71) rfl (et_fr_up (n := 71) (et_fr_p (n := 71) rfl (et_fr_up (n := 71) (et_fr_p (n := 71) rfl (et_fr_up (n := 71) (et_fr_p (n := 71) rfl (et_fr_up (n := 71) (et_fr_p (n := 71) rfl (et_fr_up (n := 71) (et_fr_p (n := 71) rfl (et_fr_up (n := 71) (et_fr_p (n := 71) rfl (et_fr_up (n := 71) (et_fr_p (n := 71) rfl (et_fr_up (n := 71) (et_fr_p (n := 71) rfl (et_fr_up (n := 71) (et_fr_p (n := 71) rfl (et_fr_up (n := 62) (et_fr_p (n := 62) rfl (et_fr_up (n := 62) (et_fr_p (n := 62) rfl (et_fr_up (n := 62) (et_fr_p (n := 62) rfl (et_fr_up (n := 62) (et_fr_p (n := 62) rfl (et_fr_up (n := 62) (et_fr_p (n := 62) rfl (et_fr_up (n := 62) (et_fr_p (n := 62) rfl (et_fr_up (n := 62) (et_fr_p (n := 62) rfl (et_fr_up (n := 62) (et_fr_p (n := 62) rfl (et_fr_up (n := 62) (et_fr_p (n := 62) rfl (et_fr_up (n := 62) (h) rfl)) rfl)) rfl)) rfl)) rfl)) rfl)) rfl)) rfl)) rfl)) rfl)) rfl)) rfl)) rfl)) rfl)) rfl)) rfl)) rfl)) rfl)) rfl)) rfl)) rfl)) rfl)) rfl)) rfl)) rfl)) rfl)) rfl)) rfl)) rfl)) rfl)) rfl)) rfl)) rfl)) rfl)) rfl)) rfl)) rfl)) rfl)) rfl)) rfl)) rfl)) rfl)) rfl)) rfl)) rfl)) rfl)) rfl)) rfl) (fun X hX hin => by
  refine kz_aload0 (pc := 0) hX dX10_init_0 ?_
  refine kz_obj (pc := 1) hX dX10_init_1 tm_1347 rfl rfl ?_
  refine kz_aload0 (pc := 4) hX dX10_init_4 ?_
  refine kz_iconst (pc := 5) hX dX10_init_5 ki_1 ?_
  refine kz_puti (pc := 6) hX dX10_init_6 fl_1351 ly_61 rfl rfl rfl ?_
  refine kz_aload0 (pc := 9) hX dX10_init_9 ?_
  refine kz_bipush (pc := 10) hX dX10_init_10 kb_108 ?_
  refine kz_newa (pc := 12) (t0 := 0) hX dX10_init_12 rfl ta_int ly_62 (et_t0 w) (tz_int 108) (by decide) (by decide) (by decide) rfl rfl ?_
  refine kz_putr (q := 62) (pc := 14) hX hin dX10_init_14 ff_1355 ly_61 rfl rfl rfl rfl rfl ?_
  refine kz_aload0 (pc := 17) hX dX10_init_17 ?_
  refine kz_sipush (pc := 18) hX dX10_init_18 ks_135 ?_
  refine kz_newa (pc := 21) (t0 := 0) hX dX10_init_21 rfl ta_int ly_63 (et_t0 w) (tz_int 135) (by decide) (by decide) (by decide) rfl rfl ?_
  refine kz_putr (q := 63) (pc := 23) hX hin dX10_init_23 ff_1356 ly_61 rfl rfl rfl rfl rfl ?_
  refine kz_aload0 (pc := 26) hX dX10_init_26 ?_
  refine kz_sipush (pc := 27) hX dX10_init_27 ks_162 ?_
  refine kz_newa (pc := 30) (t0 := 0) hX dX10_init_30 rfl ta_int ly_64 (et_t0 w) (tz_int 162) (by decide) (by decide) (by decide) rfl rfl ?_
  refine kz_putr (q := 64) (pc := 32) hX hin dX10_init_32 ff_1357 ly_61 rfl rfl rfl rfl rfl ?_
  refine kz_aload0 (pc := 35) hX dX10_init_35 ?_
  refine kz_bipush (pc := 36) hX dX10_init_36 kb_9 ?_
  refine kz_newa (pc := 38) (t0 := 0) hX dX10_init_38 rfl ta_int ly_65 (et_t0 w) (tz_int 9) (by decide) (by decide) (by decide) rfl rfl ?_
  refine kz_putr (q := 65) (pc := 40) hX hin dX10_init_40 ff_1358 ly_61 rfl rfl rfl rfl rfl ?_
  refine kz_aload0 (pc := 43) hX dX10_init_43 ?_
  refine kz_bipush (pc := 44) hX dX10_init_44 kb_40 ?_
  refine kz_newa (pc := 46) (t0 := 0) hX dX10_init_46 rfl ta_int ly_66 (et_t0 w) (tz_int 40) (by decide) (by decide) (by decide) rfl rfl ?_
  refine kz_putr (q := 66) (pc := 48) hX hin dX10_init_48 ff_1359 ly_61 rfl rfl rfl rfl rfl ?_
  refine kz_aload0 (pc := 51) hX dX10_init_51 ?_
  refine kz_bipush (pc := 52) hX dX10_init_52 kb_30 ?_
  refine kz_newa (pc := 54) (t0 := 0) hX dX10_init_54 rfl ta_int ly_67 (et_t0 w) (tz_int 30) (by decide) (by decide) (by decide) rfl rfl ?_
  refine kz_putr (q := 67) (pc := 56) hX hin dX10_init_56 ff_1360 ly_61 rfl rfl rfl rfl rfl ?_
  refine kz_aload0 (pc := 59) hX dX10_init_59 ?_
  refine kz_bipush (pc := 60) hX dX10_init_60 kb_6 ?_
  refine kz_newa (pc := 62) (t0 := 0) hX dX10_init_62 rfl ta_int ly_68 (et_t0 w) (tz_int 6) (by decide) (by decide) (by decide) rfl rfl ?_
  refine kz_putr (q := 68) (pc := 64) hX hin dX10_init_64 ff_1361 ly_61 rfl rfl rfl rfl rfl ?_
  refine kz_aload0 (pc := 67) hX dX10_init_67 ?_
  refine kz_sipush (pc := 68) hX dX10_init_68 ks_144 ?_
  refine kz_newa (pc := 71) (t0 := 0) hX dX10_init_71 rfl ta_int ly_69 (et_t0 w) (tz_int 144) (by decide) (by decide) (by decide) rfl rfl ?_
  refine kz_putr (q := 69) (pc := 73) hX hin dX10_init_73 ff_1362 ly_61 rfl rfl rfl rfl rfl ?_
  refine kz_aload0 (pc := 76) hX dX10_init_76 ?_
  refine kz_bipush (pc := 77) hX dX10_init_77 kb_10 ?_
  refine kz_newa (pc := 79) (t0 := 0) hX dX10_init_79 rfl ta_int ly_70 (et_t0 w) (tz_int 10) (by decide) (by decide) (by decide) rfl rfl ?_
  refine kz_dup (pc := 81) hX dX10_init_81 rfl ?_
  refine kz_iconst (pc := 82) hX dX10_init_82 ki_0 ?_
  refine kz_sipush (pc := 83) hX dX10_init_83 ks_500 ?_
  refine kz_iast (pc := 86) hX dX10_init_86 ly_70 rfl (by decide) ?_
  refine kz_dup (pc := 87) hX dX10_init_87 rfl ?_
  refine kz_iconst (pc := 88) hX dX10_init_88 ki_1 ?_
  refine kz_sipush (pc := 89) hX dX10_init_89 ks_500 ?_
  refine kz_iast (pc := 92) hX dX10_init_92 ly_70 rfl (by decide) ?_
  refine kz_dup (pc := 93) hX dX10_init_93 rfl ?_
  refine kz_iconst (pc := 94) hX dX10_init_94 ki_2 ?_
  refine kz_sipush (pc := 95) hX dX10_init_95 ks_500 ?_
  refine kz_iast (pc := 98) hX dX10_init_98 ly_70 rfl (by decide) ?_
  refine kz_dup (pc := 99) hX dX10_init_99 rfl ?_
  refine kz_iconst (pc := 100) hX dX10_init_100 ki_3 ?_
  refine kz_sipush (pc := 101) hX dX10_init_101 ks_500 ?_
  refine kz_iast (pc := 104) hX dX10_init_104 ly_70 rfl (by decide) ?_
  refine kz_dup (pc := 105) hX dX10_init_105 rfl ?_
  refine kz_iconst (pc := 106) hX dX10_init_106 ki_4 ?_
  refine kz_sipush (pc := 107) hX dX10_init_107 ks_500 ?_
  refine kz_iast (pc := 110) hX dX10_init_110 ly_70 rfl (by decide) ?_
  refine kz_dup (pc := 111) hX dX10_init_111 rfl ?_
  refine kz_iconst (pc := 112) hX dX10_init_112 ki_5 ?_
  refine kz_sipush (pc := 113) hX dX10_init_113 ks_500 ?_
  refine kz_iast (pc := 116) hX dX10_init_116 ly_70 rfl (by decide) ?_
  refine kz_dup (pc := 117) hX dX10_init_117 rfl ?_
  refine kz_bipush (pc := 118) hX dX10_init_118 kb_6 ?_
  refine kz_sipush (pc := 120) hX dX10_init_120 ks_500 ?_
  refine kz_iast (pc := 123) hX dX10_init_123 ly_70 rfl (by decide) ?_
  refine kz_dup (pc := 124) hX dX10_init_124 rfl ?_
  refine kz_bipush (pc := 125) hX dX10_init_125 kb_7 ?_
  refine kz_sipush (pc := 127) hX dX10_init_127 ks_500 ?_
  refine kz_iast (pc := 130) hX dX10_init_130 ly_70 rfl (by decide) ?_
  refine kz_dup (pc := 131) hX dX10_init_131 rfl ?_
  refine kz_bipush (pc := 132) hX dX10_init_132 kb_8 ?_
  refine kz_sipush (pc := 134) hX dX10_init_134 ks_500 ?_
  refine kz_iast (pc := 137) hX dX10_init_137 ly_70 rfl (by decide) ?_
  refine kz_dup (pc := 138) hX dX10_init_138 rfl ?_
  refine kz_bipush (pc := 139) hX dX10_init_139 kb_9 ?_
  refine kz_sipush (pc := 141) hX dX10_init_141 ks_500 ?_
  refine kz_iast (pc := 144) hX dX10_init_144 ly_70 rfl (by decide) ?_
  refine kz_putr (q := 70) (pc := 145) hX hin dX10_init_145 ff_1363 ly_61 rfl rfl rfl rfl rfl ?_
  refine kz_aload0 (pc := 148) hX dX10_init_148 ?_
  refine kz_sipush (pc := 149) hX dX10_init_149 ks_800 ?_
  refine kz_newa (pc := 152) (t0 := 0) hX dX10_init_152 rfl ta_int ly_71 (et_t0 w) (tz_int 800) (by decide) (by decide) (by decide) rfl rfl ?_
  refine kz_putr (q := 71) (pc := 154) hX hin dX10_init_154 ff_1364 ly_61 rfl rfl rfl rfl rfl ?_
  refine kz_aload0 (pc := 157) hX dX10_init_157 ?_
  refine kz_iconst (pc := 158) hX dX10_init_158 ki_m1 ?_
  refine kz_puti (pc := 159) hX dX10_init_159 fl_1367 ly_61 rfl rfl rfl ?_
  refine kz_aload0 (pc := 162) hX dX10_init_162 ?_
  refine kz_iconst (pc := 163) hX dX10_init_163 ki_3 ?_
  refine kz_newa (pc := 164) (t0 := 0) hX dX10_init_164 rfl ta_int ly_72 (et_t0 w) (tz_int 3) (by decide) (by decide) (by decide) rfl rfl ?_
  refine kz_putr (q := 72) (pc := 166) hX hin dX10_init_166 ff_1368 ly_61 rfl rfl rfl rfl rfl ?_
  refine kz_aload0 (pc := 169) hX dX10_init_169 ?_
  refine kz_bipush (pc := 170) hX dX10_init_170 kb_108 ?_
  refine kz_newa (pc := 172) (t0 := 0) hX dX10_init_172 rfl ta_int ly_73 (et_t0 w) (tz_int 108) (by decide) (by decide) (by decide) rfl rfl ?_
  refine kz_putr (q := 73) (pc := 174) hX hin dX10_init_174 ff_1385 ly_61 rfl rfl rfl rfl rfl ?_
  refine kz_aload0 (pc := 177) hX dX10_init_177 ?_
  refine kz_sipush (pc := 178) hX dX10_init_178 ks_135 ?_
  refine kz_newa (pc := 181) (t0 := 0) hX dX10_init_181 rfl ta_int ly_74 (et_t0 w) (tz_int 135) (by decide) (by decide) (by decide) rfl rfl ?_
  refine kz_putr (q := 74) (pc := 183) hX hin dX10_init_183 ff_1386 ly_61 rfl rfl rfl rfl rfl ?_
  refine kz_aload0 (pc := 186) hX dX10_init_186 ?_
  refine kz_sipush (pc := 187) hX dX10_init_187 ks_162 ?_
  refine kz_newa (pc := 190) (t0 := 0) hX dX10_init_190 rfl ta_int ly_75 (et_t0 w) (tz_int 162) (by decide) (by decide) (by decide) rfl rfl ?_
  refine kz_putr (q := 75) (pc := 192) hX hin dX10_init_192 ff_1387 ly_61 rfl rfl rfl rfl rfl ?_
  refine kz_aload0 (pc := 195) hX dX10_init_195 ?_
  refine kz_bipush (pc := 196) hX dX10_init_196 kb_9 ?_
  refine kz_newa (pc := 198) (t0 := 0) hX dX10_init_198 rfl ta_int ly_76 (et_t0 w) (tz_int 9) (by decide) (by decide) (by decide) rfl rfl ?_
  refine kz_putr (q := 76) (pc := 200) hX hin dX10_init_200 ff_1388 ly_61 rfl rfl rfl rfl rfl ?_
  refine kz_aload0 (pc := 203) hX dX10_init_203 ?_
  refine kz_bipush (pc := 204) hX dX10_init_204 kb_40 ?_
  refine kz_newa (pc := 206) (t0 := 0) hX dX10_init_206 rfl ta_int ly_77 (et_t0 w) (tz_int 40) (by decide) (by decide) (by decide) rfl rfl ?_
  refine kz_putr (q := 77) (pc := 208) hX hin dX10_init_208 ff_1389 ly_61 rfl rfl rfl rfl rfl ?_
  refine kz_aload0 (pc := 211) hX dX10_init_211 ?_
  refine kz_bipush (pc := 212) hX dX10_init_212 kb_30 ?_
  refine kz_newa (pc := 214) (t0 := 0) hX dX10_init_214 rfl ta_int ly_78 (et_t0 w) (tz_int 30) (by decide) (by decide) (by decide) rfl rfl ?_
  refine kz_putr (q := 78) (pc := 216) hX hin dX10_init_216 ff_1390 ly_61 rfl rfl rfl rfl rfl ?_
  refine kz_aload0 (pc := 219) hX dX10_init_219 ?_
  refine kz_bipush (pc := 220) hX dX10_init_220 kb_6 ?_
  refine kz_newa (pc := 222) (t0 := 0) hX dX10_init_222 rfl ta_int ly_79 (et_t0 w) (tz_int 6) (by decide) (by decide) (by decide) rfl rfl ?_
  refine kz_putr (q := 79) (pc := 224) hX hin dX10_init_224 ff_1391 ly_61 rfl rfl rfl rfl rfl ?_
  refine kz_aload0 (pc := 227) hX dX10_init_227 ?_
  refine kz_sipush (pc := 228) hX dX10_init_228 ks_144 ?_
  refine kz_newa (pc := 231) (t0 := 0) hX dX10_init_231 rfl ta_int ly_80 (et_t0 w) (tz_int 144) (by decide) (by decide) (by decide) rfl rfl ?_
  refine kz_putr (q := 80) (pc := 233) hX hin dX10_init_233 ff_1392 ly_61 rfl rfl rfl rfl rfl ?_
  refine kz_aload0 (pc := 236) hX dX10_init_236 ?_
  refine kz_bipush (pc := 237) hX dX10_init_237 kb_10 ?_
  refine kz_newa (pc := 239) (t0 := 0) hX dX10_init_239 rfl ta_int ly_81 (et_t0 w) (tz_int 10) (by decide) (by decide) (by decide) rfl rfl ?_
  refine kz_putr (q := 81) (pc := 241) hX hin dX10_init_241 ff_1393 ly_61 rfl rfl rfl rfl rfl ?_
  refine kz_aload0 (pc := 244) hX dX10_init_244 ?_
  refine kz_bipush (pc := 245) hX dX10_init_245 kb_32 ?_
  refine kz_newa (pc := 247) (t0 := 0) hX dX10_init_247 rfl ta_int ly_82 (et_t0 w) (tz_int 32) (by decide) (by decide) (by decide) rfl rfl ?_
  refine kz_putr (q := 82) (pc := 249) hX hin dX10_init_249 ff_1394 ly_61 rfl rfl rfl rfl rfl ?_
  refine kz_aload0 (pc := 252) hX dX10_init_252 ?_
  refine kz_sipush (pc := 253) hX dX10_init_253 ks_180 ?_
  refine kz_newa (pc := 256) (t0 := 0) hX dX10_init_256 rfl ta_int ly_83 (et_t0 w) (tz_int 180) (by decide) (by decide) (by decide) rfl rfl ?_
  refine kz_putr (q := 83) (pc := 258) hX hin dX10_init_258 ff_1395 ly_61 rfl rfl rfl rfl rfl ?_
  refine kz_aload0 (pc := 261) hX dX10_init_261 ?_
  refine kz_bipush (pc := 262) hX dX10_init_262 kb_100 ?_
  refine kz_newa (pc := 264) (t0 := 0) hX dX10_init_264 rfl ta_int ly_84 (et_t0 w) (tz_int 100) (by decide) (by decide) (by decide) rfl rfl ?_
  refine kz_putr (q := 84) (pc := 266) hX hin dX10_init_266 ff_1399 ly_61 rfl rfl rfl rfl rfl ?_
  refine kz_aload0 (pc := 269) hX dX10_init_269 ?_
  refine kz_sipush (pc := 270) hX dX10_init_270 ks_180 ?_
  refine kz_newa (pc := 273) (t0 := 0) hX dX10_init_273 rfl ta_int ly_85 (et_t0 w) (tz_int 180) (by decide) (by decide) (by decide) rfl rfl ?_
  refine kz_putr (q := 85) (pc := 275) hX hin dX10_init_275 ff_1400 ly_61 rfl rfl rfl rfl rfl ?_
  refine kz_aload0 (pc := 278) hX dX10_init_278 ?_
  refine kz_bipush (pc := 279) hX dX10_init_279 kb_20 ?_
  refine kz_newa (pc := 281) (t0 := 0) hX dX10_init_281 rfl ta_int ly_86 (et_t0 w) (tz_int 20) (by decide) (by decide) (by decide) rfl rfl ?_
  refine kz_putr (q := 86) (pc := 283) hX hin dX10_init_283 ff_1401 ly_61 rfl rfl rfl rfl rfl ?_
  refine kz_aload0 (pc := 286) hX dX10_init_286 ?_
  refine kz_bipush (pc := 287) hX dX10_init_287 kb_20 ?_
  refine kz_newa (pc := 289) (t0 := 0) hX dX10_init_289 rfl ta_int ly_87 (et_t0 w) (tz_int 20) (by decide) (by decide) (by decide) rfl rfl ?_
  refine kz_putr (q := 87) (pc := 291) hX hin dX10_init_291 ff_1402 ly_61 rfl rfl rfl rfl rfl ?_
  refine kz_aload0 (pc := 294) hX dX10_init_294 ?_
  refine kz_bipush (pc := 295) hX dX10_init_295 kb_21 ?_
  refine kz_newa (pc := 297) (t0 := 0) hX dX10_init_297 rfl ta_int ly_88 (et_t0 w) (tz_int 21) (by decide) (by decide) (by decide) rfl rfl ?_
  refine kz_putr (q := 88) (pc := 299) hX hin dX10_init_299 ff_1403 ly_61 rfl rfl rfl rfl rfl ?_
  refine kz_aload0 (pc := 302) hX dX10_init_302 ?_
  refine kz_bipush (pc := 303) hX dX10_init_303 kb_21 ?_
  refine kz_newa (pc := 305) (t0 := 0) hX dX10_init_305 rfl ta_int ly_89 (et_t0 w) (tz_int 21) (by decide) (by decide) (by decide) rfl rfl ?_
  refine kz_putr (q := 89) (pc := 307) hX hin dX10_init_307 ff_1404 ly_61 rfl rfl rfl rfl rfl ?_
  refine kz_aload0 (pc := 310) hX dX10_init_310 ?_
  refine kz_bipush (pc := 311) hX dX10_init_311 kb_20 ?_
  refine kz_newa (pc := 313) (t0 := 0) hX dX10_init_313 rfl ta_int ly_90 (et_t0 w) (tz_int 20) (by decide) (by decide) (by decide) rfl rfl ?_
  refine kz_putr (q := 90) (pc := 315) hX hin dX10_init_315 ff_1405 ly_61 rfl rfl rfl rfl rfl ?_
  refine kz_aload0 (pc := 318) hX dX10_init_318 ?_
  refine kz_sipush (pc := 319) hX dX10_init_319 ks_168 ?_
  refine kz_newa (pc := 322) (t0 := 0) hX dX10_init_322 rfl ta_int ly_91 (et_t0 w) (tz_int 168) (by decide) (by decide) (by decide) rfl rfl ?_
  refine kz_putr (q := 91) (pc := 324) hX hin dX10_init_324 ff_1406 ly_61 rfl rfl rfl rfl rfl ?_
  refine kz_aload0 (pc := 327) hX dX10_init_327 ?_
  refine kz_bipush (pc := 328) hX dX10_init_328 kb_20 ?_
  refine kz_newa (pc := 330) (t0 := 0) hX dX10_init_330 rfl ta_int ly_92 (et_t0 w) (tz_int 20) (by decide) (by decide) (by decide) rfl rfl ?_
  refine kz_putr (q := 92) (pc := 332) hX hin dX10_init_332 ff_1411 ly_61 rfl rfl rfl rfl rfl ?_
  refine kz_aload0 (pc := 335) hX dX10_init_335 ?_
  refine kz_sipush (pc := 336) hX dX10_init_336 ks_168 ?_
  refine kz_newa (pc := 339) (t0 := 0) hX dX10_init_339 rfl ta_int ly_93 (et_t0 w) (tz_int 168) (by decide) (by decide) (by decide) rfl rfl ?_
  refine kz_putr (q := 93) (pc := 341) hX hin dX10_init_341 ff_1412 ly_61 rfl rfl rfl rfl rfl ?_
  refine kz_aload0 (pc := 344) hX dX10_init_344 ?_
  refine kz_iconst (pc := 345) hX dX10_init_345 ki_m1 ?_
  refine kz_puti (pc := 346) hX dX10_init_346 fl_1413 ly_61 rfl rfl rfl ?_
  refine kz_aload0 (pc := 349) hX dX10_init_349 ?_
  refine kz_bipush (pc := 350) hX dX10_init_350 kb_20 ?_
  refine kz_newa (pc := 352) (t0 := 0) hX dX10_init_352 rfl ta_int ly_94 (et_t0 w) (tz_int 20) (by decide) (by decide) (by decide) rfl rfl ?_
  refine kz_putr (q := 94) (pc := 354) hX hin dX10_init_354 ff_1414 ly_61 rfl rfl rfl rfl rfl ?_
  refine kz_aload0 (pc := 357) hX dX10_init_357 ?_
  refine kz_bipush (pc := 358) hX dX10_init_358 kb_100 ?_
  refine kz_newa (pc := 360) (t0 := 0) hX dX10_init_360 rfl ta_int ly_95 (et_t0 w) (tz_int 100) (by decide) (by decide) (by decide) rfl rfl ?_
  refine kz_putr (q := 95) (pc := 362) hX hin dX10_init_362 ff_1421 ly_61 rfl rfl rfl rfl rfl ?_
  exact kz_ret (pc := 365) hX dX10_init_365 rfl rfl)
