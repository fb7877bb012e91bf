/-! strings: the reader's constants, their length and letters -/
def et_SR (own : String) (i q : Nat) : Prop := own = "EndingTown$Reader" ∧ ∃ k, k < 13 ∧ i = et_six.getD k 0 ∧ q = 1000 + k
theorem sr_0 : et_SR RX4 90 1000 := ⟨rfl, 0, by decide, rfl, rfl⟩
theorem sr_1 : et_SR RX4 104 1001 := ⟨rfl, 1, by decide, rfl, rfl⟩
theorem sr_2 : et_SR RX4 109 1002 := ⟨rfl, 2, by decide, rfl, rfl⟩
theorem sr_3 : et_SR RX4 114 1003 := ⟨rfl, 3, by decide, rfl, rfl⟩
theorem sr_4 : et_SR RX4 119 1004 := ⟨rfl, 4, by decide, rfl, rfl⟩
theorem sr_5 : et_SR RX4 124 1005 := ⟨rfl, 5, by decide, rfl, rfl⟩
theorem sr_6 : et_SR RX4 129 1006 := ⟨rfl, 6, by decide, rfl, rfl⟩
theorem sr_7 : et_SR RX4 134 1007 := ⟨rfl, 7, by decide, rfl, rfl⟩
theorem sr_8 : et_SR RX4 139 1008 := ⟨rfl, 8, by decide, rfl, rfl⟩
theorem sr_9 : et_SR RX4 144 1009 := ⟨rfl, 9, by decide, rfl, rfl⟩
theorem sr_10 : et_SR RX4 148 1010 := ⟨rfl, 10, by decide, rfl, rfl⟩
theorem sr_11 : et_SR RX4 230 1011 := ⟨rfl, 11, by decide, rfl, rfl⟩
theorem sr_12 : et_SR RX4 234 1012 := ⟨rfl, 12, by decide, rfl, rfl⟩
theorem dJ0_length_8abf5_0 : decode cJ0_length_8abf5 0 = .ok (.aload_n 0, 1) := by decide +kernel
theorem dJ0_length_8abf5_1 : decode cJ0_length_8abf5 1 = .ok (.getfield 9, 3) := by decide +kernel
theorem dJ0_length_8abf5_4 : decode cJ0_length_8abf5 4 = .ok (.arraylength, 1) := by decide +kernel
theorem dJ0_length_8abf5_5 : decode cJ0_length_8abf5 5 = .ok (.aload_n 0, 1) := by decide +kernel
theorem dJ0_length_8abf5_6 : decode cJ0_length_8abf5 6 = .ok (.invokevirtual 335, 3) := by decide +kernel
theorem dJ0_length_8abf5_9 : decode cJ0_length_8abf5 9 = .ok (.ishr, 1) := by decide +kernel
theorem dJ0_length_8abf5_10 : decode cJ0_length_8abf5 10 = .ok (.ireturn, 1) := by decide +kernel
theorem dJ0_charAt_5068e_0 : decode cJ0_charAt_5068e 0 = .ok (.aload_n 0, 1) := by decide +kernel
theorem dJ0_charAt_5068e_1 : decode cJ0_charAt_5068e 1 = .ok (.invokevirtual 492, 3) := by decide +kernel
theorem dJ0_charAt_5068e_4 : decode cJ0_charAt_5068e 4 = .ok (.ifCond .eq 12, 3) := by decide +kernel
theorem dJ0_charAt_5068e_7 : decode cJ0_charAt_5068e 7 = .ok (.aload_n 0, 1) := by decide +kernel
theorem dJ0_charAt_5068e_8 : decode cJ0_charAt_5068e 8 = .ok (.getfield 9, 3) := by decide +kernel
theorem dJ0_charAt_5068e_11 : decode cJ0_charAt_5068e 11 = .ok (.iload_n 1, 1) := by decide +kernel
theorem dJ0_charAt_5068e_12 : decode cJ0_charAt_5068e 12 = .ok (.invokestatic 495, 3) := by decide +kernel
theorem dJ0_charAt_5068e_15 : decode cJ0_charAt_5068e 15 = .ok (.ireturn, 1) := by decide +kernel
theorem dJ0_charAt_5068e_16 : decode cJ0_charAt_5068e 16 = .ok (.aload_n 0, 1) := by decide +kernel
theorem dJ0_charAt_5068e_17 : decode cJ0_charAt_5068e 17 = .ok (.getfield 9, 3) := by decide +kernel
theorem dJ0_charAt_5068e_20 : decode cJ0_charAt_5068e 20 = .ok (.iload_n 1, 1) := by decide +kernel
theorem dJ0_charAt_5068e_21 : decode cJ0_charAt_5068e 21 = .ok (.invokestatic 498, 3) := by decide +kernel
theorem dJ0_charAt_5068e_24 : decode cJ0_charAt_5068e 24 = .ok (.ireturn, 1) := by decide +kernel
theorem dJ0_coder_7d493_0 : decode cJ0_coder_7d493 0 = .ok (.getstatic 38, 3) := by decide +kernel
theorem dJ0_coder_7d493_3 : decode cJ0_coder_7d493 3 = .ok (.ifCond .eq 10, 3) := by decide +kernel
theorem dJ0_coder_7d493_6 : decode cJ0_coder_7d493 6 = .ok (.aload_n 0, 1) := by decide +kernel
theorem dJ0_coder_7d493_7 : decode cJ0_coder_7d493 7 = .ok (.getfield 15, 3) := by decide +kernel
theorem dJ0_coder_7d493_10 : decode cJ0_coder_7d493 10 = .ok (.goto 4, 3) := by decide +kernel
theorem dJ0_coder_7d493_13 : decode cJ0_coder_7d493 13 = .ok (.iconst 1, 1) := by decide +kernel
theorem dJ0_coder_7d493_14 : decode cJ0_coder_7d493 14 = .ok (.ireturn, 1) := by decide +kernel
theorem dJ0_isLatin1_aae02_0 : decode cJ0_isLatin1_aae02 0 = .ok (.getstatic 38, 3) := by decide +kernel
theorem dJ0_isLatin1_aae02_3 : decode cJ0_isLatin1_aae02 3 = .ok (.ifCond .eq 14, 3) := by decide +kernel
theorem dJ0_isLatin1_aae02_6 : decode cJ0_isLatin1_aae02 6 = .ok (.aload_n 0, 1) := by decide +kernel
theorem dJ0_isLatin1_aae02_7 : decode cJ0_isLatin1_aae02 7 = .ok (.getfield 15, 3) := by decide +kernel
theorem dJ0_isLatin1_aae02_10 : decode cJ0_isLatin1_aae02 10 = .ok (.ifCond .ne 7, 3) := by decide +kernel
theorem dJ0_isLatin1_aae02_13 : decode cJ0_isLatin1_aae02 13 = .ok (.iconst 1, 1) := by decide +kernel
theorem dJ0_isLatin1_aae02_14 : decode cJ0_isLatin1_aae02 14 = .ok (.goto 4, 3) := by decide +kernel
theorem dJ0_isLatin1_aae02_17 : decode cJ0_isLatin1_aae02 17 = .ok (.iconst 0, 1) := by decide +kernel
theorem dJ0_isLatin1_aae02_18 : decode cJ0_isLatin1_aae02 18 = .ok (.ireturn, 1) := by decide +kernel
theorem dJ0_checkIndex_df160_0 : decode cJ0_checkIndex_df160 0 = .ok (.iload_n 0, 1) := by decide +kernel
theorem dJ0_checkIndex_df160_1 : decode cJ0_checkIndex_df160 1 = .ok (.iload_n 1, 1) := by decide +kernel
theorem dJ0_checkIndex_df160_2 : decode cJ0_checkIndex_df160 2 = .ok (.getstatic 1053, 3) := by decide +kernel
theorem dJ0_checkIndex_df160_5 : decode cJ0_checkIndex_df160 5 = .ok (.invokestatic 1059, 3) := by decide +kernel
theorem dJ0_checkIndex_df160_8 : decode cJ0_checkIndex_df160 8 = .ok (.pop, 1) := by decide +kernel
theorem dJ0_checkIndex_df160_9 : decode cJ0_checkIndex_df160 9 = .ok (.return_, 1) := by decide +kernel
theorem dJ1_charAt_3b067_0 : decode cJ1_charAt_3b067 0 = .ok (.iload_n 1, 1) := by decide +kernel
theorem dJ1_charAt_3b067_1 : decode cJ1_charAt_3b067 1 = .ok (.aload_n 0, 1) := by decide +kernel
theorem dJ1_charAt_3b067_2 : decode cJ1_charAt_3b067 2 = .ok (.arraylength, 1) := by decide +kernel
theorem dJ1_charAt_3b067_3 : decode cJ1_charAt_3b067 3 = .ok (.invokestatic 9, 3) := by decide +kernel
theorem dJ1_charAt_3b067_6 : decode cJ1_charAt_3b067 6 = .ok (.aload_n 0, 1) := by decide +kernel
theorem dJ1_charAt_3b067_7 : decode cJ1_charAt_3b067 7 = .ok (.iload_n 1, 1) := by decide +kernel
theorem dJ1_charAt_3b067_8 : decode cJ1_charAt_3b067 8 = .ok (.baload, 1) := by decide +kernel
theorem dJ1_charAt_3b067_9 : decode cJ1_charAt_3b067 9 = .ok (.sipush 255, 3) := by decide +kernel
theorem dJ1_charAt_3b067_12 : decode cJ1_charAt_3b067 12 = .ok (.iand, 1) := by decide +kernel
theorem dJ1_charAt_3b067_13 : decode cJ1_charAt_3b067 13 = .ok (.i2c, 1) := by decide +kernel
theorem dJ1_charAt_3b067_14 : decode cJ1_charAt_3b067 14 = .ok (.ireturn, 1) := by decide +kernel
theorem dJ3_checkIndex_8e157_0 : decode cJ3_checkIndex_8e157 0 = .ok (.iload_n 0, 1) := by decide +kernel
theorem dJ3_checkIndex_8e157_1 : decode cJ3_checkIndex_8e157 1 = .ok (.ifCond .lt 8, 3) := by decide +kernel
theorem dJ3_checkIndex_8e157_4 : decode cJ3_checkIndex_8e157 4 = .ok (.iload_n 0, 1) := by decide +kernel
theorem dJ3_checkIndex_8e157_5 : decode cJ3_checkIndex_8e157 5 = .ok (.iload_n 1, 1) := by decide +kernel
theorem dJ3_checkIndex_8e157_6 : decode cJ3_checkIndex_8e157 6 = .ok (.if_icmp .lt 10, 3) := by decide +kernel
theorem dJ3_checkIndex_8e157_9 : decode cJ3_checkIndex_8e157 9 = .ok (.aload_n 2, 1) := by decide +kernel
theorem dJ3_checkIndex_8e157_10 : decode cJ3_checkIndex_8e157 10 = .ok (.iload_n 0, 1) := by decide +kernel
theorem dJ3_checkIndex_8e157_11 : decode cJ3_checkIndex_8e157 11 = .ok (.iload_n 1, 1) := by decide +kernel
theorem dJ3_checkIndex_8e157_12 : decode cJ3_checkIndex_8e157 12 = .ok (.invokestatic 95, 3) := by decide +kernel
theorem dJ3_checkIndex_8e157_15 : decode cJ3_checkIndex_8e157 15 = .ok (.athrow, 1) := by decide +kernel
theorem dJ3_checkIndex_8e157_16 : decode cJ3_checkIndex_8e157 16 = .ok (.iload_n 0, 1) := by decide +kernel
theorem dJ3_checkIndex_8e157_17 : decode cJ3_checkIndex_8e157 17 = .ok (.ireturn, 1) := by decide +kernel
theorem dX4_is_0 : decode cX4_is 0 = .ok (.aload_n 0, 1) := by decide +kernel
theorem dX4_is_1 : decode cX4_is 1 = .ok (.getfield 49, 3) := by decide +kernel
theorem dX4_is_4 : decode cX4_is 4 = .ok (.iconst 1, 1) := by decide +kernel
theorem dX4_is_5 : decode cX4_is 5 = .ok (.if_icmp .ne 14, 3) := by decide +kernel
theorem dX4_is_8 : decode cX4_is 8 = .ok (.aload_n 0, 1) := by decide +kernel
theorem dX4_is_9 : decode cX4_is 9 = .ok (.getfield 78, 3) := by decide +kernel
theorem dX4_is_12 : decode cX4_is 12 = .ok (.aload_n 1, 1) := by decide +kernel
theorem dX4_is_13 : decode cX4_is 13 = .ok (.invokevirtual 81, 3) := by decide +kernel
theorem dX4_is_16 : decode cX4_is 16 = .ok (.if_icmp .eq 5, 3) := by decide +kernel
theorem dX4_is_19 : decode cX4_is 19 = .ok (.iconst 0, 1) := by decide +kernel
theorem dX4_is_20 : decode cX4_is 20 = .ok (.ireturn, 1) := by decide +kernel
theorem dX4_is_21 : decode cX4_is 21 = .ok (.iconst 0, 1) := by decide +kernel
theorem dX4_is_22 : decode cX4_is 22 = .ok (.istore_n 2, 1) := by decide +kernel
theorem dX4_is_23 : decode cX4_is 23 = .ok (.iload_n 2, 1) := by decide +kernel
theorem dX4_is_24 : decode cX4_is 24 = .ok (.aload_n 1, 1) := by decide +kernel
theorem dX4_is_25 : decode cX4_is 25 = .ok (.invokevirtual 81, 3) := by decide +kernel
theorem dX4_is_28 : decode cX4_is 28 = .ok (.if_icmp .ge 30, 3) := by decide +kernel
theorem dX4_is_31 : decode cX4_is 31 = .ok (.aload_n 0, 1) := by decide +kernel
theorem dX4_is_32 : decode cX4_is 32 = .ok (.getfield 15, 3) := by decide +kernel
theorem dX4_is_35 : decode cX4_is 35 = .ok (.aload_n 0, 1) := by decide +kernel
theorem dX4_is_36 : decode cX4_is 36 = .ok (.getfield 59, 3) := by decide +kernel
theorem dX4_is_39 : decode cX4_is 39 = .ok (.iload_n 2, 1) := by decide +kernel
theorem dX4_is_40 : decode cX4_is 40 = .ok (.iadd, 1) := by decide +kernel
theorem dX4_is_41 : decode cX4_is 41 = .ok (.baload, 1) := by decide +kernel
theorem dX4_is_42 : decode cX4_is 42 = .ok (.aload_n 1, 1) := by decide +kernel
theorem dX4_is_43 : decode cX4_is 43 = .ok (.iload_n 2, 1) := by decide +kernel
theorem dX4_is_44 : decode cX4_is 44 = .ok (.invokevirtual 86, 3) := by decide +kernel
theorem dX4_is_47 : decode cX4_is 47 = .ok (.if_icmp .eq 5, 3) := by decide +kernel
theorem dX4_is_50 : decode cX4_is 50 = .ok (.iconst 0, 1) := by decide +kernel
theorem dX4_is_51 : decode cX4_is 51 = .ok (.ireturn, 1) := by decide +kernel
theorem dX4_is_52 : decode cX4_is 52 = .ok (.iinc 2 1, 3) := by decide +kernel
theorem dX4_is_55 : decode cX4_is 55 = .ok (.goto (-32), 3) := by decide +kernel
theorem dX4_is_58 : decode cX4_is 58 = .ok (.iconst 1, 1) := by decide +kernel
theorem dX4_is_59 : decode cX4_is 59 = .ok (.ireturn, 1) := by decide +kernel
theorem tw_818 : Cond.methodLink RJ0 335 yJ0_coder_7d493 ∈ et_tb := et_mt 818 (by decide +kernel) rfl
theorem tw_828 : Cond.methodLink RJ0 492 yJ0_isLatin1_aae02 ∈ et_tb := et_mt 828 (by decide +kernel) rfl
theorem tw_832 : Cond.methodLink RJ0 495 yJ1_charAt_3b067 ∈ et_tb := et_mt 832 (by decide +kernel) rfl
theorem tw_835 : Cond.methodLink RJ1 9 yJ0_checkIndex_df160 ∈ et_tb := et_mt 835 (by decide +kernel) rfl
theorem tw_840 : Cond.methodLink RJ0 1059 yJ3_checkIndex_8e157 ∈ et_tb := et_mt 840 (by decide +kernel) rfl
theorem tw_822 : Cond.fieldLink RJ0 38 "java/lang/String" "COMPACT_STRINGS" "Z" ∈ et_tb := et_mt 822 (by decide +kernel) rfl
theorem tw_838 : Cond.fieldLink RJ0 1053 "jdk/internal/util/Preconditions" "SIOOBE_FORMATTER" "Ljava/util/function/BiFunction;" ∈ et_tb := et_mt 838 (by decide +kernel) rfl
theorem tw_1923 : Cond.fieldLink RJ0 9 "java/lang/String" "value" "[B" ∈ et_tb := et_mt 1923 (by decide +kernel) rfl
theorem tw_1924 : Cond.fieldLink RJ0 15 "java/lang/String" "coder" "B" ∈ et_tb := et_mt 1924 (by decide +kernel) rfl
theorem tw_814 : Cond.methodLink RX4 81 yJ0_length_8abf5 ∈ et_tb := et_mt 814 (by decide +kernel) rfl
theorem tw_824 : Cond.methodLink RX4 86 yJ0_charAt_5068e ∈ et_tb := et_mt 824 (by decide +kernel) rfl
theorem mw_J0_length_8abf5 : et_MD yJ0_length_8abf5 cJ0_length_8abf5 1 (some .int) 0 := ⟨et_mt 817 (by decide +kernel) rfl, et_mt 129 (by decide +kernel) rfl, ⟨by decide, by decide⟩, fun sig h => by have h2 : (parseMethodDescriptor (yJ0_length_8abf5).desc).map (fun d => d.parameters.length) = some 0 := (by decide +kernel); rw [h] at h2; exact (Option.some.inj h2).symm⟩
theorem iw_J0_length_8abf5 : Cond.instanceMethod yJ0_length_8abf5 ∈ et_tb ∧ Cond.selects RJ0 yJ0_length_8abf5 yJ0_length_8abf5 ∈ et_tb := ⟨et_mt 815 (by decide +kernel) rfl, et_mt 816 (by decide +kernel) rfl⟩
theorem mw_J0_charAt_5068e : et_MD yJ0_charAt_5068e cJ0_charAt_5068e 2 (some .char) 1 := ⟨et_mt 827 (by decide +kernel) rfl, et_mt 129 (by decide +kernel) rfl, ⟨by decide, by decide⟩, fun sig h => by have h2 : (parseMethodDescriptor (yJ0_charAt_5068e).desc).map (fun d => d.parameters.length) = some 1 := (by decide +kernel); rw [h] at h2; exact (Option.some.inj h2).symm⟩
theorem iw_J0_charAt_5068e : Cond.instanceMethod yJ0_charAt_5068e ∈ et_tb ∧ Cond.selects RJ0 yJ0_charAt_5068e yJ0_charAt_5068e ∈ et_tb := ⟨et_mt 825 (by decide +kernel) rfl, et_mt 826 (by decide +kernel) rfl⟩
theorem mw_J0_coder_7d493 : et_MD yJ0_coder_7d493 cJ0_coder_7d493 1 (some .byte) 0 := ⟨et_mt 821 (by decide +kernel) rfl, et_mt 129 (by decide +kernel) rfl, ⟨by decide, by decide⟩, fun sig h => by have h2 : (parseMethodDescriptor (yJ0_coder_7d493).desc).map (fun d => d.parameters.length) = some 0 := (by decide +kernel); rw [h] at h2; exact (Option.some.inj h2).symm⟩
theorem iw_J0_coder_7d493 : Cond.instanceMethod yJ0_coder_7d493 ∈ et_tb ∧ Cond.selects RJ0 yJ0_coder_7d493 yJ0_coder_7d493 ∈ et_tb := ⟨et_mt 819 (by decide +kernel) rfl, et_mt 820 (by decide +kernel) rfl⟩
theorem mw_J0_isLatin1_aae02 : et_MD yJ0_isLatin1_aae02 cJ0_isLatin1_aae02 1 (some .boolean) 0 := ⟨et_mt 831 (by decide +kernel) rfl, et_mt 129 (by decide +kernel) rfl, ⟨by decide, by decide⟩, fun sig h => by have h2 : (parseMethodDescriptor (yJ0_isLatin1_aae02).desc).map (fun d => d.parameters.length) = some 0 := (by decide +kernel); rw [h] at h2; exact (Option.some.inj h2).symm⟩
theorem iw_J0_isLatin1_aae02 : Cond.instanceMethod yJ0_isLatin1_aae02 ∈ et_tb ∧ Cond.selects RJ0 yJ0_isLatin1_aae02 yJ0_isLatin1_aae02 ∈ et_tb := ⟨et_mt 829 (by decide +kernel) rfl, et_mt 830 (by decide +kernel) rfl⟩
theorem mw_J0_checkIndex_df160 : et_MD yJ0_checkIndex_df160 cJ0_checkIndex_df160 2 (none) 2 := ⟨et_mt 837 (by decide +kernel) rfl, et_mt 129 (by decide +kernel) rfl, ⟨by decide, by decide⟩, fun sig h => by have h2 : (parseMethodDescriptor (yJ0_checkIndex_df160).desc).map (fun d => d.parameters.length) = some 2 := (by decide +kernel); rw [h] at h2; exact (Option.some.inj h2).symm⟩
theorem sw_J0_checkIndex_df160 : Cond.static yJ0_checkIndex_df160 ∈ et_tb := et_mt 836 (by decide +kernel) rfl
theorem mw_J1_charAt_3b067 : et_MD yJ1_charAt_3b067 cJ1_charAt_3b067 2 (some .char) 2 := ⟨et_mt 834 (by decide +kernel) rfl, et_mt 130 (by decide +kernel) rfl, ⟨by decide, by decide⟩, fun sig h => by have h2 : (parseMethodDescriptor (yJ1_charAt_3b067).desc).map (fun d => d.parameters.length) = some 2 := (by decide +kernel); rw [h] at h2; exact (Option.some.inj h2).symm⟩
theorem sw_J1_charAt_3b067 : Cond.static yJ1_charAt_3b067 ∈ et_tb := et_mt 833 (by decide +kernel) rfl
theorem mw_J3_checkIndex_8e157 : et_MD yJ3_checkIndex_8e157 cJ3_checkIndex_8e157 3 (some .int) 3 := ⟨et_mt 842 (by decide +kernel) rfl, et_mt 131 (by decide +kernel) rfl, ⟨by decide, by decide⟩, fun sig h => by have h2 : (parseMethodDescriptor (yJ3_checkIndex_8e157).desc).map (fun d => d.parameters.length) = some 3 := (by decide +kernel); rw [h] at h2; exact (Option.some.inj h2).symm⟩
theorem sw_J3_checkIndex_8e157 : Cond.static yJ3_checkIndex_8e157 ∈ et_tb := et_mt 841 (by decide +kernel) rfl
theorem et_uw {ws : List Cond} (ps : List Nat) (h : ws = ps.filterMap (fun i => lw_tbl[i]?)) (hg : ws.all et_gw = true) : ∀ q ∈ ws, q ∈ et_tb := by
  intro q hq
  have h1 := List.all_eq_true.mp hg q hq
  rw [h] at hq
  obtain ⟨i, -, hi⟩ := List.mem_filterMap.mp hq
  exact et_mt i hi h1
theorem is_w4 : ∀ q ∈ u_ws RX4 TX4 11, q ∈ et_tb := et_uw [279, 281, 283, 285, 287, 289, 291, 293, 295, 297, 299] (by decide +kernel) (by decide +kernel)
theorem fs_49 : et_FL RX4 49 4 3 (.int) false := ⟨RX4, TX4, 11, tyX4, rfl, by decide, is_w4, et_mt 270 (by decide +kernel) rfl, tyX4_ok, nmX4, rfl, rfl⟩
theorem fs_78 : et_FL RX4 78 4 5 (.int) false := ⟨RX4, TX4, 11, tyX4, rfl, by decide, is_w4, et_mt 272 (by decide +kernel) rfl, tyX4_ok, nmX4, rfl, rfl⟩
theorem fs_59 : et_FL RX4 59 4 4 (.int) false := ⟨RX4, TX4, 11, tyX4, rfl, by decide, is_w4, et_mt 271 (by decide +kernel) rfl, tyX4_ok, nmX4, rfl, rfl⟩
theorem fs_15 : et_FL RX4 15 4 0 (.array .byte) true := ⟨RX4, TX4, 11, tyX4, rfl, by decide, is_w4, et_mt 267 (by decide +kernel) rfl, tyX4_ok, nmX4, rfl, rfl⟩
section ZS
variable {α β : Type} {X : et_X} {w : et_W} {u pc nL : Nat} {enc : α → et_O} {b : ByteArray} {own : String} {ret : Option FieldType} {tb : List ExceptionTableEntry} {rm : Room} {lv r : List (Option Value)} {st : List Value} {g : et_G} {o : Option (α × et_G)} {idx n i : Nat}
theorem et_Sane.strs (h : et_Sane w) : et_Strs w := h.2.2.2.2.2.2
theorem et_vkS {s : State} (h : et_Sane w) (hU : et_U w s) : vk_S 13 et_sln et_sby (fun i => et_ad w (1000 + i)) (fun i => et_ad w (2000 + i)) (et_A w) s s.heap := (h.strs.1.kept (fun a h1 _ => hU.2.2 a h1)).moved hU.1.alike
theorem zi_ldcs {i q : Nat} (hX : et_Gd X w b own nL ret tb rm) (hd : decode b pc = .ok (.ldc i, 2)) (hs : et_SR own i q) (kk : et_Z X w u enc (pc + 2) lv (.ref (et_ad w q) :: st) g o) : et_Z X w u enc pc lv st g o := by
  obtain ⟨p, l, e, R, s, m, args, below, meth, c⟩ := X
  intro a1 g1 ho H locs ls hP hS hlv
  obtain ⟨hx, hb, hml, hown, hts, hr, hlocks, hsane, hU, htb, hlt, rfl⟩ := hX
  obtain ⟨rfl, k, hk, rfl, rfl⟩ := hs
  exact va_ldcS hx hb hown (vk_R.warm hU.1 (hsane.strs.2.1 k hk)) hd (kk a1 g1 ho H locs ls hP hS hlv)
theorem zi_gcs (hX : et_Gd X w b own nL ret tb rm) (hd : decode b pc = .ok (.getstatic idx, 3)) (hl : Cond.fieldLink own idx "java/lang/String" "COMPACT_STRINGS" "Z" ∈ et_tb) (kk : et_Z X w u enc (pc + 3) lv (.int 1 :: st) g o) : et_Z X w u enc pc lv st g o := by
  obtain ⟨p, l, e, R, s, m, args, below, meth, c⟩ := X
  intro a1 g1 ho H locs ls hP hS hlv
  obtain ⟨hx, hb, hml, hown, hts, hr, hlocks, hsane, hU, htb, hlt, rfl⟩ := hX
  exact va_gets hx hb ((hsane.strs.2.2.1.kept (fun a h1 _ => hU.2.2 a h1)).moved hU.1.alike) hS hown (hts _ hl) (fun _ h => h) hd (kk a1 g1 ho H locs ls hP hS hlv)
theorem zi_gsf (hX : et_Gd X w b own nL ret tb rm) (hd : decode b pc = .ok (.getstatic idx, 3)) (hl : Cond.fieldLink own idx "jdk/internal/util/Preconditions" "SIOOBE_FORMATTER" "Ljava/util/function/BiFunction;" ∈ et_tb) (kk : ∀ v : Value, v.category = 1 → et_Z X w u enc (pc + 3) lv (v :: st) g o) : et_Z X w u enc pc lv st g o := by
  obtain ⟨p, l, e, R, s, m, args, below, meth, c⟩ := X
  intro a1 g1 ho H locs ls hP hS hlv
  obtain ⟨hx, hb, hml, hown, hts, hr, hlocks, hsane, hU, htb, hlt, rfl⟩ := hX
  rcases ((hsane.strs.2.2.2.1.kept (fun a h1 _ => hU.2.2 a h1)).moved hU.1.alike : va_Zq _ _ _ (et_A w) s s.heap) with hz | ⟨t, hz⟩
  · exact va_gets hx hb hz hS hown (hts _ hl) (fun _ h => h) hd (kk .null rfl a1 g1 ho H locs ls hP hS hlv)
  · exact va_gets hx hb hz hS hown (hts _ hl) (fun _ h => h) hd (kk (.ref t) rfl a1 g1 ho H locs ls hP hS hlv)
theorem zi_sgc (hi : i < 13) (hX : et_Gd X w b own nL ret tb rm) (hd : decode b pc = .ok (.getfield idx, 3)) (hl : Cond.fieldLink own idx "java/lang/String" "coder" "B" ∈ et_tb) (kk : et_Z X w u enc (pc + 3) lv (.int 0 :: st) g o) : et_Z X w u enc pc lv (.ref (et_ad w (1000 + i)) :: st) g o := by
  obtain ⟨p, l, e, R, s, m, args, below, meth, c⟩ := X
  intro a1 g1 ho H locs ls hP hS hlv
  obtain ⟨hx, hb, hml, hown, hts, hr, hlocks, hsane, hU, htb, hlt, rfl⟩ := hX
  exact vk_getf hx hb ((et_vkS hsane hU).1 i hi).2.1 hS hown (hts _ hl) (fun _ h => h) hd (kk a1 g1 ho H locs ls hP hS hlv)
theorem zi_sgv (hi : i < 13) (hX : et_Gd X w b own nL ret tb rm) (hd : decode b pc = .ok (.getfield idx, 3)) (hl : Cond.fieldLink own idx "java/lang/String" "value" "[B" ∈ et_tb) (kk : et_Z X w u enc (pc + 3) lv (.ref (et_ad w (2000 + i)) :: st) g o) : et_Z X w u enc pc lv (.ref (et_ad w (1000 + i)) :: st) g o := by
  obtain ⟨p, l, e, R, s, m, args, below, meth, c⟩ := X
  intro a1 g1 ho H locs ls hP hS hlv
  obtain ⟨hx, hb, hml, hown, hts, hr, hlocks, hsane, hU, htb, hlt, rfl⟩ := hX
  exact vk_getf hx hb ((et_vkS hsane hU).1 i hi).2.2.1 hS hown (hts _ hl) (fun _ h => h) hd (kk a1 g1 ho H locs ls hP hS hlv)
theorem zi_sln (hi : i < 13) (hX : et_Gd X w b own nL ret tb rm) (hd : decode b pc = .ok (.arraylength, 1)) (kk : et_Z X w u enc (pc + 1) lv (.int (Int32.ofNat (et_sln.getD i 0)) :: st) g o) : et_Z X w u enc pc lv (.ref (et_ad w (2000 + i)) :: st) g o := by
  obtain ⟨p, l, e, R, s, m, args, below, meth, c⟩ := X
  intro a1 g1 ho H locs ls hP hS hlv
  obtain ⟨hx, hb, hml, hown, hts, hr, hlocks, hsane, hU, htb, hlt, rfl⟩ := hX
  exact va_tlen hx hb ((et_vkS hsane hU).1 i hi).2.2.2 hS rfl hd (kk a1 g1 ho H locs ls hP hS hlv)
theorem zi_sba (hi : i < 13) {j : Int32} (hX : et_Gd X w b own nL ret tb rm) (hd : decode b pc = .ok (.baload, 1)) (kk : et_Z X w u enc (pc + 1) lv (.int ((et_sby.getD i []).getD j.toNatClampNeg 0) :: st) g o) : et_Z X w u enc pc lv (.int j :: .ref (et_ad w (2000 + i)) :: st) g (et_ck (et_ib j (et_sln.getD i 0)) o) := by
  refine zi_ck fun hin => ?_
  obtain ⟨p, l, e, R, s, m, args, below, meth, c⟩ := X
  intro a1 g1 ho H locs ls hP hS hlv
  obtain ⟨hx, hb, hml, hown, hts, hr, hlocks, hsane, hU, htb, hlt, rfl⟩ := hX
  exact va_tb hx hb ((et_vkS hsane hU).1 i hi).2.2.2 hS (et_ib_in hin) rfl hd (kk a1 g1 ho H locs ls hP hS hlv)
theorem zi_if_eqF {x : Int32} {off : Int} (tgt : Nat) (hX : et_Gd X w b own nL ret tb rm) (hd : decode b pc = .ok (.ifCond .eq off, 3)) (ht : (pc : Int) + off = (tgt : Int)) (h : ¬ x = 0) (kf : et_Z X w u enc (pc + 3) lv st g o) : et_Z X w u enc pc lv (.int x :: st) g o := by
  obtain ⟨p, l, e, R, s, m, args, below, meth, c⟩ := X
  intro a1 g1 ho H locs ls hP hS hlv
  exact lv_if_eq hX.1 hX.2.1 hd ht (fun h2 => absurd h2 h) (fun _ => kf a1 g1 ho H locs ls hP hS hlv)
theorem zi_if_neF {x : Int32} {off : Int} (tgt : Nat) (hX : et_Gd X w b own nL ret tb rm) (hd : decode b pc = .ok (.ifCond .ne off, 3)) (ht : (pc : Int) + off = (tgt : Int)) (h : x = 0) (kf : et_Z X w u enc (pc + 3) lv st g o) : et_Z X w u enc pc lv (.int x :: st) g o := by
  obtain ⟨p, l, e, R, s, m, args, below, meth, c⟩ := X
  intro a1 g1 ho H locs ls hP hS hlv
  exact lv_if_ne hX.1 hX.2.1 hd ht (fun h2 => absurd h h2) (fun _ => kf a1 g1 ho H locs ls hP hS hlv)
theorem zi_if_ltF {x : Int32} {off : Int} (tgt : Nat) (hX : et_Gd X w b own nL ret tb rm) (hd : decode b pc = .ok (.ifCond .lt off, 3)) (ht : (pc : Int) + off = (tgt : Int)) (h : ¬ x < 0) (kf : et_Z X w u enc (pc + 3) lv st g o) : et_Z X w u enc pc lv (.int x :: st) g o := by
  obtain ⟨p, l, e, R, s, m, args, below, meth, c⟩ := X
  intro a1 g1 ho H locs ls hP hS hlv
  exact lv_if_lt hX.1 hX.2.1 hd ht (fun h2 => absurd h2 h) (fun _ => kf a1 g1 ho H locs ls hP hS hlv)
theorem zi_icmp_ltT {x y : Int32} {off : Int} (tgt : Nat) (hX : et_Gd X w b own nL ret tb rm) (hd : decode b pc = .ok (.if_icmp .lt off, 3)) (ht : (pc : Int) + off = (tgt : Int)) (h : x < y) (kt : et_Z X w u enc tgt lv st g o) : et_Z X w u enc pc lv (.int y :: .int x :: st) g o := by
  obtain ⟨p, l, e, R, s, m, args, below, meth, c⟩ := X
  intro a1 g1 ho H locs ls hP hS hlv
  exact lv_icmp_lt hX.1 hX.2.1 hd ht (fun _ => kt a1 g1 ho H locs ls hP hS hlv) (fun h2 => absurd h h2)
theorem zc_vstr (hi : i < 13) {encC : β → et_O} {y : MethodName} {b1 : ByteArray} {nL1 : Nat} {ret1 : Option FieldType} {rm1 : Room} {As : List Value} {F : Option (β × et_G)} (hX : et_Gd X w b own nL ret tb rm) (hd : decode b pc = .ok (.invokevirtual idx, 3)) (hl : Cond.methodLink own idx y ∈ et_tb) (hm : et_MD y b1 nL1 ret1 n) (hq : Cond.instanceMethod y ∈ et_tb ∧ Cond.selects "java/lang/String" y y ∈ et_tb)
    (hC : et_C w y (Cond.code y b1 nL1 ret1) rm1 encC (.ref (et_ad w (1000 + i)) :: As) g F) (hn : As.length = n) (hst : Nat.ble ((st.map fun v => v.category).sum) 8 = true) (hrs : et_rs rm rm1 nL1 u = true) : et_Call X w u pc rm1.cells lv (As.reverse ++ .ref (et_ad w (1000 + i)) :: st) st g encC F := by
  obtain ⟨p, l, e, R, s, m, args, below, meth, c⟩ := X
  intro x g1 hF H locs ls hP hS hlv
  obtain ⟨hx, hb, hml, hown, hts, hr, hlocks, hsane, hU, htb, hlt, rfl⟩ := hX
  obtain ⟨r1, r2, r3, r4⟩ := et_rs_ok hrs
  have hpre := et_pre (w := w) (g := g) (avs := .ref (et_ad w (1000 + i)) :: As) hU hS hP
  have hM := hC l hlt x g1 hF
  rw [r4] at hM
  exact ⟨_, vx_runV (C := "java/lang/String") (n := n) (nL := c.maxLocals) (Ts := et_tb) ⟨hx, hb, rfl, hown, hts⟩ hM ⟨et_cb hts hm hl r1 r4, hts _ hq.1, hts _ hq.2⟩ ⟨hpre.1, vk_recv (et_vkS hsane hU) hi hS, hpre.2⟩ rfl hn hlv.1 rfl (by simpa using Nat.le_of_ble_eq_true hst) hd ⟨r2, r3⟩⟩
/-- a call whose answer is known -/
theorem zi_callK {v : Int32} {mc : Nat} {st0 : List Value} (hc : et_Call X w u pc mc lv st0 st g et_eI (some (v, g))) (kk : et_Z X w (u + mc) enc (pc + 3) lv (.int v :: st) g o) : et_Z X w u enc pc lv st0 g o := by
  obtain ⟨p, l, e, R, s, m, args, below, meth, c⟩ := X
  intro a1 g2 ho H locs ls hP hS hlv
  obtain ⟨a, hr⟩ := hc v g rfl H locs ls hP hS hlv
  exact et_callE hr hS (fun v hv H1 locs1 hP1 hS1 => by cases hv; exact kk a1 g2 ho H1 locs1 ls hP1 hS1 hlv) (fun k hk => by cases hk)
end ZS
