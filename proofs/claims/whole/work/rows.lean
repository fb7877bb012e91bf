section
-- ===== PART A: goes FIRST, ahead of the names: the tables' words, and 'selects' of the private methods out of them =====
/-- a private method of a class that the tables say can be made, by its rows of tables_1 -/
def lw_okq (q : MethodName × Nat) : Prop := (q.1.cls ≠ "java/lang/invoke/MethodHandle" ∧ q.1.cls ≠ "java/lang/invoke/VarHandle") ∧ Cond.instantiable q.1.cls q.2 ∈ tables_1 ∧ Cond.privateMethod q.1 ∈ tables_1 ∧ Cond.instanceMethod q.1 ∈ tables_1
theorem lw_p0 : lw_okq (⟨"EndingTown", "putBytes", "(I)V"⟩, 18) := ⟨⟨by decide +kernel, by decide +kernel⟩, List.mem_of_getElem? (i := 26) (by decide +kernel), List.mem_of_getElem? (i := 440) (by decide +kernel), List.mem_of_getElem? (i := 441) (by decide +kernel)⟩
theorem lw_p1 : lw_okq (⟨"EndingTown$Ground", "heardBy", "(II)I"⟩, 17) := ⟨⟨by decide +kernel, by decide +kernel⟩, List.mem_of_getElem? (i := 299) (by decide +kernel), List.mem_of_getElem? (i := 471) (by decide +kernel), List.mem_of_getElem? (i := 472) (by decide +kernel)⟩
theorem lw_p2 : lw_okq (⟨"EndingTown$Mender", "fewest", "()I"⟩, 4) := ⟨⟨by decide +kernel, by decide +kernel⟩, List.mem_of_getElem? (i := 360) (by decide +kernel), List.mem_of_getElem? (i := 508) (by decide +kernel), List.mem_of_getElem? (i := 509) (by decide +kernel)⟩
theorem lw_p3 : lw_okq (⟨"EndingTown$Ground", "rising", "(III)I"⟩, 17) := ⟨⟨by decide +kernel, by decide +kernel⟩, List.mem_of_getElem? (i := 299) (by decide +kernel), List.mem_of_getElem? (i := 520) (by decide +kernel), List.mem_of_getElem? (i := 521) (by decide +kernel)⟩
theorem lw_p4 : lw_okq (⟨"EndingTown$Ground", "standingHows", "(III)I"⟩, 17) := ⟨⟨by decide +kernel, by decide +kernel⟩, List.mem_of_getElem? (i := 299) (by decide +kernel), List.mem_of_getElem? (i := 525) (by decide +kernel), List.mem_of_getElem? (i := 526) (by decide +kernel)⟩
theorem lw_p5 : lw_okq (⟨"EndingTown$Ground", "widenAll", "(II)Z"⟩, 17) := ⟨⟨by decide +kernel, by decide +kernel⟩, List.mem_of_getElem? (i := 299) (by decide +kernel), List.mem_of_getElem? (i := 540) (by decide +kernel), List.mem_of_getElem? (i := 541) (by decide +kernel)⟩
theorem lw_p6 : lw_okq (⟨"EndingTown$Ground", "widened", "(III)I"⟩, 17) := ⟨⟨by decide +kernel, by decide +kernel⟩, List.mem_of_getElem? (i := 299) (by decide +kernel), List.mem_of_getElem? (i := 544) (by decide +kernel), List.mem_of_getElem? (i := 545) (by decide +kernel)⟩
theorem lw_p7 : lw_okq (⟨"EndingTown$Ground", "widest", "(II)I"⟩, 17) := ⟨⟨by decide +kernel, by decide +kernel⟩, List.mem_of_getElem? (i := 299) (by decide +kernel), List.mem_of_getElem? (i := 556) (by decide +kernel), List.mem_of_getElem? (i := 557) (by decide +kernel)⟩
theorem lw_p8 : lw_okq (⟨"EndingTown", "takeTape", "(I)V"⟩, 18) := ⟨⟨by decide +kernel, by decide +kernel⟩, List.mem_of_getElem? (i := 26) (by decide +kernel), List.mem_of_getElem? (i := 597) (by decide +kernel), List.mem_of_getElem? (i := 598) (by decide +kernel)⟩
theorem lw_p9 : lw_okq (⟨"java/lang/Throwable", "fillInStackTrace", "(I)Ljava/lang/Throwable;"⟩, 6) := ⟨⟨by decide +kernel, by decide +kernel⟩, List.mem_of_getElem? (i := 638) (by decide +kernel), List.mem_of_getElem? (i := 636) (by decide +kernel), List.mem_of_getElem? (i := 637) (by decide +kernel)⟩
theorem lw_p10 : lw_okq (⟨"EndingTown$Reader", "step", "()V"⟩, 11) := ⟨⟨by decide +kernel, by decide +kernel⟩, List.mem_of_getElem? (i := 151) (by decide +kernel), List.mem_of_getElem? (i := 678) (by decide +kernel), List.mem_of_getElem? (i := 679) (by decide +kernel)⟩
theorem lw_p11 : lw_okq (⟨"EndingTown$Reader", "takeDigits", "()V"⟩, 11) := ⟨⟨by decide +kernel, by decide +kernel⟩, List.mem_of_getElem? (i := 151) (by decide +kernel), List.mem_of_getElem? (i := 691) (by decide +kernel), List.mem_of_getElem? (i := 692) (by decide +kernel)⟩
theorem lw_p12 : lw_okq (⟨"EndingTown$Reader", "readLine", "(LEndingTown$Town;)Z"⟩, 11) := ⟨⟨by decide +kernel, by decide +kernel⟩, List.mem_of_getElem? (i := 151) (by decide +kernel), List.mem_of_getElem? (i := 695) (by decide +kernel), List.mem_of_getElem? (i := 696) (by decide +kernel)⟩
theorem lw_p13 : lw_okq (⟨"EndingTown$Reader", "is", "(Ljava/lang/String;)Z"⟩, 11) := ⟨⟨by decide +kernel, by decide +kernel⟩, List.mem_of_getElem? (i := 151) (by decide +kernel), List.mem_of_getElem? (i := 700) (by decide +kernel), List.mem_of_getElem? (i := 701) (by decide +kernel)⟩
theorem lw_p14 : lw_okq (⟨"EndingTown$Reader", "stemLine", "(LEndingTown$Tongue;)Z"⟩, 11) := ⟨⟨by decide +kernel, by decide +kernel⟩, List.mem_of_getElem? (i := 151) (by decide +kernel), List.mem_of_getElem? (i := 752) (by decide +kernel), List.mem_of_getElem? (i := 753) (by decide +kernel)⟩
theorem lw_p15 : lw_okq (⟨"EndingTown$Reader", "refuse", "(I)Z"⟩, 11) := ⟨⟨by decide +kernel, by decide +kernel⟩, List.mem_of_getElem? (i := 151) (by decide +kernel), List.mem_of_getElem? (i := 756) (by decide +kernel), List.mem_of_getElem? (i := 757) (by decide +kernel)⟩
def lw_privs_1 : List (MethodName × Nat) := [(⟨"EndingTown", "putBytes", "(I)V"⟩, 18), (⟨"EndingTown$Ground", "heardBy", "(II)I"⟩, 17), (⟨"EndingTown$Mender", "fewest", "()I"⟩, 4), (⟨"EndingTown$Ground", "rising", "(III)I"⟩, 17), (⟨"EndingTown$Ground", "standingHows", "(III)I"⟩, 17), (⟨"EndingTown$Ground", "widenAll", "(II)Z"⟩, 17), (⟨"EndingTown$Ground", "widened", "(III)I"⟩, 17), (⟨"EndingTown$Ground", "widest", "(II)I"⟩, 17), (⟨"EndingTown", "takeTape", "(I)V"⟩, 18), (⟨"java/lang/Throwable", "fillInStackTrace", "(I)Ljava/lang/Throwable;"⟩, 6), (⟨"EndingTown$Reader", "step", "()V"⟩, 11), (⟨"EndingTown$Reader", "takeDigits", "()V"⟩, 11), (⟨"EndingTown$Reader", "readLine", "(LEndingTown$Town;)Z"⟩, 11), (⟨"EndingTown$Reader", "is", "(Ljava/lang/String;)Z"⟩, 11), (⟨"EndingTown$Reader", "stemLine", "(LEndingTown$Tongue;)Z"⟩, 11), (⟨"EndingTown$Reader", "refuse", "(I)Z"⟩, 11)]
theorem lw_r1 : ∀ q ∈ lw_privs_1, lw_okq q := List.forall_mem_cons.mpr ⟨lw_p0, List.forall_mem_cons.mpr ⟨lw_p1, List.forall_mem_cons.mpr ⟨lw_p2, List.forall_mem_cons.mpr ⟨lw_p3, List.forall_mem_cons.mpr ⟨lw_p4, List.forall_mem_cons.mpr ⟨lw_p5, List.forall_mem_cons.mpr ⟨lw_p6, List.forall_mem_cons.mpr ⟨lw_p7, List.forall_mem_cons.mpr ⟨lw_p8, List.forall_mem_cons.mpr ⟨lw_p9, List.forall_mem_cons.mpr ⟨lw_p10, List.forall_mem_cons.mpr ⟨lw_p11, List.forall_mem_cons.mpr ⟨lw_p12, List.forall_mem_cons.mpr ⟨lw_p13, List.forall_mem_cons.mpr ⟨lw_p14, List.forall_mem_cons.mpr ⟨lw_p15, fun _ h => absurd h List.not_mem_nil⟩⟩⟩⟩⟩⟩⟩⟩⟩⟩⟩⟩⟩⟩⟩⟩
theorem lw_p16 : lw_okq (⟨"EndingTown$Reader", "letters", "(LEndingTown$Tongue;I)Z"⟩, 11) := ⟨⟨by decide +kernel, by decide +kernel⟩, List.mem_of_getElem? (i := 151) (by decide +kernel), List.mem_of_getElem? (i := 760) (by decide +kernel), List.mem_of_getElem? (i := 761) (by decide +kernel)⟩
theorem lw_p17 : lw_okq (⟨"EndingTown$Reader", "semicolon", "()Z"⟩, 11) := ⟨⟨by decide +kernel, by decide +kernel⟩, List.mem_of_getElem? (i := 151) (by decide +kernel), List.mem_of_getElem? (i := 769) (by decide +kernel), List.mem_of_getElem? (i := 770) (by decide +kernel)⟩
theorem lw_p18 : lw_okq (⟨"EndingTown$Reader", "isSemicolon", "()Z"⟩, 11) := ⟨⟨by decide +kernel, by decide +kernel⟩, List.mem_of_getElem? (i := 151) (by decide +kernel), List.mem_of_getElem? (i := 773) (by decide +kernel), List.mem_of_getElem? (i := 774) (by decide +kernel)⟩
theorem lw_p19 : lw_okq (⟨"EndingTown$Reader", "endingLine", "(LEndingTown$Tongue;)Z"⟩, 11) := ⟨⟨by decide +kernel, by decide +kernel⟩, List.mem_of_getElem? (i := 151) (by decide +kernel), List.mem_of_getElem? (i := 778) (by decide +kernel), List.mem_of_getElem? (i := 779) (by decide +kernel)⟩
theorem lw_p20 : lw_okq (⟨"EndingTown$Reader", "number", "(I)Z"⟩, 11) := ⟨⟨by decide +kernel, by decide +kernel⟩, List.mem_of_getElem? (i := 151) (by decide +kernel), List.mem_of_getElem? (i := 782) (by decide +kernel), List.mem_of_getElem? (i := 783) (by decide +kernel)⟩
theorem lw_p21 : lw_okq (⟨"EndingTown$Reader", "isNumber", "(I)Z"⟩, 11) := ⟨⟨by decide +kernel, by decide +kernel⟩, List.mem_of_getElem? (i := 151) (by decide +kernel), List.mem_of_getElem? (i := 786) (by decide +kernel), List.mem_of_getElem? (i := 787) (by decide +kernel)⟩
theorem lw_p22 : lw_okq (⟨"EndingTown$Reader", "changeLine", "(LEndingTown$Tongue;)Z"⟩, 11) := ⟨⟨by decide +kernel, by decide +kernel⟩, List.mem_of_getElem? (i := 151) (by decide +kernel), List.mem_of_getElem? (i := 799) (by decide +kernel), List.mem_of_getElem? (i := 800) (by decide +kernel)⟩
theorem lw_p23 : lw_okq (⟨"EndingTown$Reader", "notLine", "(LEndingTown$Tongue;)Z"⟩, 11) := ⟨⟨by decide +kernel, by decide +kernel⟩, List.mem_of_getElem? (i := 151) (by decide +kernel), List.mem_of_getElem? (i := 807) (by decide +kernel), List.mem_of_getElem? (i := 808) (by decide +kernel)⟩
theorem lw_p24 : lw_okq (⟨"EndingTown$Reader", "placesLine", "(LEndingTown$Town;)Z"⟩, 11) := ⟨⟨by decide +kernel, by decide +kernel⟩, List.mem_of_getElem? (i := 151) (by decide +kernel), List.mem_of_getElem? (i := 816) (by decide +kernel), List.mem_of_getElem? (i := 817) (by decide +kernel)⟩
theorem lw_p25 : lw_okq (⟨"EndingTown$Reader", "nearLine", "(LEndingTown$Town;)Z"⟩, 11) := ⟨⟨by decide +kernel, by decide +kernel⟩, List.mem_of_getElem? (i := 151) (by decide +kernel), List.mem_of_getElem? (i := 821) (by decide +kernel), List.mem_of_getElem? (i := 822) (by decide +kernel)⟩
theorem lw_p26 : lw_okq (⟨"EndingTown$Reader", "oneOf", "(I)Z"⟩, 11) := ⟨⟨by decide +kernel, by decide +kernel⟩, List.mem_of_getElem? (i := 151) (by decide +kernel), List.mem_of_getElem? (i := 825) (by decide +kernel), List.mem_of_getElem? (i := 826) (by decide +kernel)⟩
theorem lw_p27 : lw_okq (⟨"EndingTown$Reader", "personLine", "(LEndingTown$Town;)Z"⟩, 11) := ⟨⟨by decide +kernel, by decide +kernel⟩, List.mem_of_getElem? (i := 151) (by decide +kernel), List.mem_of_getElem? (i := 830) (by decide +kernel), List.mem_of_getElem? (i := 831) (by decide +kernel)⟩
theorem lw_p28 : lw_okq (⟨"EndingTown$Reader", "thingLine", "(LEndingTown$Town;)Z"⟩, 11) := ⟨⟨by decide +kernel, by decide +kernel⟩, List.mem_of_getElem? (i := 151) (by decide +kernel), List.mem_of_getElem? (i := 835) (by decide +kernel), List.mem_of_getElem? (i := 836) (by decide +kernel)⟩
theorem lw_p29 : lw_okq (⟨"EndingTown$Reader", "thingSigns", "(LEndingTown$Town;I)Z"⟩, 11) := ⟨⟨by decide +kernel, by decide +kernel⟩, List.mem_of_getElem? (i := 151) (by decide +kernel), List.mem_of_getElem? (i := 843) (by decide +kernel), List.mem_of_getElem? (i := 844) (by decide +kernel)⟩
theorem lw_p30 : lw_okq (⟨"EndingTown$Reader", "ruleLine", "(LEndingTown$Town;)Z"⟩, 11) := ⟨⟨by decide +kernel, by decide +kernel⟩, List.mem_of_getElem? (i := 151) (by decide +kernel), List.mem_of_getElem? (i := 850) (by decide +kernel), List.mem_of_getElem? (i := 851) (by decide +kernel)⟩
theorem lw_p31 : lw_okq (⟨"EndingTown$Reader", "ruleGround", "(LEndingTown$Town;II)Z"⟩, 11) := ⟨⟨by decide +kernel, by decide +kernel⟩, List.mem_of_getElem? (i := 151) (by decide +kernel), List.mem_of_getElem? (i := 854) (by decide +kernel), List.mem_of_getElem? (i := 855) (by decide +kernel)⟩
def lw_privs_2 : List (MethodName × Nat) := [(⟨"EndingTown$Reader", "letters", "(LEndingTown$Tongue;I)Z"⟩, 11), (⟨"EndingTown$Reader", "semicolon", "()Z"⟩, 11), (⟨"EndingTown$Reader", "isSemicolon", "()Z"⟩, 11), (⟨"EndingTown$Reader", "endingLine", "(LEndingTown$Tongue;)Z"⟩, 11), (⟨"EndingTown$Reader", "number", "(I)Z"⟩, 11), (⟨"EndingTown$Reader", "isNumber", "(I)Z"⟩, 11), (⟨"EndingTown$Reader", "changeLine", "(LEndingTown$Tongue;)Z"⟩, 11), (⟨"EndingTown$Reader", "notLine", "(LEndingTown$Tongue;)Z"⟩, 11), (⟨"EndingTown$Reader", "placesLine", "(LEndingTown$Town;)Z"⟩, 11), (⟨"EndingTown$Reader", "nearLine", "(LEndingTown$Town;)Z"⟩, 11), (⟨"EndingTown$Reader", "oneOf", "(I)Z"⟩, 11), (⟨"EndingTown$Reader", "personLine", "(LEndingTown$Town;)Z"⟩, 11), (⟨"EndingTown$Reader", "thingLine", "(LEndingTown$Town;)Z"⟩, 11), (⟨"EndingTown$Reader", "thingSigns", "(LEndingTown$Town;I)Z"⟩, 11), (⟨"EndingTown$Reader", "ruleLine", "(LEndingTown$Town;)Z"⟩, 11), (⟨"EndingTown$Reader", "ruleGround", "(LEndingTown$Town;II)Z"⟩, 11)]
theorem lw_r2 : ∀ q ∈ lw_privs_2, lw_okq q := List.forall_mem_cons.mpr ⟨lw_p16, List.forall_mem_cons.mpr ⟨lw_p17, List.forall_mem_cons.mpr ⟨lw_p18, List.forall_mem_cons.mpr ⟨lw_p19, List.forall_mem_cons.mpr ⟨lw_p20, List.forall_mem_cons.mpr ⟨lw_p21, List.forall_mem_cons.mpr ⟨lw_p22, List.forall_mem_cons.mpr ⟨lw_p23, List.forall_mem_cons.mpr ⟨lw_p24, List.forall_mem_cons.mpr ⟨lw_p25, List.forall_mem_cons.mpr ⟨lw_p26, List.forall_mem_cons.mpr ⟨lw_p27, List.forall_mem_cons.mpr ⟨lw_p28, List.forall_mem_cons.mpr ⟨lw_p29, List.forall_mem_cons.mpr ⟨lw_p30, List.forall_mem_cons.mpr ⟨lw_p31, fun _ h => absurd h List.not_mem_nil⟩⟩⟩⟩⟩⟩⟩⟩⟩⟩⟩⟩⟩⟩⟩⟩
theorem lw_p32 : lw_okq (⟨"EndingTown$Reader", "atLine", "(LEndingTown$Town;)Z"⟩, 11) := ⟨⟨by decide +kernel, by decide +kernel⟩, List.mem_of_getElem? (i := 151) (by decide +kernel), List.mem_of_getElem? (i := 860) (by decide +kernel), List.mem_of_getElem? (i := 861) (by decide +kernel)⟩
theorem lw_p33 : lw_okq (⟨"EndingTown$Reader", "weighLine", "(LEndingTown$Town;)Z"⟩, 11) := ⟨⟨by decide +kernel, by decide +kernel⟩, List.mem_of_getElem? (i := 151) (by decide +kernel), List.mem_of_getElem? (i := 865) (by decide +kernel), List.mem_of_getElem? (i := 866) (by decide +kernel)⟩
theorem lw_p34 : lw_okq (⟨"EndingTown", "needPerson", "(I)V"⟩, 18) := ⟨⟨by decide +kernel, by decide +kernel⟩, List.mem_of_getElem? (i := 26) (by decide +kernel), List.mem_of_getElem? (i := 921) (by decide +kernel), List.mem_of_getElem? (i := 922) (by decide +kernel)⟩
theorem lw_p35 : lw_okq (⟨"EndingTown", "needHour", "(I)V"⟩, 18) := ⟨⟨by decide +kernel, by decide +kernel⟩, List.mem_of_getElem? (i := 26) (by decide +kernel), List.mem_of_getElem? (i := 929) (by decide +kernel), List.mem_of_getElem? (i := 930) (by decide +kernel)⟩
theorem lw_p36 : lw_okq (⟨"EndingTown", "needThing", "(I)V"⟩, 18) := ⟨⟨by decide +kernel, by decide +kernel⟩, List.mem_of_getElem? (i := 26) (by decide +kernel), List.mem_of_getElem? (i := 944) (by decide +kernel), List.mem_of_getElem? (i := 945) (by decide +kernel)⟩
theorem lw_p37 : lw_okq (⟨"EndingTown$Tongue", "firstChange", "(II)I"⟩, 6) := ⟨⟨by decide +kernel, by decide +kernel⟩, List.mem_of_getElem? (i := 40) (by decide +kernel), List.mem_of_getElem? (i := 968) (by decide +kernel), List.mem_of_getElem? (i := 969) (by decide +kernel)⟩
theorem lw_p38 : lw_okq (⟨"EndingTown$Tongue", "standsAt", "(III)Z"⟩, 6) := ⟨⟨by decide +kernel, by decide +kernel⟩, List.mem_of_getElem? (i := 40) (by decide +kernel), List.mem_of_getElem? (i := 973) (by decide +kernel), List.mem_of_getElem? (i := 974) (by decide +kernel)⟩
theorem lw_p39 : lw_okq (⟨"EndingTown$Tongue", "add", "(III)V"⟩, 6) := ⟨⟨by decide +kernel, by decide +kernel⟩, List.mem_of_getElem? (i := 40) (by decide +kernel), List.mem_of_getElem? (i := 980) (by decide +kernel), List.mem_of_getElem? (i := 981) (by decide +kernel)⟩
theorem lw_p40 : lw_okq (⟨"EndingTown$Ways", "keep", "(I)V"⟩, 2) := ⟨⟨by decide +kernel, by decide +kernel⟩, List.mem_of_getElem? (i := 192) (by decide +kernel), List.mem_of_getElem? (i := 1000) (by decide +kernel), List.mem_of_getElem? (i := 1001) (by decide +kernel)⟩
theorem lw_p41 : lw_okq (⟨"EndingTown$Utterance", "skipBlanks", "()V"⟩, 7) := ⟨⟨by decide +kernel, by decide +kernel⟩, List.mem_of_getElem? (i := 209) (by decide +kernel), List.mem_of_getElem? (i := 1034) (by decide +kernel), List.mem_of_getElem? (i := 1035) (by decide +kernel)⟩
theorem lw_p42 : lw_okq (⟨"EndingTown$Utterance", "takeWord", "()I"⟩, 7) := ⟨⟨by decide +kernel, by decide +kernel⟩, List.mem_of_getElem? (i := 209) (by decide +kernel), List.mem_of_getElem? (i := 1039) (by decide +kernel), List.mem_of_getElem? (i := 1040) (by decide +kernel)⟩
theorem lw_p43 : lw_okq (⟨"EndingTown$Utterance", "isOneWay", "(LEndingTown$Town;)Z"⟩, 7) := ⟨⟨by decide +kernel, by decide +kernel⟩, List.mem_of_getElem? (i := 209) (by decide +kernel), List.mem_of_getElem? (i := 1050) (by decide +kernel), List.mem_of_getElem? (i := 1051) (by decide +kernel)⟩
theorem lw_p44 : lw_okq (⟨"EndingTown$Ground", "settle", "()V"⟩, 17) := ⟨⟨by decide +kernel, by decide +kernel⟩, List.mem_of_getElem? (i := 299) (by decide +kernel), List.mem_of_getElem? (i := 1066) (by decide +kernel), List.mem_of_getElem? (i := 1067) (by decide +kernel)⟩
theorem lw_p45 : lw_okq (⟨"EndingTown$Ground", "openEyes", "()V"⟩, 17) := ⟨⟨by decide +kernel, by decide +kernel⟩, List.mem_of_getElem? (i := 299) (by decide +kernel), List.mem_of_getElem? (i := 1077) (by decide +kernel), List.mem_of_getElem? (i := 1078) (by decide +kernel)⟩
theorem lw_p46 : lw_okq (⟨"EndingTown$Ground", "openThingEyes", "(I)Z"⟩, 17) := ⟨⟨by decide +kernel, by decide +kernel⟩, List.mem_of_getElem? (i := 299) (by decide +kernel), List.mem_of_getElem? (i := 1081) (by decide +kernel), List.mem_of_getElem? (i := 1082) (by decide +kernel)⟩
theorem lw_p47 : lw_okq (⟨"EndingTown$Ground", "ruleEyes", "(II)I"⟩, 17) := ⟨⟨by decide +kernel, by decide +kernel⟩, List.mem_of_getElem? (i := 299) (by decide +kernel), List.mem_of_getElem? (i := 1085) (by decide +kernel), List.mem_of_getElem? (i := 1086) (by decide +kernel)⟩
def lw_privs_3 : List (MethodName × Nat) := [(⟨"EndingTown$Reader", "atLine", "(LEndingTown$Town;)Z"⟩, 11), (⟨"EndingTown$Reader", "weighLine", "(LEndingTown$Town;)Z"⟩, 11), (⟨"EndingTown", "needPerson", "(I)V"⟩, 18), (⟨"EndingTown", "needHour", "(I)V"⟩, 18), (⟨"EndingTown", "needThing", "(I)V"⟩, 18), (⟨"EndingTown$Tongue", "firstChange", "(II)I"⟩, 6), (⟨"EndingTown$Tongue", "standsAt", "(III)Z"⟩, 6), (⟨"EndingTown$Tongue", "add", "(III)V"⟩, 6), (⟨"EndingTown$Ways", "keep", "(I)V"⟩, 2), (⟨"EndingTown$Utterance", "skipBlanks", "()V"⟩, 7), (⟨"EndingTown$Utterance", "takeWord", "()I"⟩, 7), (⟨"EndingTown$Utterance", "isOneWay", "(LEndingTown$Town;)Z"⟩, 7), (⟨"EndingTown$Ground", "settle", "()V"⟩, 17), (⟨"EndingTown$Ground", "openEyes", "()V"⟩, 17), (⟨"EndingTown$Ground", "openThingEyes", "(I)Z"⟩, 17), (⟨"EndingTown$Ground", "ruleEyes", "(II)I"⟩, 17)]
theorem lw_r3 : ∀ q ∈ lw_privs_3, lw_okq q := List.forall_mem_cons.mpr ⟨lw_p32, List.forall_mem_cons.mpr ⟨lw_p33, List.forall_mem_cons.mpr ⟨lw_p34, List.forall_mem_cons.mpr ⟨lw_p35, List.forall_mem_cons.mpr ⟨lw_p36, List.forall_mem_cons.mpr ⟨lw_p37, List.forall_mem_cons.mpr ⟨lw_p38, List.forall_mem_cons.mpr ⟨lw_p39, List.forall_mem_cons.mpr ⟨lw_p40, List.forall_mem_cons.mpr ⟨lw_p41, List.forall_mem_cons.mpr ⟨lw_p42, List.forall_mem_cons.mpr ⟨lw_p43, List.forall_mem_cons.mpr ⟨lw_p44, List.forall_mem_cons.mpr ⟨lw_p45, List.forall_mem_cons.mpr ⟨lw_p46, List.forall_mem_cons.mpr ⟨lw_p47, fun _ h => absurd h List.not_mem_nil⟩⟩⟩⟩⟩⟩⟩⟩⟩⟩⟩⟩⟩⟩⟩⟩
theorem lw_p48 : lw_okq (⟨"EndingTown$Ground", "tailEyes", "(II)I"⟩, 17) := ⟨⟨by decide +kernel, by decide +kernel⟩, List.mem_of_getElem? (i := 299) (by decide +kernel), List.mem_of_getElem? (i := 1090) (by decide +kernel), List.mem_of_getElem? (i := 1091) (by decide +kernel)⟩
theorem lw_p49 : lw_okq (⟨"EndingTown$Ground", "eyesOfAll", "(I)I"⟩, 17) := ⟨⟨by decide +kernel, by decide +kernel⟩, List.mem_of_getElem? (i := 299) (by decide +kernel), List.mem_of_getElem? (i := 1094) (by decide +kernel), List.mem_of_getElem? (i := 1095) (by decide +kernel)⟩
theorem lw_p50 : lw_okq (⟨"EndingTown$Ground", "eyesNow", "(I)I"⟩, 17) := ⟨⟨by decide +kernel, by decide +kernel⟩, List.mem_of_getElem? (i := 299) (by decide +kernel), List.mem_of_getElem? (i := 1098) (by decide +kernel), List.mem_of_getElem? (i := 1099) (by decide +kernel)⟩
theorem lw_p51 : lw_okq (⟨"EndingTown$Ground", "isTold", "(II)Z"⟩, 17) := ⟨⟨by decide +kernel, by decide +kernel⟩, List.mem_of_getElem? (i := 299) (by decide +kernel), List.mem_of_getElem? (i := 1149) (by decide +kernel), List.mem_of_getElem? (i := 1150) (by decide +kernel)⟩
theorem lw_p52 : lw_okq (⟨"EndingTown$Minds", "worldsWith", "(IZ)I"⟩, 3) := ⟨⟨by decide +kernel, by decide +kernel⟩, List.mem_of_getElem? (i := 282) (by decide +kernel), List.mem_of_getElem? (i := 1192) (by decide +kernel), List.mem_of_getElem? (i := 1193) (by decide +kernel)⟩
theorem lw_p53 : lw_okq (⟨"EndingTown$Minds", "slot", "(I)I"⟩, 3) := ⟨⟨by decide +kernel, by decide +kernel⟩, List.mem_of_getElem? (i := 282) (by decide +kernel), List.mem_of_getElem? (i := 1196) (by decide +kernel), List.mem_of_getElem? (i := 1197) (by decide +kernel)⟩
theorem lw_p54 : lw_okq (⟨"EndingTown$Minds", "knowing", "(II)I"⟩, 3) := ⟨⟨by decide +kernel, by decide +kernel⟩, List.mem_of_getElem? (i := 282) (by decide +kernel), List.mem_of_getElem? (i := 1200) (by decide +kernel), List.mem_of_getElem? (i := 1201) (by decide +kernel)⟩
theorem lw_p55 : lw_okq (⟨"EndingTown$Minds", "distinguished", "(I)I"⟩, 3) := ⟨⟨by decide +kernel, by decide +kernel⟩, List.mem_of_getElem? (i := 282) (by decide +kernel), List.mem_of_getElem? (i := 1204) (by decide +kernel), List.mem_of_getElem? (i := 1205) (by decide +kernel)⟩
theorem lw_p56 : lw_okq (⟨"EndingTown$Minds", "alike", "(II)I"⟩, 3) := ⟨⟨by decide +kernel, by decide +kernel⟩, List.mem_of_getElem? (i := 282) (by decide +kernel), List.mem_of_getElem? (i := 1209) (by decide +kernel), List.mem_of_getElem? (i := 1210) (by decide +kernel)⟩
theorem lw_p57 : lw_okq (⟨"EndingTown$Minds", "realWorld", "()I"⟩, 3) := ⟨⟨by decide +kernel, by decide +kernel⟩, List.mem_of_getElem? (i := 282) (by decide +kernel), List.mem_of_getElem? (i := 1213) (by decide +kernel), List.mem_of_getElem? (i := 1214) (by decide +kernel)⟩
theorem lw_p58 : lw_okq (⟨"EndingTownModel", "lays", "(I)V"⟩, 74) := ⟨⟨by decide +kernel, by decide +kernel⟩, List.mem_of_getElem? (i := 1232) (by decide +kernel), List.mem_of_getElem? (i := 1469) (by decide +kernel), List.mem_of_getElem? (i := 1470) (by decide +kernel)⟩
theorem lw_p59 : lw_okq (⟨"EndingTownModel", "right", "(ZI)Z"⟩, 74) := ⟨⟨by decide +kernel, by decide +kernel⟩, List.mem_of_getElem? (i := 1232) (by decide +kernel), List.mem_of_getElem? (i := 1477) (by decide +kernel), List.mem_of_getElem? (i := 1478) (by decide +kernel)⟩
theorem lw_p60 : lw_okq (⟨"EndingTownModel", "empties", "()V"⟩, 74) := ⟨⟨by decide +kernel, by decide +kernel⟩, List.mem_of_getElem? (i := 1232) (by decide +kernel), List.mem_of_getElem? (i := 1481) (by decide +kernel), List.mem_of_getElem? (i := 1482) (by decide +kernel)⟩
theorem lw_p61 : lw_okq (⟨"EndingTownModel", "steps", "()V"⟩, 74) := ⟨⟨by decide +kernel, by decide +kernel⟩, List.mem_of_getElem? (i := 1232) (by decide +kernel), List.mem_of_getElem? (i := 1485) (by decide +kernel), List.mem_of_getElem? (i := 1486) (by decide +kernel)⟩
theorem lw_p62 : lw_okq (⟨"EndingTownModel", "byteAt", "(I)I"⟩, 74) := ⟨⟨by decide +kernel, by decide +kernel⟩, List.mem_of_getElem? (i := 1232) (by decide +kernel), List.mem_of_getElem? (i := 1489) (by decide +kernel), List.mem_of_getElem? (i := 1490) (by decide +kernel)⟩
theorem lw_p63 : lw_okq (⟨"EndingTownModel", "isGood", "()Z"⟩, 74) := ⟨⟨by decide +kernel, by decide +kernel⟩, List.mem_of_getElem? (i := 1232) (by decide +kernel), List.mem_of_getElem? (i := 1499) (by decide +kernel), List.mem_of_getElem? (i := 1500) (by decide +kernel)⟩
def lw_privs_4 : List (MethodName × Nat) := [(⟨"EndingTown$Ground", "tailEyes", "(II)I"⟩, 17), (⟨"EndingTown$Ground", "eyesOfAll", "(I)I"⟩, 17), (⟨"EndingTown$Ground", "eyesNow", "(I)I"⟩, 17), (⟨"EndingTown$Ground", "isTold", "(II)Z"⟩, 17), (⟨"EndingTown$Minds", "worldsWith", "(IZ)I"⟩, 3), (⟨"EndingTown$Minds", "slot", "(I)I"⟩, 3), (⟨"EndingTown$Minds", "knowing", "(II)I"⟩, 3), (⟨"EndingTown$Minds", "distinguished", "(I)I"⟩, 3), (⟨"EndingTown$Minds", "alike", "(II)I"⟩, 3), (⟨"EndingTown$Minds", "realWorld", "()I"⟩, 3), (⟨"EndingTownModel", "lays", "(I)V"⟩, 74), (⟨"EndingTownModel", "right", "(ZI)Z"⟩, 74), (⟨"EndingTownModel", "empties", "()V"⟩, 74), (⟨"EndingTownModel", "steps", "()V"⟩, 74), (⟨"EndingTownModel", "byteAt", "(I)I"⟩, 74), (⟨"EndingTownModel", "isGood", "()Z"⟩, 74)]
theorem lw_r4 : ∀ q ∈ lw_privs_4, lw_okq q := List.forall_mem_cons.mpr ⟨lw_p48, List.forall_mem_cons.mpr ⟨lw_p49, List.forall_mem_cons.mpr ⟨lw_p50, List.forall_mem_cons.mpr ⟨lw_p51, List.forall_mem_cons.mpr ⟨lw_p52, List.forall_mem_cons.mpr ⟨lw_p53, List.forall_mem_cons.mpr ⟨lw_p54, List.forall_mem_cons.mpr ⟨lw_p55, List.forall_mem_cons.mpr ⟨lw_p56, List.forall_mem_cons.mpr ⟨lw_p57, List.forall_mem_cons.mpr ⟨lw_p58, List.forall_mem_cons.mpr ⟨lw_p59, List.forall_mem_cons.mpr ⟨lw_p60, List.forall_mem_cons.mpr ⟨lw_p61, List.forall_mem_cons.mpr ⟨lw_p62, List.forall_mem_cons.mpr ⟨lw_p63, fun _ h => absurd h List.not_mem_nil⟩⟩⟩⟩⟩⟩⟩⟩⟩⟩⟩⟩⟩⟩⟩⟩
theorem lw_p64 : lw_okq (⟨"EndingTownModel", "line", "()V"⟩, 74) := ⟨⟨by decide +kernel, by decide +kernel⟩, List.mem_of_getElem? (i := 1232) (by decide +kernel), List.mem_of_getElem? (i := 1503) (by decide +kernel), List.mem_of_getElem? (i := 1504) (by decide +kernel)⟩
theorem lw_p65 : lw_okq (⟨"EndingTownModel", "is", "(I)Z"⟩, 74) := ⟨⟨by decide +kernel, by decide +kernel⟩, List.mem_of_getElem? (i := 1232) (by decide +kernel), List.mem_of_getElem? (i := 1507) (by decide +kernel), List.mem_of_getElem? (i := 1508) (by decide +kernel)⟩
theorem lw_p66 : lw_okq (⟨"EndingTownModel", "faults", "(I)V"⟩, 74) := ⟨⟨by decide +kernel, by decide +kernel⟩, List.mem_of_getElem? (i := 1232) (by decide +kernel), List.mem_of_getElem? (i := 1517) (by decide +kernel), List.mem_of_getElem? (i := 1518) (by decide +kernel)⟩
theorem lw_p67 : lw_okq (⟨"EndingTownModel", "word0", "([II)V"⟩, 74) := ⟨⟨by decide +kernel, by decide +kernel⟩, List.mem_of_getElem? (i := 1232) (by decide +kernel), List.mem_of_getElem? (i := 1521) (by decide +kernel), List.mem_of_getElem? (i := 1522) (by decide +kernel)⟩
theorem lw_p68 : lw_okq (⟨"EndingTownModel", "readsEnding", "()V"⟩, 74) := ⟨⟨by decide +kernel, by decide +kernel⟩, List.mem_of_getElem? (i := 1232) (by decide +kernel), List.mem_of_getElem? (i := 1525) (by decide +kernel), List.mem_of_getElem? (i := 1526) (by decide +kernel)⟩
theorem lw_p69 : lw_okq (⟨"EndingTownModel", "number", "(II)I"⟩, 74) := ⟨⟨by decide +kernel, by decide +kernel⟩, List.mem_of_getElem? (i := 1232) (by decide +kernel), List.mem_of_getElem? (i := 1529) (by decide +kernel), List.mem_of_getElem? (i := 1530) (by decide +kernel)⟩
theorem lw_p70 : lw_okq (⟨"EndingTownModel", "readsNear", "()V"⟩, 74) := ⟨⟨by decide +kernel, by decide +kernel⟩, List.mem_of_getElem? (i := 1232) (by decide +kernel), List.mem_of_getElem? (i := 1533) (by decide +kernel), List.mem_of_getElem? (i := 1534) (by decide +kernel)⟩
theorem lw_p71 : lw_okq (⟨"EndingTownModel", "among", "(I)I"⟩, 74) := ⟨⟨by decide +kernel, by decide +kernel⟩, List.mem_of_getElem? (i := 1232) (by decide +kernel), List.mem_of_getElem? (i := 1537) (by decide +kernel), List.mem_of_getElem? (i := 1538) (by decide +kernel)⟩
theorem lw_p72 : lw_okq (⟨"EndingTownModel", "amongHere", "(I)Z"⟩, 74) := ⟨⟨by decide +kernel, by decide +kernel⟩, List.mem_of_getElem? (i := 1232) (by decide +kernel), List.mem_of_getElem? (i := 1541) (by decide +kernel), List.mem_of_getElem? (i := 1542) (by decide +kernel)⟩
theorem lw_p73 : lw_okq (⟨"EndingTownModel", "readsThing", "()V"⟩, 74) := ⟨⟨by decide +kernel, by decide +kernel⟩, List.mem_of_getElem? (i := 1232) (by decide +kernel), List.mem_of_getElem? (i := 1545) (by decide +kernel), List.mem_of_getElem? (i := 1546) (by decide +kernel)⟩
theorem lw_p74 : lw_okq (⟨"EndingTownModel", "readsRule", "()V"⟩, 74) := ⟨⟨by decide +kernel, by decide +kernel⟩, List.mem_of_getElem? (i := 1232) (by decide +kernel), List.mem_of_getElem? (i := 1549) (by decide +kernel), List.mem_of_getElem? (i := 1550) (by decide +kernel)⟩
theorem lw_p75 : lw_okq (⟨"EndingTownModel", "readsAt", "()V"⟩, 74) := ⟨⟨by decide +kernel, by decide +kernel⟩, List.mem_of_getElem? (i := 1232) (by decide +kernel), List.mem_of_getElem? (i := 1553) (by decide +kernel), List.mem_of_getElem? (i := 1554) (by decide +kernel)⟩
theorem lw_p76 : lw_okq (⟨"EndingTownModel", "need", "(Z)V"⟩, 74) := ⟨⟨by decide +kernel, by decide +kernel⟩, List.mem_of_getElem? (i := 1232) (by decide +kernel), List.mem_of_getElem? (i := 1557) (by decide +kernel), List.mem_of_getElem? (i := 1558) (by decide +kernel)⟩
theorem lw_p77 : lw_okq (⟨"EndingTownModel", "copies", "([I[I)V"⟩, 74) := ⟨⟨by decide +kernel, by decide +kernel⟩, List.mem_of_getElem? (i := 1232) (by decide +kernel), List.mem_of_getElem? (i := 1561) (by decide +kernel), List.mem_of_getElem? (i := 1562) (by decide +kernel)⟩
theorem lw_p78 : lw_okq (⟨"EndingTownModel", "isWho", "(II)Z"⟩, 74) := ⟨⟨by decide +kernel, by decide +kernel⟩, List.mem_of_getElem? (i := 1232) (by decide +kernel), List.mem_of_getElem? (i := 1583) (by decide +kernel), List.mem_of_getElem? (i := 1584) (by decide +kernel)⟩
theorem lw_p79 : lw_okq (⟨"EndingTownModel", "isThing", "(I)Z"⟩, 74) := ⟨⟨by decide +kernel, by decide +kernel⟩, List.mem_of_getElem? (i := 1232) (by decide +kernel), List.mem_of_getElem? (i := 1591) (by decide +kernel), List.mem_of_getElem? (i := 1592) (by decide +kernel)⟩
def lw_privs_5 : List (MethodName × Nat) := [(⟨"EndingTownModel", "line", "()V"⟩, 74), (⟨"EndingTownModel", "is", "(I)Z"⟩, 74), (⟨"EndingTownModel", "faults", "(I)V"⟩, 74), (⟨"EndingTownModel", "word0", "([II)V"⟩, 74), (⟨"EndingTownModel", "readsEnding", "()V"⟩, 74), (⟨"EndingTownModel", "number", "(II)I"⟩, 74), (⟨"EndingTownModel", "readsNear", "()V"⟩, 74), (⟨"EndingTownModel", "among", "(I)I"⟩, 74), (⟨"EndingTownModel", "amongHere", "(I)Z"⟩, 74), (⟨"EndingTownModel", "readsThing", "()V"⟩, 74), (⟨"EndingTownModel", "readsRule", "()V"⟩, 74), (⟨"EndingTownModel", "readsAt", "()V"⟩, 74), (⟨"EndingTownModel", "need", "(Z)V"⟩, 74), (⟨"EndingTownModel", "copies", "([I[I)V"⟩, 74), (⟨"EndingTownModel", "isWho", "(II)Z"⟩, 74), (⟨"EndingTownModel", "isThing", "(I)Z"⟩, 74)]
theorem lw_r5 : ∀ q ∈ lw_privs_5, lw_okq q := List.forall_mem_cons.mpr ⟨lw_p64, List.forall_mem_cons.mpr ⟨lw_p65, List.forall_mem_cons.mpr ⟨lw_p66, List.forall_mem_cons.mpr ⟨lw_p67, List.forall_mem_cons.mpr ⟨lw_p68, List.forall_mem_cons.mpr ⟨lw_p69, List.forall_mem_cons.mpr ⟨lw_p70, List.forall_mem_cons.mpr ⟨lw_p71, List.forall_mem_cons.mpr ⟨lw_p72, List.forall_mem_cons.mpr ⟨lw_p73, List.forall_mem_cons.mpr ⟨lw_p74, List.forall_mem_cons.mpr ⟨lw_p75, List.forall_mem_cons.mpr ⟨lw_p76, List.forall_mem_cons.mpr ⟨lw_p77, List.forall_mem_cons.mpr ⟨lw_p78, List.forall_mem_cons.mpr ⟨lw_p79, fun _ h => absurd h List.not_mem_nil⟩⟩⟩⟩⟩⟩⟩⟩⟩⟩⟩⟩⟩⟩⟩⟩
theorem lw_p80 : lw_okq (⟨"EndingTownModel", "speaks", "(II)V"⟩, 74) := ⟨⟨by decide +kernel, by decide +kernel⟩, List.mem_of_getElem? (i := 1232) (by decide +kernel), List.mem_of_getElem? (i := 1599) (by decide +kernel), List.mem_of_getElem? (i := 1600) (by decide +kernel)⟩
theorem lw_p81 : lw_okq (⟨"EndingTownModel", "ends", "(II)Z"⟩, 74) := ⟨⟨by decide +kernel, by decide +kernel⟩, List.mem_of_getElem? (i := 1232) (by decide +kernel), List.mem_of_getElem? (i := 1603) (by decide +kernel), List.mem_of_getElem? (i := 1604) (by decide +kernel)⟩
theorem lw_p82 : lw_okq (⟨"EndingTownModel", "begins", "(II)Z"⟩, 74) := ⟨⟨by decide +kernel, by decide +kernel⟩, List.mem_of_getElem? (i := 1232) (by decide +kernel), List.mem_of_getElem? (i := 1607) (by decide +kernel), List.mem_of_getElem? (i := 1608) (by decide +kernel)⟩
theorem lw_p83 : lw_okq (⟨"EndingTownModel", "adds", "(I)V"⟩, 74) := ⟨⟨by decide +kernel, by decide +kernel⟩, List.mem_of_getElem? (i := 1232) (by decide +kernel), List.mem_of_getElem? (i := 1611) (by decide +kernel), List.mem_of_getElem? (i := 1612) (by decide +kernel)⟩
theorem lw_p84 : lw_okq (⟨"EndingTownModel", "finds", "(II)V"⟩, 74) := ⟨⟨by decide +kernel, by decide +kernel⟩, List.mem_of_getElem? (i := 1232) (by decide +kernel), List.mem_of_getElem? (i := 1619) (by decide +kernel), List.mem_of_getElem? (i := 1620) (by decide +kernel)⟩
theorem lw_p85 : lw_okq (⟨"EndingTownModel", "refuses", "(I)I"⟩, 74) := ⟨⟨by decide +kernel, by decide +kernel⟩, List.mem_of_getElem? (i := 1232) (by decide +kernel), List.mem_of_getElem? (i := 1631) (by decide +kernel), List.mem_of_getElem? (i := 1632) (by decide +kernel)⟩
theorem lw_p86 : lw_okq (⟨"EndingTownModel", "adds5", "(IIIII)I"⟩, 74) := ⟨⟨by decide +kernel, by decide +kernel⟩, List.mem_of_getElem? (i := 1232) (by decide +kernel), List.mem_of_getElem? (i := 1635) (by decide +kernel), List.mem_of_getElem? (i := 1636) (by decide +kernel)⟩
theorem lw_p87 : lw_okq (⟨"EndingTownModel", "blanks", "(II)I"⟩, 74) := ⟨⟨by decide +kernel, by decide +kernel⟩, List.mem_of_getElem? (i := 1232) (by decide +kernel), List.mem_of_getElem? (i := 1643) (by decide +kernel), List.mem_of_getElem? (i := 1644) (by decide +kernel)⟩
theorem lw_p88 : lw_okq (⟨"EndingTownModel", "lettersTo", "(II)I"⟩, 74) := ⟨⟨by decide +kernel, by decide +kernel⟩, List.mem_of_getElem? (i := 1232) (by decide +kernel), List.mem_of_getElem? (i := 1647) (by decide +kernel), List.mem_of_getElem? (i := 1648) (by decide +kernel)⟩
theorem lw_p89 : lw_okq (⟨"EndingTownModel", "isNot", "(II)Z"⟩, 74) := ⟨⟨by decide +kernel, by decide +kernel⟩, List.mem_of_getElem? (i := 1232) (by decide +kernel), List.mem_of_getElem? (i := 1651) (by decide +kernel), List.mem_of_getElem? (i := 1652) (by decide +kernel)⟩
theorem lw_p90 : lw_okq (⟨"EndingTownModel", "of", "(II)I"⟩, 74) := ⟨⟨by decide +kernel, by decide +kernel⟩, List.mem_of_getElem? (i := 1232) (by decide +kernel), List.mem_of_getElem? (i := 1663) (by decide +kernel), List.mem_of_getElem? (i := 1664) (by decide +kernel)⟩
theorem lw_p91 : lw_okq (⟨"EndingTownModel", "asks", "(II)V"⟩, 74) := ⟨⟨by decide +kernel, by decide +kernel⟩, List.mem_of_getElem? (i := 1232) (by decide +kernel), List.mem_of_getElem? (i := 1667) (by decide +kernel), List.mem_of_getElem? (i := 1668) (by decide +kernel)⟩
theorem lw_p92 : lw_okq (⟨"EndingTownModel", "pairAt", "(II)I"⟩, 74) := ⟨⟨by decide +kernel, by decide +kernel⟩, List.mem_of_getElem? (i := 1232) (by decide +kernel), List.mem_of_getElem? (i := 1671) (by decide +kernel), List.mem_of_getElem? (i := 1672) (by decide +kernel)⟩
theorem lw_p93 : lw_okq (⟨"EndingTownModel", "all", "()I"⟩, 74) := ⟨⟨by decide +kernel, by decide +kernel⟩, List.mem_of_getElem? (i := 1232) (by decide +kernel), List.mem_of_getElem? (i := 1675) (by decide +kernel), List.mem_of_getElem? (i := 1676) (by decide +kernel)⟩
theorem lw_p94 : lw_okq (⟨"EndingTownModel", "reckons", "(II)V"⟩, 74) := ⟨⟨by decide +kernel, by decide +kernel⟩, List.mem_of_getElem? (i := 1232) (by decide +kernel), List.mem_of_getElem? (i := 1679) (by decide +kernel), List.mem_of_getElem? (i := 1680) (by decide +kernel)⟩
theorem lw_p95 : lw_okq (⟨"EndingTownModel", "least", "(III)I"⟩, 74) := ⟨⟨by decide +kernel, by decide +kernel⟩, List.mem_of_getElem? (i := 1232) (by decide +kernel), List.mem_of_getElem? (i := 1683) (by decide +kernel), List.mem_of_getElem? (i := 1684) (by decide +kernel)⟩
def lw_privs_6 : List (MethodName × Nat) := [(⟨"EndingTownModel", "speaks", "(II)V"⟩, 74), (⟨"EndingTownModel", "ends", "(II)Z"⟩, 74), (⟨"EndingTownModel", "begins", "(II)Z"⟩, 74), (⟨"EndingTownModel", "adds", "(I)V"⟩, 74), (⟨"EndingTownModel", "finds", "(II)V"⟩, 74), (⟨"EndingTownModel", "refuses", "(I)I"⟩, 74), (⟨"EndingTownModel", "adds5", "(IIIII)I"⟩, 74), (⟨"EndingTownModel", "blanks", "(II)I"⟩, 74), (⟨"EndingTownModel", "lettersTo", "(II)I"⟩, 74), (⟨"EndingTownModel", "isNot", "(II)Z"⟩, 74), (⟨"EndingTownModel", "of", "(II)I"⟩, 74), (⟨"EndingTownModel", "asks", "(II)V"⟩, 74), (⟨"EndingTownModel", "pairAt", "(II)I"⟩, 74), (⟨"EndingTownModel", "all", "()I"⟩, 74), (⟨"EndingTownModel", "reckons", "(II)V"⟩, 74), (⟨"EndingTownModel", "least", "(III)I"⟩, 74)]
theorem lw_r6 : ∀ q ∈ lw_privs_6, lw_okq q := List.forall_mem_cons.mpr ⟨lw_p80, List.forall_mem_cons.mpr ⟨lw_p81, List.forall_mem_cons.mpr ⟨lw_p82, List.forall_mem_cons.mpr ⟨lw_p83, List.forall_mem_cons.mpr ⟨lw_p84, List.forall_mem_cons.mpr ⟨lw_p85, List.forall_mem_cons.mpr ⟨lw_p86, List.forall_mem_cons.mpr ⟨lw_p87, List.forall_mem_cons.mpr ⟨lw_p88, List.forall_mem_cons.mpr ⟨lw_p89, List.forall_mem_cons.mpr ⟨lw_p90, List.forall_mem_cons.mpr ⟨lw_p91, List.forall_mem_cons.mpr ⟨lw_p92, List.forall_mem_cons.mpr ⟨lw_p93, List.forall_mem_cons.mpr ⟨lw_p94, List.forall_mem_cons.mpr ⟨lw_p95, fun _ h => absurd h List.not_mem_nil⟩⟩⟩⟩⟩⟩⟩⟩⟩⟩⟩⟩⟩⟩⟩⟩
theorem lw_p96 : lw_okq (⟨"EndingTownModel", "byHow", "(IIII)I"⟩, 74) := ⟨⟨by decide +kernel, by decide +kernel⟩, List.mem_of_getElem? (i := 1232) (by decide +kernel), List.mem_of_getElem? (i := 1687) (by decide +kernel), List.mem_of_getElem? (i := 1688) (by decide +kernel)⟩
theorem lw_p97 : lw_okq (⟨"EndingTownModel", "byTold", "(IIII)I"⟩, 74) := ⟨⟨by decide +kernel, by decide +kernel⟩, List.mem_of_getElem? (i := 1232) (by decide +kernel), List.mem_of_getElem? (i := 1691) (by decide +kernel), List.mem_of_getElem? (i := 1692) (by decide +kernel)⟩
theorem lw_p98 : lw_okq (⟨"EndingTownModel", "isTold", "(IIIII)Z"⟩, 74) := ⟨⟨by decide +kernel, by decide +kernel⟩, List.mem_of_getElem? (i := 1232) (by decide +kernel), List.mem_of_getElem? (i := 1695) (by decide +kernel), List.mem_of_getElem? (i := 1696) (by decide +kernel)⟩
theorem lw_p99 : lw_okq (⟨"EndingTownModel", "byRules", "(II)I"⟩, 74) := ⟨⟨by decide +kernel, by decide +kernel⟩, List.mem_of_getElem? (i := 1232) (by decide +kernel), List.mem_of_getElem? (i := 1699) (by decide +kernel), List.mem_of_getElem? (i := 1700) (by decide +kernel)⟩
theorem lw_p100 : lw_okq (⟨"EndingTownModel", "isBy", "(IIIII)Z"⟩, 74) := ⟨⟨by decide +kernel, by decide +kernel⟩, List.mem_of_getElem? (i := 1232) (by decide +kernel), List.mem_of_getElem? (i := 1703) (by decide +kernel), List.mem_of_getElem? (i := 1704) (by decide +kernel)⟩
theorem lw_p101 : lw_okq (⟨"EndingTownModel", "looks", "()V"⟩, 74) := ⟨⟨by decide +kernel, by decide +kernel⟩, List.mem_of_getElem? (i := 1232) (by decide +kernel), List.mem_of_getElem? (i := 1707) (by decide +kernel), List.mem_of_getElem? (i := 1708) (by decide +kernel)⟩
theorem lw_p102 : lw_okq (⟨"EndingTownModel", "eyesBy", "(IIII)I"⟩, 74) := ⟨⟨by decide +kernel, by decide +kernel⟩, List.mem_of_getElem? (i := 1232) (by decide +kernel), List.mem_of_getElem? (i := 1711) (by decide +kernel), List.mem_of_getElem? (i := 1712) (by decide +kernel)⟩
theorem lw_p103 : lw_okq (⟨"EndingTownModel", "toldEyes", "(IIII)I"⟩, 74) := ⟨⟨by decide +kernel, by decide +kernel⟩, List.mem_of_getElem? (i := 1232) (by decide +kernel), List.mem_of_getElem? (i := 1715) (by decide +kernel), List.mem_of_getElem? (i := 1716) (by decide +kernel)⟩
theorem lw_p104 : lw_okq (⟨"EndingTownModel", "ruleEyes", "(II)I"⟩, 74) := ⟨⟨by decide +kernel, by decide +kernel⟩, List.mem_of_getElem? (i := 1232) (by decide +kernel), List.mem_of_getElem? (i := 1719) (by decide +kernel), List.mem_of_getElem? (i := 1720) (by decide +kernel)⟩
theorem lw_p105 : lw_okq (⟨"EndingTownModel", "holding", "(I)I"⟩, 74) := ⟨⟨by decide +kernel, by decide +kernel⟩, List.mem_of_getElem? (i := 1232) (by decide +kernel), List.mem_of_getElem? (i := 1731) (by decide +kernel), List.mem_of_getElem? (i := 1732) (by decide +kernel)⟩
theorem lw_p106 : lw_okq (⟨"EndingTownModel", "placeOf", "(I)I"⟩, 74) := ⟨⟨by decide +kernel, by decide +kernel⟩, List.mem_of_getElem? (i := 1232) (by decide +kernel), List.mem_of_getElem? (i := 1761) (by decide +kernel), List.mem_of_getElem? (i := 1762) (by decide +kernel)⟩
theorem lw_p107 : lw_okq (⟨"EndingTownModel", "worldsOf", "(IZ)I"⟩, 74) := ⟨⟨by decide +kernel, by decide +kernel⟩, List.mem_of_getElem? (i := 1232) (by decide +kernel), List.mem_of_getElem? (i := 1765) (by decide +kernel), List.mem_of_getElem? (i := 1766) (by decide +kernel)⟩
theorem lw_p108 : lw_okq (⟨"EndingTownModel", "knows", "(II)I"⟩, 74) := ⟨⟨by decide +kernel, by decide +kernel⟩, List.mem_of_getElem? (i := 1232) (by decide +kernel), List.mem_of_getElem? (i := 1769) (by decide +kernel), List.mem_of_getElem? (i := 1770) (by decide +kernel)⟩
theorem lw_p109 : lw_okq (⟨"EndingTownModel", "seenBy", "(I)I"⟩, 74) := ⟨⟨by decide +kernel, by decide +kernel⟩, List.mem_of_getElem? (i := 1232) (by decide +kernel), List.mem_of_getElem? (i := 1773) (by decide +kernel), List.mem_of_getElem? (i := 1774) (by decide +kernel)⟩
theorem lw_p110 : lw_okq (⟨"EndingTownModel", "real", "()I"⟩, 74) := ⟨⟨by decide +kernel, by decide +kernel⟩, List.mem_of_getElem? (i := 1232) (by decide +kernel), List.mem_of_getElem? (i := 1780) (by decide +kernel), List.mem_of_getElem? (i := 1781) (by decide +kernel)⟩
def lw_privs_7 : List (MethodName × Nat) := [(⟨"EndingTownModel", "byHow", "(IIII)I"⟩, 74), (⟨"EndingTownModel", "byTold", "(IIII)I"⟩, 74), (⟨"EndingTownModel", "isTold", "(IIIII)Z"⟩, 74), (⟨"EndingTownModel", "byRules", "(II)I"⟩, 74), (⟨"EndingTownModel", "isBy", "(IIIII)Z"⟩, 74), (⟨"EndingTownModel", "looks", "()V"⟩, 74), (⟨"EndingTownModel", "eyesBy", "(IIII)I"⟩, 74), (⟨"EndingTownModel", "toldEyes", "(IIII)I"⟩, 74), (⟨"EndingTownModel", "ruleEyes", "(II)I"⟩, 74), (⟨"EndingTownModel", "holding", "(I)I"⟩, 74), (⟨"EndingTownModel", "placeOf", "(I)I"⟩, 74), (⟨"EndingTownModel", "worldsOf", "(IZ)I"⟩, 74), (⟨"EndingTownModel", "knows", "(II)I"⟩, 74), (⟨"EndingTownModel", "seenBy", "(I)I"⟩, 74), (⟨"EndingTownModel", "real", "()I"⟩, 74)]
theorem lw_r7 : ∀ q ∈ lw_privs_7, lw_okq q := List.forall_mem_cons.mpr ⟨lw_p96, List.forall_mem_cons.mpr ⟨lw_p97, List.forall_mem_cons.mpr ⟨lw_p98, List.forall_mem_cons.mpr ⟨lw_p99, List.forall_mem_cons.mpr ⟨lw_p100, List.forall_mem_cons.mpr ⟨lw_p101, List.forall_mem_cons.mpr ⟨lw_p102, List.forall_mem_cons.mpr ⟨lw_p103, List.forall_mem_cons.mpr ⟨lw_p104, List.forall_mem_cons.mpr ⟨lw_p105, List.forall_mem_cons.mpr ⟨lw_p106, List.forall_mem_cons.mpr ⟨lw_p107, List.forall_mem_cons.mpr ⟨lw_p108, List.forall_mem_cons.mpr ⟨lw_p109, List.forall_mem_cons.mpr ⟨lw_p110, fun _ h => absurd h List.not_mem_nil⟩⟩⟩⟩⟩⟩⟩⟩⟩⟩⟩⟩⟩⟩⟩
def lw_privs : List (MethodName × Nat) := lw_privs_1 ++ (lw_privs_2 ++ (lw_privs_3 ++ (lw_privs_4 ++ (lw_privs_5 ++ (lw_privs_6 ++ (lw_privs_7))))))
def lw_tbl : List Cond := k2_sels lw_privs ++ tables_1
theorem lw_privs_ok : ∀ q ∈ lw_privs, lw_okq q := by
  show ∀ q ∈ lw_privs_1 ++ (lw_privs_2 ++ (lw_privs_3 ++ (lw_privs_4 ++ (lw_privs_5 ++ (lw_privs_6 ++ (lw_privs_7)))))), lw_okq q
  exact List.forall_mem_append.mpr ⟨lw_r1, List.forall_mem_append.mpr ⟨lw_r2, List.forall_mem_append.mpr ⟨lw_r3, List.forall_mem_append.mpr ⟨lw_r4, List.forall_mem_append.mpr ⟨lw_r5, List.forall_mem_append.mpr ⟨lw_r6, lw_r7⟩⟩⟩⟩⟩⟩
-- ===== end of PART A; then your names; then what follows =====
end
section
/-! ===== BEGIN words of one list among another's, by their places ===== -/
theorem goodIn_r {big : List Cond} (ws : List Cond) (ps : List Nat) (hp : ws = ps.filterMap (fun i => big[i]?)) (h : ws.all goodWord = true) : GoodIn big ws := by
  intro w hw
  have h1 := List.all_eq_true.mp h w hw
  rw [hp] at hw
  obtain ⟨i, -, hi⟩ := List.mem_filterMap.mp hw
  have hm : w ∈ big := by first | exact List.mem_of_getElem? hi | exact List.getElem?_mem hi
  exact ⟨hm, good_of_word h1⟩
theorem goodIn_app {big a b : List Cond} (ha : GoodIn big a) (hb : GoodIn big b) : GoodIn big (a ++ b) := fun w h => (List.mem_append.mp h).elim (ha w) (hb w)
theorem goodIn_ca {big a b : List Cond} {c : Cond} (ha : GoodIn big (c :: a)) (hb : GoodIn big b) : GoodIn big (c :: (a ++ b)) := fun w h => (List.mem_cons.mp h).elim (fun e => ha w (List.mem_cons.mpr (Or.inl e))) (fun h => (List.mem_append.mp h).elim (fun h => ha w (List.mem_cons.mpr (Or.inr h))) (hb w))
theorem goodIn_sub {big ws : List Cond} (hm : ∀ w ∈ ws, w ∈ big) (h : ws.all goodWord = true) : GoodIn big ws := fun w hw => ⟨hm w hw, good_of_word (List.all_eq_true.mp h w hw)⟩
/-! ===== END ===== -/

/-! ===== BEGIN exceptions that leave a method, and their catching by the caller (launches without stack traces) ===== -/
section VXA
/-! The laws vx_back, vx_callV, vx_callS, vx_callSW, vx_throw0, vx_throwS follow proofs of the library, with one case more: JvmDerived/Free/Laws.lean (Back.of_free), Shelf42/LK1.lean (callV, callS), Shelf/KitTraced.lean (throwNew0V, throwNewS). -/
/-- where a method has thrown q: the class by its name, the cell, what was written, the world -/
def vx_T (XC : String → State → State → Prop) (st : State) (q : Addr) (t : State) (mc ms : Nat) (free : Addr → Prop) : Prop :=
  ∃ (E : String) (ce : Cell) (L : List Loc), XC E st t ∧ t.heap[q]? = some ce ∧ ce.vm = .none ∧ st.vm.findClass E = some ce.cls ∧ st.WarmedH t.vm ∧ st.sameButNew ({ t with vm := st.vm } : State) L mc ms ∧ ∀ z ∈ L, free z.base
def vx_Q (Qc : Array Value → State → Outcome → State → Prop) (XC : String → State → State → Prop) (mc ms : Nat) (free : Addr → Prop) : Array Value → State → Outcome → State → Prop := fun a st o t =>
  (Qc a st o t ∧ ∃ L, FrameEnd st o t L mc ms ∧ ∀ q ∈ L, free q.base) ∨ ∃ q, o = .threw q ∧ vx_T XC st q t mc ms free
/-- a callee that returns or throws -/
def vx_Met (l : Launch) (y : MethodName) (ws : List Cond) (rm : Room) (Pc : Array Value → State → Prop) (Qc : Array Value → State → Outcome → State → Prop) (XC : String → State → State → Prop) (mc ms : Nat) (free : Addr → Prop) : Prop :=
  MetFree l y (headSpec ws rm) Pc (fun _ _ _ _ _ => True) (vx_Q Qc XC mc ms free)
def vx_Post (XC : String → State → State → Prop) (mc ms : Nat) (free : Addr → Prop) : Pt → Array Value → Addr → Pt → Prop := fun A a q B =>
  ∃ (g : JFrame) (mk : MethodId) (t : State) (L : List Loc) (E : String) (ce : Cell), B.U.heap = t.heap ∧ B.U.vm = t.vm ∧ XC E (A.U.calling g mk a) t ∧ t.heap[q]? = some ce ∧ ce.vm = .none ∧ A.U.vm.findClass E = some ce.cls ∧ B.locs = A.locs ++ L ∧ (∀ z ∈ L, free z.base) ∧ B.cells = A.cells + mc ∧ B.slots = A.slots + ms
def vx_Back (l : Launch) (R : Room) (p : Program) (e : Env) (below : List Frame) (s : State) (sargs : Array Value) (y : MethodName) (len W9 : Nat)
    (Pre : Pt → Array Value → Prop) (Post : Pt → Array Value → Option Value → Pt → Prop) (PostX : Pt → Array Value → Addr → Pt → Prop) : Prop :=
  ∀ (m : MethodId) (meth : Method) (c : Code) (A : Pt) (g : JFrame) (ig : Instr) (mk : MethodId) (a : Array Value),
    Stand p l e R s m sargs below meth c A.U A.locs A.cells A.slots → g.method = m → g.locals.size = c.maxLocals → decode c.code g.pc = .ok (ig, len) →
    2 * g.monitorRoom + (g.stack.map fun v => v.category).sum ≤ W9 → A.U.methodNamed? y = some mk → Pre A a →
    (∃ (v : Option Value) (B : Pt), Stand p l e R s m sargs below meth c B.U B.locs B.cells B.slots ∧ Post A a v B ∧
      Steps p.tables e below (doInvoke e (A.U.setTop g) [] mk a).1 (B.U.setTop { g with pc := g.pc + len, stack := v.toList ++ g.stack })) ∨
    (∃ (q : Addr) (B : Pt), Stand p l e R s m sargs below meth c B.U B.locs B.cells B.slots ∧ PostX A a q B ∧
      Steps p.tables e below (doInvoke e (A.U.setTop g) [] mk a).1 ((B.U.setTop g).pushFrame (.throwing q)))
section Payer
variable {l : Launch} {R : Room} {p : Program} {e : Env} {below : List Frame} {s : State} {sargs : Array Value} {y : MethodName} {len W9 : Nat}
theorem vx_back {ws : List Cond} {rm : Room} {Pc : Array Value → State → Prop} {Qc : Array Value → State → Outcome → State → Prop} {XC : String → State → State → Prop} {mc ms : Nat} {free : Addr → Prop} {bytes : ByteArray} {maxL : Nat} {ret : Option FieldType}
    (hM : vx_Met l y ws rm Pc Qc XC mc ms free) (hblind : FrameBlind Pc) (hrc : rm.cells = mc) (hrs : rm.slots = ms)
    (hframes : rm.frames + 1 ≤ R.frames) (hlocals : W9 + (maxL + 11) + rm.locals ≤ R.locals)
    (hws : ∀ w ∈ ws, ∀ a' U, s.WarmedH U.vm → w.before a' U = true) (hcode : Cond.code y bytes maxL ret ∈ ws) (hinit : ∀ a' U, s.WarmedH U.vm → (Cond.initialized y.cls).before a' U = true) :
    vx_Back l R p e below s sargs y len W9 (PreOf R mc ms Pc) (PostOf Qc mc ms free) (vx_Post XC mc ms free) := by
  intro m meth c A g ig mk a X hg hsize hdg hW hn hp
  have h1 : (headSpec ws rm).pre.before a A.U = true := atoms_intro fun w hw => hws w hw _ _ X.warmed
  have h2 : (Cond.code y bytes maxL ret).before a A.U = true := hws _ hcode _ _ X.warmed
  have h3 : (Cond.initialized y.cls).before a A.U = true := hinit _ _ X.warmed
  have h4 : A.cells + (headSpec ws rm).room.cells ≤ R.cells := by rw [show (headSpec ws rm).room.cells = mc from hrc]; exact hp.1
  have h5 : A.slots + (headSpec ws rm).room.slots ≤ R.slots := by rw [show (headSpec ws rm).room.slots = ms from hrs]; exact hp.2.1
  have hPc : Pc a (A.U.calling g mk a) := hblind _ _ _ _ hp.2.2
  obtain ⟨U, Ls, c0, s0⟩ := A
  dsimp only [Pt.U, Pt.locs, Pt.cells, Pt.slots] at h1 h2 h3 h4 h5 X hn hPc ⊢
  obtain ⟨methY, cY, hmY, hcY, -, hlY, -, -, -, -⟩ := Cond.code_spec hn h2
  obtain ⟨kY, hkY, -⟩ := className_of_methodNamed hn
  have hinitY : kY.init = .initialized := Cond.initialized_spec (findClass_of_methodNamed hn) hkY h3
  have h : At U g.method c below := by rw [hg]; exact X.here
  have hlocals9 : W9 + (maxL + 11) + (headSpec ws rm).room.locals ≤ R.locals := hlocals
  have happ : (headSpec ws rm).appliesLoose y e.platform (U.calling g mk a) = true :=
    Spec.appliesLoose_calling (g := g) h hdg hn hkY hinitY
      (X.room_calling (g := g) (R' := (headSpec ws rm).room) hsize hmY hcY hframes (by rw [hlY]; omega) h4 h5) h1
  obtain ⟨mid, hmid⟩ := h.above
  have hfr : (U.setTop g).frames = (.java g :: mid) ++ below := by rw [State.frames_setTop' g h.top, hmid]; rfl
  obtain ⟨o, s₂, hsteps, -, hend, hq⟩ := Steps.callFree hM p X.admits X.cas X.clock (acts := []) hfr happ hPc trivial
  have hq' : vx_Q Qc XC mc ms free a (U.calling g mk a) o s₂ := hq
  rw [State.frames_setTop' g h.top] at hend
  obtain ⟨g₀, hg0⟩ := Option.isSome_iff_exists.mp h.top
  obtain ⟨r, hr⟩ := State.topJava?_eq_some.mp hg0
  have hr' : (({ U with heap := s₂.heap, slotsUsed := s₂.slotsUsed } : State).setVm s₂.vm).frames = .java g₀ :: r := hr
  rcases hq' with ⟨hqc, L, hfe, hL⟩ | ⟨q, rfl, E, ce, L, hx, hce, hcv, hcl, hW₂, hsm, hL⟩
  · obtain ⟨⟨v, rfl⟩, hW₂, e2, q2, q3, q4, q5, q6⟩ := id hfe
    have e3 : s₂ = ({ (U.calling g mk a).setFrames s₂.frames with heap := s₂.heap, slotsUsed := s₂.slotsUsed } : State).setVm s₂.vm := by
      have : s₂ = ({ s₂ with vm := (U.calling g mk a).vm } : State).setVm s₂.vm := rfl
      rw [e2] at this
      exact this
    obtain ⟨c₂, i₂, len₂, hc₂, hd₂, hf₂⟩ := hend
    have hW' : U.WarmedH s₂.vm := hW₂
    have hcc : c₂ = c := by
      have h1 : s₂.code? g.method = U.code? g.method := by
        rw [State.code?_eq, State.code?_eq, hW'.alike.method?]
      exact Option.some.inj (hc₂.symm.trans (h1.trans h.code))
    subst hcc
    have hlen : len₂ = len := by rw [hdg] at hd₂; cases hd₂; rfl
    subst hlen
    have hs₂ : s₂ = (({ U with heap := s₂.heap, slotsUsed := s₂.slotsUsed } : State).setVm s₂.vm).setTop { g with pc := g.pc + len₂, stack := v.toList ++ g.stack } := by
      refine e3.trans ?_
      rw [hf₂, State.calling_eq h.top, State.setFrames_setFrames, State.setTop_of_frames _ hr', hr]
      rfl
    have hsame : U.sameButNew ({ U with heap := s₂.heap, slotsUsed := s₂.slotsUsed } : State) L mc ms := by
      refine ⟨?_, q2, q3, q4, q5, q6⟩
      obtain ⟨t, ht, -⟩ := State.frames_cons hr
      show ({ U with heap := s₂.heap, slotsUsed := s₂.slotsUsed } : State) = { U.setFrames U.frames with heap := s₂.heap, slotsUsed := s₂.slotsUsed }
      rw [State.setFrames_self ht]
    subst hg
    refine Or.inl ⟨v, ⟨(({ U with heap := s₂.heap, slotsUsed := s₂.slotsUsed } : State).setVm s₂.vm), Ls ++ L, c0 + mc, s0 + ms⟩,
      ⟨X.admits, X.cas, X.clock, X.frames, X.room, X.hears, X.method, X.code, (X.here.setHeapUsed s₂.heap s₂.slotsUsed).setVm hW'.alike, X.tail, State.WarmedH.trans X.warmed hW', X.limits, X.bytes, X.same.trans (hsame.setVm s.vm)⟩,
      ⟨g, mk, s₂, L, rfl, rfl, hqc, rfl, hL, rfl, rfl⟩, ?_⟩
    show Steps p.tables e below _ ((({ U with heap := s₂.heap, slotsUsed := s₂.slotsUsed } : State).setVm s₂.vm).setTop { g with pc := g.pc + len₂, stack := v.toList ++ g.stack })
    rw [← hs₂]
    exact hsteps
  · obtain ⟨e2, q2, q3, q4, q5, q6⟩ := id hsm
    have e3 : s₂ = ({ (U.calling g mk a).setFrames s₂.frames with heap := s₂.heap, slotsUsed := s₂.slotsUsed } : State).setVm s₂.vm := by
      have : s₂ = ({ s₂ with vm := (U.calling g mk a).vm } : State).setVm s₂.vm := rfl
      rw [e2] at this
      exact this
    have hf₂ : s₂.frames = .throwing q :: .java g :: U.frames.tail := hend
    have hW' : U.WarmedH s₂.vm := hW₂
    have hs₂ : s₂ = ((({ U with heap := s₂.heap, slotsUsed := s₂.slotsUsed } : State).setVm s₂.vm).setTop g).pushFrame (.throwing q) := by
      refine e3.trans ?_
      rw [hf₂, State.calling_eq h.top, State.setFrames_setFrames, State.pushFrame, State.frames_setTop _ hr', State.setTop_of_frames _ hr', State.setFrames_setFrames, hr]
      rfl
    have hsame : U.sameButNew ({ U with heap := s₂.heap, slotsUsed := s₂.slotsUsed } : State) L mc ms := by
      refine ⟨?_, q2, q3, q4, q5, q6⟩
      obtain ⟨t, ht, -⟩ := State.frames_cons hr
      show ({ U with heap := s₂.heap, slotsUsed := s₂.slotsUsed } : State) = { U.setFrames U.frames with heap := s₂.heap, slotsUsed := s₂.slotsUsed }
      rw [State.setFrames_self ht]
    subst hg
    refine Or.inr ⟨q, ⟨(({ U with heap := s₂.heap, slotsUsed := s₂.slotsUsed } : State).setVm s₂.vm), Ls ++ L, c0 + mc, s0 + ms⟩,
      ⟨X.admits, X.cas, X.clock, X.frames, X.room, X.hears, X.method, X.code, (X.here.setHeapUsed s₂.heap s₂.slotsUsed).setVm hW'.alike, X.tail, State.WarmedH.trans X.warmed hW', X.limits, X.bytes, X.same.trans (hsame.setVm s.vm)⟩,
      ⟨g, mk, s₂, L, E, ce, rfl, rfl, hx, hce, hcv, hcl, rfl, hL, rfl, rfl⟩, ?_⟩
    show Steps p.tables e below _ (((({ U with heap := s₂.heap, slotsUsed := s₂.slotsUsed } : State).setVm s₂.vm).setTop g).pushFrame (.throwing q))
    rw [← hs₂]
    exact hsteps
end Payer
section Calls
variable {p : Program} {l : Launch} {e : Env} {R : Room} {s : State} {m : MethodId} {args : Array Value} {below : List Frame} {meth : Method} {c : Code} {T : State} {locs : List Loc} {cells slots : Nat}
theorem vx_callV (X : Stand p l e R s m args below meth c T locs cells slots) (hexec : p.tables.exec = Jvm.exec) {own C : String} {index : Nat} {y : MethodName} {bytes : ByteArray} {maxL : Nat} {ret : Option FieldType}
    (hown : s.vm.findClass own = some m.cls) (hlink : (Cond.methodLink own index y).before args s = true) (hinst : (Cond.instanceMethod y).before args s = true) (hsel : (Cond.selects C y y).before args s = true)
    (hcode : (Cond.code y bytes maxL ret).before args s = true) (hy : y.cls ≠ "java/lang/invoke/MethodHandle" ∧ y.cls ≠ "java/lang/invoke/VarHandle")
    {W9 : Nat} {Pre : Pt → Array Value → Prop} {Post : Pt → Array Value → Option Value → Pt → Prop} {PostX : Pt → Array Value → Addr → Pt → Prop} (hK : vx_Back l R p e below s args y 3 W9 Pre Post PostX)
    {b : Addr} {cellB : Cell} (hcell : T.heap[b]? = some cellB) (hobj : cellB.vm.isStatics = false) (hcls : s.vm.findClass C = some cellB.cls)
    {g : JFrame} (hg : g.method = m) (hsize : g.locals.size = c.maxLocals) {argsL rest : List Value} (hlen : ∀ sig, parseMethodDescriptor y.desc = some sig → argsL.length = sig.parameters.length)
    (hstack : g.stack = argsL.reverse ++ .ref b :: rest) (hW : 2 * g.monitorRoom + (rest.map fun v => v.category).sum ≤ W9) (hdg : decode c.code g.pc = .ok (.invokevirtual index, 3))
    (hpre : ∀ vm₁, s.WarmedH vm₁ → Pre ⟨T.setVm vm₁, locs, cells, slots⟩ (Value.ref b :: argsL).toArray) :
    (∃ (v : Option Value) (vm₁ : Vm) (B : Pt), s.WarmedH vm₁ ∧ Stand p l e R s m args below meth c B.U B.locs B.cells B.slots ∧ Post ⟨T.setVm vm₁, locs, cells, slots⟩ (Value.ref b :: argsL).toArray v B ∧
      ∀ target, Steps p.tables e below (B.U.setTop { g with pc := g.pc + 3, stack := v.toList ++ rest }) target → Steps p.tables e below (T.setTop g) target) ∨
    (∃ (q : Addr) (vm₁ : Vm) (B : Pt), s.WarmedH vm₁ ∧ Stand p l e R s m args below meth c B.U B.locs B.cells B.slots ∧ PostX ⟨T.setVm vm₁, locs, cells, slots⟩ (Value.ref b :: argsL).toArray q B ∧
      Steps p.tables e below (T.setTop g) ((B.U.setTop { g with stack := rest }).pushFrame (.throwing q))) := by
  obtain ⟨mk, methM, hnamed, hmethM, hstM, habM⟩ := Cond.instanceMethod_spec hinst
  obtain ⟨methM', cM, hmethM', -, -, -, -, -, -, hsigM⟩ := Cond.code_spec hnamed hcode
  cases hmethM.symm.trans hmethM'
  obtain ⟨c2, r2, m2, q1, q2, q3, q4, kP, hkP, hkPi⟩ := Cond.selects_spec hsel
  cases hcls.symm.trans q1
  cases (State.methodFound?_of_named hnamed hy).symm.trans q2
  cases hnamed.symm.trans q3
  have hselP : selectMethod e.platform s.vm cellB.cls mk = .method mk := by rw [Launch.admits_selectMethod X.admits]; exact q4
  obtain ⟨vm₁, X₁, hstep₁⟩ := X.invokevirtual hexec hown hlink hnamed hmethM hstM hkP hkPi hy (a := b) (cell := cellB) hcell
    (fun z h => by rw [h] at hobj; cases hobj) hselP hmethM habM hkP hkPi (g := g) hg (argsL := argsL) (rest := rest) (hlen _ hsigM) hstack hdg
  rcases hK m meth c ⟨T.setVm vm₁, locs, cells, slots⟩ { g with stack := rest } (.invokevirtual index) mk (Value.ref b :: argsL).toArray X₁ hg hsize hdg hW (X₁.named hnamed) (hpre vm₁ X₁.warmed) with ⟨v, B, X', hpost, hsteps⟩ | ⟨q, B, X', hpost, hsteps⟩
  · exact Or.inl ⟨v, vm₁, B, X₁.warmed, X', hpost, fun target h => hstep₁ _ fun acts => by rw [doInvoke_state]; exact hsteps.trans h⟩
  · exact Or.inr ⟨q, vm₁, B, X₁.warmed, X', hpost, hstep₁ _ fun acts => by rw [doInvoke_state]; exact hsteps⟩
theorem vx_callS (X : Stand p l e R s m args below meth c T locs cells slots) (hexec : p.tables.exec = Jvm.exec) {own : String} {index : Nat} {y : MethodName} {bytes : ByteArray} {maxL : Nat} {ret : Option FieldType}
    (hown : s.vm.findClass own = some m.cls) (hlink : (Cond.methodLink own index y).before args s = true) (hstat : (Cond.static y).before args s = true) (hinit : (Cond.initialized y.cls).before args s = true)
    (hcode : (Cond.code y bytes maxL ret).before args s = true) (hy : y.cls ≠ "java/lang/invoke/MethodHandle" ∧ y.cls ≠ "java/lang/invoke/VarHandle")
    {W9 : Nat} {Pre : Pt → Array Value → Prop} {Post : Pt → Array Value → Option Value → Pt → Prop} {PostX : Pt → Array Value → Addr → Pt → Prop} (hK : vx_Back l R p e below s args y 3 W9 Pre Post PostX)
    {g : JFrame} (hg : g.method = m) (hsize : g.locals.size = c.maxLocals) {argsL rest : List Value} (hlen : ∀ sig, parseMethodDescriptor y.desc = some sig → argsL.length = sig.parameters.length)
    (hstack : g.stack = argsL.reverse ++ rest) (hW : 2 * g.monitorRoom + (rest.map fun v => v.category).sum ≤ W9) (hdg : decode c.code g.pc = .ok (.invokestatic index, 3))
    (hpre : ∀ vm₁, s.WarmedH vm₁ → Pre ⟨T.setVm vm₁, locs, cells, slots⟩ argsL.toArray) :
    (∃ (v : Option Value) (vm₁ : Vm) (B : Pt), s.WarmedH vm₁ ∧ Stand p l e R s m args below meth c B.U B.locs B.cells B.slots ∧ Post ⟨T.setVm vm₁, locs, cells, slots⟩ argsL.toArray v B ∧
      ∀ target, Steps p.tables e below (B.U.setTop { g with pc := g.pc + 3, stack := v.toList ++ rest }) target → Steps p.tables e below (T.setTop g) target) ∨
    (∃ (q : Addr) (vm₁ : Vm) (B : Pt), s.WarmedH vm₁ ∧ Stand p l e R s m args below meth c B.U B.locs B.cells B.slots ∧ PostX ⟨T.setVm vm₁, locs, cells, slots⟩ argsL.toArray q B ∧
      Steps p.tables e below (T.setTop g) ((B.U.setTop { g with stack := rest }).pushFrame (.throwing q))) := by
  obtain ⟨mk, hnamed⟩ := Cond.code_named hcode
  obtain ⟨methM, cM, hmethM, -, -, -, -, -, -, hsigM⟩ := Cond.code_spec hnamed hcode
  have hstatic : methM.isStatic = true := Cond.static_spec hnamed hmethM hstat
  obtain ⟨kP, hkP, -⟩ := className_of_methodNamed hnamed
  have hinitP : kP.init = .initialized := Cond.initialized_spec (findClass_of_methodNamed hnamed) hkP hinit
  obtain ⟨vm₁, X₁, hstep₁⟩ := X.invokestatic hexec hown hlink hnamed hmethM hstatic hkP hinitP hy (g := g) hg (argsL := argsL) (rest := rest) (hlen _ hsigM) hstack hdg
  rcases hK m meth c ⟨T.setVm vm₁, locs, cells, slots⟩ { g with stack := rest } (.invokestatic index) mk argsL.toArray X₁ hg hsize hdg hW (X₁.named hnamed) (hpre vm₁ X₁.warmed) with ⟨v, B, X', hpost, hsteps⟩ | ⟨q, B, X', hpost, hsteps⟩
  · exact Or.inl ⟨v, vm₁, B, X₁.warmed, X', hpost, fun target h => hstep₁ _ fun acts => by rw [doInvoke_state]; exact hsteps.trans h⟩
  · exact Or.inr ⟨q, vm₁, B, X₁.warmed, X', hpost, hstep₁ _ fun acts => by rw [doInvoke_state]; exact hsteps⟩
end Calls
theorem vx_cls {s : State} {T : State} {vm₁ : Vm} {E : String} {k : ClassId} (hW : s.WarmedH vm₁) (h : (T.setVm vm₁).vm.findClass E = some k) : s.vm.findClass E = some k := by
  have h1 : vm₁.findClass E = some k := h
  rw [hW.alike.findClass] at h1
  exact h1
/-- the method's frame g, with q thrown over it -/
def vx_W (p : Program) (l : Launch) (e : Env) (R : Room) (s : State) (m : MethodId) (args : Array Value) (below : List Frame) (meth : Method) (c : Code) (H : Heap) (locs : List Loc) (cells slots : Nat) (Q : State → Prop) (g : JFrame) (q : Addr) : Prop :=
  ∀ T : State, T.heap = H → Stand p l e R s m args below meth c T locs cells slots → ∃ t, Steps p.tables e below ((T.setTop g).pushFrame (.throwing q)) t ∧ Q t
def vx_Run (p : Program) (l : Launch) (e : Env) (R : Room) (s : State) (m : MethodId) (args : Array Value) (below : List Frame) (meth : Method) (c : Code) (H : Heap) (locs : List Loc) (cells slots mc ms : Nat) (g : JFrame) (rest : List Value) (Qa : State → Outcome → State → Prop) (XC : String → State → State → Prop) (free : Addr → Prop) : Prop :=
  ∀ T : State, T.heap = H → Stand p l e R s m args below meth c T locs cells slots →
    (∃ (v : Option Value) (st₀ t T' : State) (L : List Loc), st₀.heap = H ∧ Stand p l e R s m args below meth c T' (locs ++ L) (cells + mc) (slots + ms) ∧ (∀ q ∈ L, free q.base) ∧ T'.heap = t.heap ∧ T'.vm = t.vm ∧ Qa st₀ (.returned v) t ∧
      Goes p e below T g T' { g with pc := g.pc + 3, stack := v.toList ++ rest }) ∨
    (∃ (q : Addr) (st₀ t T' : State) (L : List Loc) (E : String) (ce : Cell), st₀.heap = H ∧ Stand p l e R s m args below meth c T' (locs ++ L) (cells + mc) (slots + ms) ∧ (∀ z ∈ L, free z.base) ∧ T'.heap = t.heap ∧ T'.vm = t.vm ∧ XC E st₀ t ∧ t.heap[q]? = some ce ∧ ce.vm = .none ∧ s.vm.findClass E = some ce.cls ∧
      Steps p.tables e below (T.setTop g) ((T'.setTop { g with stack := rest }).pushFrame (.throwing q)))
def vx_X {S : Type} (px : S → Prop) (B : String → S → State → Prop) (A : Nat → Prop) : String → State → State → Prop := fun E st t => ∃ u : S, px u ∧ B E u t ∧ va_F A st t
section Runs
variable {p : Program} {l : Launch} {e : Env} {R : Room} {s : State} {m : MethodId} {args : Array Value} {below : List Frame} {meth : Method} {c : Code} {H : Heap} {locs : List Loc} {cells slots : Nat}
variable {y : MethodName} {bytes cc : ByteArray} {maxL nL mc ms n index : Nat} {ret : Option FieldType} {ws : List Cond} {rm : Room} {Pc : Array Value → State → Prop} {Qc : Array Value → State → Outcome → State → Prop} {XC : String → State → State → Prop} {free : Addr → Prop} {Ts : List Cond} {own C : String} {b : Addr} {As rest : List Value} {g : JFrame}
theorem vx_callBack (cb : CallB R s args own index y bytes maxL ret ws rm mc ms n) (hM : vx_Met l y ws rm Pc Qc XC mc ms free) (hbl : FrameBlind Pc) : vx_Back l R p e below s args y 3 8 (PreOf R mc ms Pc) (PostOf Qc mc ms free) (vx_Post XC mc ms free) := by
  obtain ⟨hrc, hrs, hfr, hlo, hws, hcw, -, hini, -⟩ := cb
  exact vx_back (bytes := bytes) (maxL := maxL) (ret := ret) hM hbl hrc hrs hfr hlo hws hcw (fun a' U hW => word_at hW (Or.inl (by first | rfl | simp [Cond.onTables, Cond.keeps, Cond.steady])) hini)
theorem vx_runV (S : CallFix p m c cc nL s args Ts own) (hM : vx_Met l y ws rm Pc Qc XC mc ms free) (cw : CallW R s args own C index y bytes maxL ret ws rm mc ms n) (hp : PreV s H C b Pc As)
    (hg : g.method = m) (hn : As.length = n) (hsize : g.locals.size = nL) (hstack : g.stack = As.reverse ++ .ref b :: rest) (hW : 2 * g.monitorRoom + (rest.map fun v => v.category).sum ≤ 8) (hdg : decode cc g.pc = .ok (.invokevirtual index, 3)) (hf : cells + mc ≤ R.cells ∧ slots + ms ≤ R.slots) :
    vx_Run p l e R s m args below meth c H locs cells slots mc ms g rest (Qc (Value.ref b :: As).toArray) XC free := by
  have hK : vx_Back l R p e below s args y 3 8 (PreOf R mc ms Pc) (PostOf Qc mc ms free) (vx_Post XC mc ms free) := vx_callBack cw.1 hM hp.1
  obtain ⟨⟨-, -, -, -, -, -, hcode, -, hy, hlen, hl⟩, hin, hse⟩ := cw
  obtain ⟨hx, hb, hml, ho, -⟩ := S
  obtain ⟨-, ⟨cellB, hcB, hoB, hclB⟩, hPc⟩ := hp
  intro T hT X
  rcases vx_callV X hx (C := C) (bytes := bytes) (maxL := maxL) (ret := ret) ho hl hin hse hcode hy hK (by rw [hT]; exact hcB) hoB hclB hg (hsize.trans hml.symm) (argsL := As) (rest := rest) (fun sig h => hn.trans (hlen sig h)) hstack hW (by rw [hb]; exact hdg)
    (fun vm₁ hW₁ => ⟨hf.1, hf.2, hPc (T.setVm vm₁) hT hW₁⟩) with ⟨v, vm₁, ⟨U', l2, c2, s2⟩, hW₁, X', ⟨g', mk, t, L, e1, e2, hq, h1, hL, h2, h3⟩, st⟩ | ⟨q, vm₁, ⟨U', l2, c2, s2⟩, hW₁, X', ⟨g', mk, t, L, E, ce, e1, e2, hq, hce, hcv, hcl, h1, hL, h2, h3⟩, st⟩
  · dsimp only [Pt.U, Pt.locs, Pt.cells, Pt.slots] at X' e1 e2 h1 h2 h3 st
    subst h1; subst h2; subst h3
    exact Or.inl ⟨v, (T.setVm vm₁).calling g' mk (Value.ref b :: As).toArray, t, U', L, hT, X', hL, e1, e2, hq, st⟩
  · dsimp only [Pt.U, Pt.locs, Pt.cells, Pt.slots] at X' e1 e2 h1 h2 h3 st hcl
    subst h1; subst h2; subst h3
    exact Or.inr ⟨q, (T.setVm vm₁).calling g' mk (Value.ref b :: As).toArray, t, U', L, E, ce, hT, X', hL, e1, e2, hq, hce, hcv, vx_cls hW₁ hcl, st⟩
theorem vx_runS (S : CallFix p m c cc nL s args Ts own) (hM : vx_Met l y ws rm Pc Qc XC mc ms free) (cw : CallB R s args own index y bytes maxL ret ws rm mc ms n ∧ (Cond.static y).before args s = true) (hp : PreS s H Pc As)
    (hg : g.method = m) (hn : As.length = n) (hsize : g.locals.size = nL) (hstack : g.stack = As.reverse ++ rest) (hW : 2 * g.monitorRoom + (rest.map fun v => v.category).sum ≤ 8) (hdg : decode cc g.pc = .ok (.invokestatic index, 3)) (hf : cells + mc ≤ R.cells ∧ slots + ms ≤ R.slots) :
    vx_Run p l e R s m args below meth c H locs cells slots mc ms g rest (Qc As.toArray) XC free := by
  have hK : vx_Back l R p e below s args y 3 8 (PreOf R mc ms Pc) (PostOf Qc mc ms free) (vx_Post XC mc ms free) := vx_callBack cw.1 hM hp.1
  obtain ⟨⟨-, -, -, -, -, -, hcode, hini, hy, hlen, hl⟩, hstt⟩ := cw
  obtain ⟨hx, hb, hml, ho, -⟩ := S
  intro T hT X
  rcases vx_callS X hx (bytes := bytes) (maxL := maxL) (ret := ret) ho hl hstt hini hcode hy hK hg (hsize.trans hml.symm) (argsL := As) (rest := rest) (fun sig h => hn.trans (hlen sig h)) hstack hW (by rw [hb]; exact hdg)
    (fun vm₁ hW₁ => ⟨hf.1, hf.2, hp.2 (T.setVm vm₁) hT hW₁⟩) with ⟨v, vm₁, ⟨U', l2, c2, s2⟩, hW₁, X', ⟨g', mk, t, L, e1, e2, hq, h1, hL, h2, h3⟩, st⟩ | ⟨q, vm₁, ⟨U', l2, c2, s2⟩, hW₁, X', ⟨g', mk, t, L, E, ce, e1, e2, hq, hce, hcv, hcl, h1, hL, h2, h3⟩, st⟩
  · dsimp only [Pt.U, Pt.locs, Pt.cells, Pt.slots] at X' e1 e2 h1 h2 h3 st
    subst h1; subst h2; subst h3
    exact Or.inl ⟨v, (T.setVm vm₁).calling g' mk As.toArray, t, U', L, hT, X', hL, e1, e2, hq, st⟩
  · dsimp only [Pt.U, Pt.locs, Pt.cells, Pt.slots] at X' e1 e2 h1 h2 h3 st hcl
    subst h1; subst h2; subst h3
    exact Or.inr ⟨q, (T.setVm vm₁).calling g' mk As.toArray, t, U', L, E, ce, hT, X', hL, e1, e2, hq, hce, hcv, vx_cls hW₁ hcl, st⟩
end Runs
section Rows
variable {p : Program} {l : Launch} {e : Env} {R : Room} {s : State} {m : MethodId} {args : Array Value} {below : List Frame} {meth : Method} {c : Code} {H : Heap} {locs : List Loc} {cells slots : Nat} {Q : State → Prop}
variable {mc ms : Nat} {free : Addr → Prop} {A0 A1 : Nat → Prop} {H0 : Heap} {a : Array Value} {pc : Nat} {ls : Array Slot} {st0 rest : List Value}
theorem vx_keep {st₀ t T' : State} {L : List Loc} (h0 : st₀.heap = H) (e1 : T'.heap = t.heap) (hS : va_S A0 H0 H locs) (hA : ∀ q, q < H.size → A1 q → A0 q) (hf : ∀ q, free q → A0 q) (hL : ∀ q ∈ L, free q.base) (hF : va_F A1 st₀ t) :
    H.size ≤ T'.heap.size ∧ (∀ q : Nat, q < H.size → ¬ A1 q → T'.heap[q]? = H[q]?) ∧ va_S A0 H0 T'.heap (locs ++ L) := by
  obtain ⟨hz, hk⟩ := hF
  rw [h0] at hz hk
  exact ⟨by rw [e1]; exact hz, fun q h1 h2 => by rw [e1]; exact hk q h1 h2,
    ⟨Nat.le_trans hS.1 (by rw [e1]; exact hz), fun q h1 h2 => by rw [e1, hk q (Nat.lt_of_lt_of_le h1 hS.1) (fun z => h2 (hA q (Nat.lt_of_lt_of_le h1 hS.1) z))]; exact hS.2.1 q h1 h2, fun q hq => by
      rcases List.mem_append.mp hq with h | h
      · exact hS.2.2 q h
      · exact hf _ (hL q h)⟩⟩
theorem vx_calli {S SX : Type} {post : Int32 → S → Prop} {px : SX → Prop} {B : S → State → Prop} {BX : String → SX → State → Prop} {AX : Nat → Prop} (hr : vx_Run p l e R s m args below meth c H locs cells slots mc ms (F0 m pc ls st0) rest (va_Qi post B A1 a) (vx_X px BX AX) free) (hS : va_S A0 H0 H locs) (hA : ∀ q, q < H.size → A1 q → A0 q) (hf : ∀ q, free q → A0 q) (hAX : ∀ q, q < H.size → AX q → A0 q)
    (kx : ∀ (E : String) (ce : Cell) (q9 : Addr) (u : SX) (t : State) (H1 : Heap) (locs1 : List Loc), t.heap = H1 → s.vm.Alike t.vm → px u → BX E u t → H.size ≤ H1.size → (∀ q : Nat, q < H.size → ¬ AX q → H1[q]? = H[q]?) → va_S A0 H0 H1 locs1 → H1[q9]? = some ce → ce.vm = .none → s.vm.findClass E = some ce.cls → vx_W p l e R s m args below meth c H1 locs1 (cells + mc) (slots + ms) Q (F0 m pc ls rest) q9)
    (kk : ∀ (r : Int32) (u : S) (t : State) (H1 : Heap) (locs1 : List Loc), t.heap = H1 → s.vm.Alike t.vm → post r u → B u t → H.size ≤ H1.size → (∀ q : Nat, q < H.size → ¬ A1 q → H1[q]? = H[q]?) → va_S A0 H0 H1 locs1 → W p l e R s m args below meth c H1 locs1 (cells + mc) (slots + ms) Q (F0 m (pc + 3) ls (.int r :: rest))) : W p l e R s m args below meth c H locs cells slots Q (F0 m pc ls st0) := by
  intro T hT X
  rcases hr T hT X with ⟨v, st₀, t, T', L, h0, X', hL, e1, e2, ⟨⟨r, u, hv, hp, hb⟩, hF⟩, st⟩ | ⟨q, st₀, t, T', L, E, ce, h0, X', hL, e1, e2, ⟨u, hp, hb, hF⟩, hce, hcv, hcl, st⟩
  · cases hv
    obtain ⟨k1, k2, k3⟩ := vx_keep h0 e1 hS hA hf hL hF
    obtain ⟨t2, a1, b1⟩ := kk r u t T'.heap (locs ++ L) e1.symm (by rw [← e2]; exact X'.warmed.alike) hp hb k1 k2 k3 T' rfl X'
    exact ⟨t2, st t2 a1, b1⟩
  · obtain ⟨k1, k2, k3⟩ := vx_keep h0 e1 hS hAX hf hL hF
    obtain ⟨t2, a1, b1⟩ := kx E ce q u t T'.heap (locs ++ L) e1.symm (by rw [← e2]; exact X'.warmed.alike) hp hb k1 k2 k3 (by rw [e1]; exact hce) hcv hcl T' rfl X'
    exact ⟨t2, st.trans a1, b1⟩
theorem vx_calll {S SX : Type} {post : Int64 → S → Prop} {px : SX → Prop} {B : S → State → Prop} {BX : String → SX → State → Prop} {AX : Nat → Prop} (hr : vx_Run p l e R s m args below meth c H locs cells slots mc ms (F0 m pc ls st0) rest (va_Ql post B A1 a) (vx_X px BX AX) free) (hS : va_S A0 H0 H locs) (hA : ∀ q, q < H.size → A1 q → A0 q) (hf : ∀ q, free q → A0 q) (hAX : ∀ q, q < H.size → AX q → A0 q)
    (kx : ∀ (E : String) (ce : Cell) (q9 : Addr) (u : SX) (t : State) (H1 : Heap) (locs1 : List Loc), t.heap = H1 → s.vm.Alike t.vm → px u → BX E u t → H.size ≤ H1.size → (∀ q : Nat, q < H.size → ¬ AX q → H1[q]? = H[q]?) → va_S A0 H0 H1 locs1 → H1[q9]? = some ce → ce.vm = .none → s.vm.findClass E = some ce.cls → vx_W p l e R s m args below meth c H1 locs1 (cells + mc) (slots + ms) Q (F0 m pc ls rest) q9)
    (kk : ∀ (r : Int64) (u : S) (t : State) (H1 : Heap) (locs1 : List Loc), t.heap = H1 → s.vm.Alike t.vm → post r u → B u t → H.size ≤ H1.size → (∀ q : Nat, q < H.size → ¬ A1 q → H1[q]? = H[q]?) → va_S A0 H0 H1 locs1 → W p l e R s m args below meth c H1 locs1 (cells + mc) (slots + ms) Q (F0 m (pc + 3) ls (.long r :: rest))) : W p l e R s m args below meth c H locs cells slots Q (F0 m pc ls st0) := by
  intro T hT X
  rcases hr T hT X with ⟨v, st₀, t, T', L, h0, X', hL, e1, e2, ⟨⟨r, u, hv, hp, hb⟩, hF⟩, st⟩ | ⟨q, st₀, t, T', L, E, ce, h0, X', hL, e1, e2, ⟨u, hp, hb, hF⟩, hce, hcv, hcl, st⟩
  · cases hv
    obtain ⟨k1, k2, k3⟩ := vx_keep h0 e1 hS hA hf hL hF
    obtain ⟨t2, a1, b1⟩ := kk r u t T'.heap (locs ++ L) e1.symm (by rw [← e2]; exact X'.warmed.alike) hp hb k1 k2 k3 T' rfl X'
    exact ⟨t2, st t2 a1, b1⟩
  · obtain ⟨k1, k2, k3⟩ := vx_keep h0 e1 hS hAX hf hL hF
    obtain ⟨t2, a1, b1⟩ := kx E ce q u t T'.heap (locs ++ L) e1.symm (by rw [← e2]; exact X'.warmed.alike) hp hb k1 k2 k3 (by rw [e1]; exact hce) hcv hcl T' rfl X'
    exact ⟨t2, st.trans a1, b1⟩
theorem vx_callf {S SX : Type} {post : UInt32 → S → Prop} {px : SX → Prop} {B : S → State → Prop} {BX : String → SX → State → Prop} {AX : Nat → Prop} (hr : vx_Run p l e R s m args below meth c H locs cells slots mc ms (F0 m pc ls st0) rest (va_Qf post B A1 a) (vx_X px BX AX) free) (hS : va_S A0 H0 H locs) (hA : ∀ q, q < H.size → A1 q → A0 q) (hf : ∀ q, free q → A0 q) (hAX : ∀ q, q < H.size → AX q → A0 q)
    (kx : ∀ (E : String) (ce : Cell) (q9 : Addr) (u : SX) (t : State) (H1 : Heap) (locs1 : List Loc), t.heap = H1 → s.vm.Alike t.vm → px u → BX E u t → H.size ≤ H1.size → (∀ q : Nat, q < H.size → ¬ AX q → H1[q]? = H[q]?) → va_S A0 H0 H1 locs1 → H1[q9]? = some ce → ce.vm = .none → s.vm.findClass E = some ce.cls → vx_W p l e R s m args below meth c H1 locs1 (cells + mc) (slots + ms) Q (F0 m pc ls rest) q9)
    (kk : ∀ (r : UInt32) (u : S) (t : State) (H1 : Heap) (locs1 : List Loc), t.heap = H1 → s.vm.Alike t.vm → post r u → B u t → H.size ≤ H1.size → (∀ q : Nat, q < H.size → ¬ A1 q → H1[q]? = H[q]?) → va_S A0 H0 H1 locs1 → W p l e R s m args below meth c H1 locs1 (cells + mc) (slots + ms) Q (F0 m (pc + 3) ls (.float r :: rest))) : W p l e R s m args below meth c H locs cells slots Q (F0 m pc ls st0) := by
  intro T hT X
  rcases hr T hT X with ⟨v, st₀, t, T', L, h0, X', hL, e1, e2, ⟨⟨r, u, hv, hp, hb⟩, hF⟩, st⟩ | ⟨q, st₀, t, T', L, E, ce, h0, X', hL, e1, e2, ⟨u, hp, hb, hF⟩, hce, hcv, hcl, st⟩
  · cases hv
    obtain ⟨k1, k2, k3⟩ := vx_keep h0 e1 hS hA hf hL hF
    obtain ⟨t2, a1, b1⟩ := kk r u t T'.heap (locs ++ L) e1.symm (by rw [← e2]; exact X'.warmed.alike) hp hb k1 k2 k3 T' rfl X'
    exact ⟨t2, st t2 a1, b1⟩
  · obtain ⟨k1, k2, k3⟩ := vx_keep h0 e1 hS hAX hf hL hF
    obtain ⟨t2, a1, b1⟩ := kx E ce q u t T'.heap (locs ++ L) e1.symm (by rw [← e2]; exact X'.warmed.alike) hp hb k1 k2 k3 (by rw [e1]; exact hce) hcv hcl T' rfl X'
    exact ⟨t2, st.trans a1, b1⟩
theorem vx_calld {S SX : Type} {post : UInt64 → S → Prop} {px : SX → Prop} {B : S → State → Prop} {BX : String → SX → State → Prop} {AX : Nat → Prop} (hr : vx_Run p l e R s m args below meth c H locs cells slots mc ms (F0 m pc ls st0) rest (va_Qd post B A1 a) (vx_X px BX AX) free) (hS : va_S A0 H0 H locs) (hA : ∀ q, q < H.size → A1 q → A0 q) (hf : ∀ q, free q → A0 q) (hAX : ∀ q, q < H.size → AX q → A0 q)
    (kx : ∀ (E : String) (ce : Cell) (q9 : Addr) (u : SX) (t : State) (H1 : Heap) (locs1 : List Loc), t.heap = H1 → s.vm.Alike t.vm → px u → BX E u t → H.size ≤ H1.size → (∀ q : Nat, q < H.size → ¬ AX q → H1[q]? = H[q]?) → va_S A0 H0 H1 locs1 → H1[q9]? = some ce → ce.vm = .none → s.vm.findClass E = some ce.cls → vx_W p l e R s m args below meth c H1 locs1 (cells + mc) (slots + ms) Q (F0 m pc ls rest) q9)
    (kk : ∀ (r : UInt64) (u : S) (t : State) (H1 : Heap) (locs1 : List Loc), t.heap = H1 → s.vm.Alike t.vm → post r u → B u t → H.size ≤ H1.size → (∀ q : Nat, q < H.size → ¬ A1 q → H1[q]? = H[q]?) → va_S A0 H0 H1 locs1 → W p l e R s m args below meth c H1 locs1 (cells + mc) (slots + ms) Q (F0 m (pc + 3) ls (.double r :: rest))) : W p l e R s m args below meth c H locs cells slots Q (F0 m pc ls st0) := by
  intro T hT X
  rcases hr T hT X with ⟨v, st₀, t, T', L, h0, X', hL, e1, e2, ⟨⟨r, u, hv, hp, hb⟩, hF⟩, st⟩ | ⟨q, st₀, t, T', L, E, ce, h0, X', hL, e1, e2, ⟨u, hp, hb, hF⟩, hce, hcv, hcl, st⟩
  · cases hv
    obtain ⟨k1, k2, k3⟩ := vx_keep h0 e1 hS hA hf hL hF
    obtain ⟨t2, a1, b1⟩ := kk r u t T'.heap (locs ++ L) e1.symm (by rw [← e2]; exact X'.warmed.alike) hp hb k1 k2 k3 T' rfl X'
    exact ⟨t2, st t2 a1, b1⟩
  · obtain ⟨k1, k2, k3⟩ := vx_keep h0 e1 hS hAX hf hL hF
    obtain ⟨t2, a1, b1⟩ := kx E ce q u t T'.heap (locs ++ L) e1.symm (by rw [← e2]; exact X'.warmed.alike) hp hb k1 k2 k3 (by rw [e1]; exact hce) hcv hcl T' rfl X'
    exact ⟨t2, st.trans a1, b1⟩
theorem vx_callv {S SX : Type} {post : S → Prop} {px : SX → Prop} {B : S → State → Prop} {BX : String → SX → State → Prop} {AX : Nat → Prop} (hr : vx_Run p l e R s m args below meth c H locs cells slots mc ms (F0 m pc ls st0) rest (va_Qv post B A1 a) (vx_X px BX AX) free) (hS : va_S A0 H0 H locs) (hA : ∀ q, q < H.size → A1 q → A0 q) (hf : ∀ q, free q → A0 q) (hAX : ∀ q, q < H.size → AX q → A0 q)
    (kx : ∀ (E : String) (ce : Cell) (q9 : Addr) (u : SX) (t : State) (H1 : Heap) (locs1 : List Loc), t.heap = H1 → s.vm.Alike t.vm → px u → BX E u t → H.size ≤ H1.size → (∀ q : Nat, q < H.size → ¬ AX q → H1[q]? = H[q]?) → va_S A0 H0 H1 locs1 → H1[q9]? = some ce → ce.vm = .none → s.vm.findClass E = some ce.cls → vx_W p l e R s m args below meth c H1 locs1 (cells + mc) (slots + ms) Q (F0 m pc ls rest) q9)
    (kk : ∀ (u : S) (t : State) (H1 : Heap) (locs1 : List Loc), t.heap = H1 → s.vm.Alike t.vm → post u → B u t → H.size ≤ H1.size → (∀ q : Nat, q < H.size → ¬ A1 q → H1[q]? = H[q]?) → va_S A0 H0 H1 locs1 → W p l e R s m args below meth c H1 locs1 (cells + mc) (slots + ms) Q (F0 m (pc + 3) ls (rest))) : W p l e R s m args below meth c H locs cells slots Q (F0 m pc ls st0) := by
  intro T hT X
  rcases hr T hT X with ⟨v, st₀, t, T', L, h0, X', hL, e1, e2, ⟨⟨u, hv, hp, hb⟩, hF⟩, st⟩ | ⟨q, st₀, t, T', L, E, ce, h0, X', hL, e1, e2, ⟨u, hp, hb, hF⟩, hce, hcv, hcl, st⟩
  · cases hv
    obtain ⟨k1, k2, k3⟩ := vx_keep h0 e1 hS hA hf hL hF
    obtain ⟨t2, a1, b1⟩ := kk u t T'.heap (locs ++ L) e1.symm (by rw [← e2]; exact X'.warmed.alike) hp hb k1 k2 k3 T' rfl X'
    exact ⟨t2, st t2 a1, b1⟩
  · obtain ⟨k1, k2, k3⟩ := vx_keep h0 e1 hS hAX hf hL hF
    obtain ⟨t2, a1, b1⟩ := kx E ce q u t T'.heap (locs ++ L) e1.symm (by rw [← e2]; exact X'.warmed.alike) hp hb k1 k2 k3 (by rw [e1]; exact hce) hcv hcl T' rfl X'
    exact ⟨t2, st.trans a1, b1⟩
end Rows
section Ends
variable {p : Program} {l : Launch} {e : Env} {R : Room} {s : State} {m : MethodId} {args : Array Value} {below : List Frame} {meth : Method} {c : Code} {H : Heap} {locs : List Loc} {cells slots : Nat} {Q : State → Prop}
variable {mc ms : Nat} {free : Addr → Prop} {A0 A1 : Nat → Prop} {H0 : Heap} {a : Array Value} {ls : Array Slot} {st0 rest : List Value}
variable {Qc : Array Value → State → Outcome → State → Prop} {XC : String → State → State → Prop}
/-- what a body that may throw owes at its end -/
def vx_MQ (below : List Frame) (Qc : Array Value → State → Outcome → State → Prop) (XC : String → State → State → Prop) (a : Array Value) (s : State) (mc ms : Nat) (free : Addr → Prop) : State → Prop := fun t =>
  ∃ o, t.status = .running ∧ Ended t below o ∧ vx_Q Qc XC mc ms free a s o t
theorem vx_ret {g : JFrame} {mc ms : Nat} (k : W p l e R s m args below meth c H locs cells slots (MQ below Qc args s mc ms free) g) : W p l e R s m args below meth c H locs cells slots (vx_MQ below Qc XC args s mc ms free) g := by
  intro T hT X
  obtain ⟨t, a1, o, b1, b2, b3, b4⟩ := k T hT X
  exact ⟨t, a1, o, b1, b2, Or.inl ⟨b3, b4⟩⟩
/-- not caught here: it goes on to the caller -/
theorem vx_widen {g : JFrame} {q : Addr} {k n : Nat} (h1 : cells ≤ k) (h2 : slots ≤ n) (kk : vx_W p l e R s m args below meth c H locs k n Q g q) : vx_W p l e R s m args below meth c H locs cells slots Q g q := fun T hT X => kk T hT (stand_widen X h1 h2)
theorem vx_out {pc : Nat} {E : String} {ce : Cell} {q : Addr} {mc ms : Nat} (hout : ∀ x ∈ c.exceptionTable.toList, covers x pc = false) (hlocks : meth.locks = false) (hcell : H[q]? = some ce) (hv : ce.vm = .none) (hcl : s.vm.findClass E = some ce.cls)
    (hx : ∀ t : State, t.heap = H → s.vm.Alike t.vm → XC E s t) (hf : ∀ z ∈ locs, free z.base) (hc : cells ≤ mc) (hs : slots ≤ ms) :
    vx_W p l e R s m args below meth c H locs cells slots (vx_MQ below Qc XC args s mc ms free) (F0 m pc ls rest) q := by
  intro T hT X
  obtain ⟨st1, hrun, hend, hW, hsm⟩ := X.leaveThrown q (g := F0 m pc ls rest) rfl rfl rfl hout hlocks
  have hcell9 : (T.setFrames (.throwing q :: below)).heap[q]? = some ce := by
    show T.heap[q]? = some ce
    rw [hT]; exact hcell
  exact ⟨_, st1, .threw q, hrun, hend, Or.inr ⟨q, rfl, E, ce, locs, hx _ hT hW.alike, hcell9, hv, hcl, hW, hsm.mono hc hs, hf⟩⟩
theorem vx_frame {U : State} {k n : Nat} (h : s.sameButNew ({ U with vm := s.vm } : State) locs k n) : s.heap.size ≤ U.heap.size ∧ ∀ q : Nat, q < s.heap.size → (∀ z ∈ locs, z.base ≠ q) → U.heap[q]? = s.heap[q]? := by
  obtain ⟨-, h2, -, -, -, h6⟩ := h
  refine ⟨h2, fun q hq hz => ?_⟩
  obtain ⟨c9, e1, e2, e3, e4⟩ := h6 q _ (Array.getElem?_eq_getElem hq)
  have hs : c9.slots = (s.heap[q]).slots := Array.ext_getElem? fun i => e4 i fun hm => hz _ hm rfl
  have h9 : c9 = s.heap[q] := by
    rw [hs] at e2
    exact e2
  have e5 : U.heap[q]? = some c9 := e1
  rw [e5, h9, Array.getElem?_eq_getElem hq]
/-- the words of a throw but the four that speak of the heap -/
def vx_no (w : Cond) : Bool := decide (w ≠ .isRef (.static Bundle.tN "UNASSIGNED_STACK" Bundle.steD)) && decide (w ≠ .isRef (.static Bundle.tN "SUPPRESSED_SENTINEL" Bundle.listD)) && decide (w ≠ .laysStatic Bundle.tN "UNASSIGNED_STACK" Bundle.steD) && decide (w ≠ .laysStatic Bundle.tN "SUPPRESSED_SENTINEL" Bundle.listD)
def vx_at0 (own : String) (ic : Nat) (X : String) (names : List String) : List Cond := (Bundle.ownAtoms0 own ic X names).filter vx_no
def vx_atS (own : String) (ic : Nat) (X : String) (names : List String) : List Cond := (Bundle.ownAtoms own ic X names).filter vx_no
/-- a word that the tables alone decide, or a good one -/
def vx_ot (w : Cond) : Bool := w.onTables || goodWord w
theorem vx_ot_at {args a' : Array Value} {s U : State} {w : Cond} (hW : s.WarmedH U.vm) (hvm : s.vm = U.vm) (hg : vx_ot w = true) (h : w.before args s = true) : w.before a' U = true := by
  simp only [vx_ot, Bool.or_eq_true] at hg
  rcases hg with hg | hg
  · exact va_tabs hg hvm h
  · exact word_at hW (good_of_word hg) h
/-- a list's words: the good ones out of the method's own list, the others by premises of their own -/
theorem vx_hat {args : Array Value} {s : State} {L B : List Cond} (h1 : ∀ w ∈ L.filter goodWord, w.before args s = true) (h2 : ∀ w ∈ L.filter (fun w => !goodWord w), w ∈ B) (h3 : ∀ w ∈ B, w.before args s = true) : ∀ w ∈ L, w.before args s = true := by
  intro w hw
  by_cases g : goodWord w = true
  · exact h1 w (List.mem_filter.mpr ⟨hw, g⟩)
  · refine h3 w (h2 w (List.mem_filter.mpr ⟨hw, ?_⟩))
    show (!goodWord w) = true
    cases hgw : goodWord w
    · rfl
    · exact absurd hgw g
theorem vx_c {args : Array Value} {s : State} {w : Cond} {B : List Cond} (h : w.before args s = true) (t : ∀ w ∈ B, w.before args s = true) : ∀ w' ∈ w :: B, w'.before args s = true := fun w' h' => (List.mem_cons.mp h').elim (fun e => by rw [e]; exact h) (t w')
theorem vx_n {args : Array Value} {s : State} : ∀ w ∈ ([] : List Cond), w.before args s = true := fun _ h => nomatch h
theorem vx_own {args : Array Value} {s : State} {L : List Cond} (h1 : ∀ w ∈ L.filter vx_no, w.before args s = true)
    (hU : (Cond.isRef (.static Bundle.tN "UNASSIGNED_STACK" Bundle.steD)).before args s = true) (hN : (Cond.isRef (.static Bundle.tN "SUPPRESSED_SENTINEL" Bundle.listD)).before args s = true)
    (lU : (Cond.laysStatic Bundle.tN "UNASSIGNED_STACK" Bundle.steD).before args s = true) (lN : (Cond.laysStatic Bundle.tN "SUPPRESSED_SENTINEL" Bundle.listD).before args s = true) : ∀ w ∈ L, w.before args s = true := by
  intro w hw
  by_cases e1 : w = .isRef (.static Bundle.tN "UNASSIGNED_STACK" Bundle.steD)
  · rw [e1]; exact hU
  · by_cases e2 : w = .isRef (.static Bundle.tN "SUPPRESSED_SENTINEL" Bundle.listD)
    · rw [e2]; exact hN
    · by_cases e3 : w = .laysStatic Bundle.tN "UNASSIGNED_STACK" Bundle.steD
      · rw [e3]; exact lU
      · by_cases e4 : w = .laysStatic Bundle.tN "SUPPRESSED_SENTINEL" Bundle.listD
        · rw [e4]; exact lN
        · exact h1 w (List.mem_filter.mpr ⟨hw, by unfold vx_no; rw [decide_eq_true e1, decide_eq_true e2, decide_eq_true e3, decide_eq_true e4]; rfl⟩)
/-- where a static field lies, its class's statics cell in H -/
def vx_L (C n d : String) (A : Nat → Prop) (U : State) (H : Heap) : Prop := ∃ (c : ClassId) (k : Class) (i : Nat) (f : Field) (a : Nat) (cell : Cell), U.vm.findClass C = some c ∧ U.fieldFound? C n d = some (c, k, i, f) ∧ f.isStatic = true ∧ k.statics = some a ∧ H[a]? = some cell ∧ cell.vm.isStatics = true ∧ cell.cls = c ∧ f.slot < cell.slots.size ∧ k.staticTypes[f.slot]? = some f.type ∧ ¬ A a
theorem vx_L.moved {C n d : String} {A : Nat → Prop} {u U : State} {H : Heap} (hvm : u.vm.Alike U.vm) (h : vx_L C n d A u H) : vx_L C n d A U H := by
  obtain ⟨c, k, i, f, a, cell, h1, h2, h3, h4, h5, h6, h7, h8, h9, h10⟩ := h
  obtain ⟨k', hi', he⟩ := State.fieldFound?_setVm hvm h2
  exact ⟨c, k', i, f, a, cell, by rw [hvm.findClass]; exact h1, hi', h3, by rw [he]; exact h4, h5, h6, h7, h8, by rw [he]; exact h9, h10⟩
theorem vx_L.kept {C n d : String} {A : Nat → Prop} {U : State} {H H1 : Heap} (h : vx_L C n d A U H) (hq : ∀ a : Nat, a < H.size → ¬ A a → H1[a]? = H[a]?) : vx_L C n d A U H1 := by
  obtain ⟨c, k, i, f, a, cell, h1, h2, h3, h4, h5, h6, h7, h8, h9, h10⟩ := h
  exact ⟨c, k, i, f, a, cell, h1, h2, h3, h4, by rw [hq a (Array.getElem?_eq_some_iff.mp h5).1 h10]; exact h5, h6, h7, h8, h9, h10⟩
theorem vx_L.narrow {C n d : String} {A B : Nat → Prop} {U : State} {H : Heap} (h : vx_L C n d A U H) (hAB : ∀ q, B q → A q) : vx_L C n d B U H := by
  obtain ⟨c, k, i, f, a, cell, h1, h2, h3, h4, h5, h6, h7, h8, h9, h10⟩ := h
  exact ⟨c, k, i, f, a, cell, h1, h2, h3, h4, h5, h6, h7, h8, h9, fun z => h10 (hAB _ z)⟩
theorem vx_L.word {C n d : String} {A : Nat → Prop} {s : State} {args : Array Value} (h : vx_L C n d A s s.heap) : (Cond.laysStatic C n d).before args s = true := by
  obtain ⟨c, k, i, f, a, cell, h1, h2, h3, h4, h5, h6, h7, h8, h9, -⟩ := h
  show (Cond.laysStatic C n d).holds args s none s [] = true
  exact Cond.laysStatic_of h1 h2 h3 h4 h5 h6 h7 h8 h9
/-- .. and what it holds: null or some reference -/
def vx_Zq (C n d : String) (A : Nat → Prop) (U : State) (H : Heap) : Prop := va_Zq C n d A U H ∧ vx_L C n d A U H
theorem vx_Zq.moved {C n d : String} {A : Nat → Prop} {u U : State} {H : Heap} (hvm : u.vm.Alike U.vm) (h : vx_Zq C n d A u H) : vx_Zq C n d A U H := ⟨va_Zq.moved hvm h.1, vx_L.moved hvm h.2⟩
theorem vx_Zq.kept {C n d : String} {A : Nat → Prop} {U : State} {H H1 : Heap} (h : vx_Zq C n d A U H) (hq : ∀ a : Nat, a < H.size → ¬ A a → H1[a]? = H[a]?) : vx_Zq C n d A U H1 := ⟨va_Zq.kept h.1 hq, vx_L.kept h.2 hq⟩
theorem vx_Zq.narrow {C n d : String} {A B : Nat → Prop} {U : State} {H : Heap} (h : vx_Zq C n d A U H) (hAB : ∀ q, B q → A q) : vx_Zq C n d B U H := ⟨va_Zq.narrow h.1 hAB, vx_L.narrow h.2 hAB⟩
theorem vx_Zqof {args : Array Value} {s : State} {C n d : String} {A : Nat → Prop} (hl : (Cond.laysStatic C n d).before args s = true) (hini : (Cond.initialized C).before args s = true) (h : (Cond.isRef (.static C n d)).before args s = true) (hA : ∀ a : Nat, a < s.heap.size → ¬ A a) : vx_Zq C n d A s s.heap := by
  refine ⟨va_Zqof hl hini h hA, ?_⟩
  obtain ⟨c, k, i, f, a, cell, h1, h2, h3, h4, h5, h6, h7, h8, h9⟩ := Cond.laysStatic_spec hl
  exact ⟨c, k, i, f, a, cell, h1, h2, h3, h4, h5, h6, h7, h8, h9, hA a (Array.getElem?_eq_some_iff.mp h5).1⟩
theorem vx_isRef {C n d : String} {v : Value} {A : Nat → Prop} {s : State} {args : Array Value} (h : va_Z C n d v A s s.heap) (hv : v.isRef = true) : (Cond.isRef (.static C n d)).before args s = true := by
  obtain ⟨cf, kf, fi, f, a, cell, h1, h2, h3, h4, h5, h6, h7, -⟩ := h
  have he : (Term.static C n d).eval args s none [] s = some v := by
    simp [Term.eval, State.fieldNamed?, h1, h2, h4, h5, h6, h7]
  simp only [Cond.before, Cond.holds, Cond.value, he]
  cases v <;> simp_all [Value.isRef]
theorem vx_isRefq {C n d : String} {A : Nat → Prop} {s : State} {args : Array Value} (h : va_Zq C n d A s s.heap) : (Cond.isRef (.static C n d)).before args s = true := by
  rcases h with h | ⟨t, h⟩
  · exact vx_isRef h rfl
  · exact vx_isRef h rfl
/-- the same frame, seen from here: as if the method were called anew in this heap -/
theorem vx_rebase {T : State} (X : Stand p l e R s m args below meth c T locs cells slots) {R' : Room} (hf : R'.frames ≤ R.frames) (hl : R'.locals ≤ R.locals) (hc : cells + R'.cells ≤ R.cells) (hs : slots + R'.slots ≤ R.slots) :
    Stand p l e R' ((T.setVm s.vm).setFrames (.invoking m args :: below)) m args below meth c T [] 0 0 := by
  have htop : (T.setVm s.vm).topJava?.isSome := X.here.top
  have hF : ((T.setVm s.vm).setFrames (.invoking m args :: below)).frames = .invoking m args :: below := State.frames_setFrames _ (State.cur_lt_of_top htop)
  obtain ⟨g₀, hg0⟩ := Option.isSome_iff_exists.mp htop
  obtain ⟨r, hr⟩ := State.topJava?_eq_some.mp hg0
  have hl9 : e.platform.stackLimits (T.setVm s.vm).me = e.platform.stackLimits s.me := X.limits
  have hb9 : (T.setVm s.vm).me.stackBytes = s.me.stackBytes := X.bytes
  refine ⟨X.admits, X.cas, X.clock, hF, ?_, X.hears, X.method, X.code, X.here, X.tail, X.warmed, ?_, ?_, ?_⟩
  · have h := X.room
    have hU : ((T.setVm s.vm).setFrames (.invoking m args :: below)).localsInUse = s.localsInUse := by
      rw [State.localsInUse_invoking hF (meth := meth) (c := c) X.method X.code, State.localsInUse_invoking X.frames X.method X.code]
    simp only [State.hasRoom, Bool.and_eq_true, decide_eq_true_eq] at h ⊢
    obtain ⟨⟨⟨⟨h1, h2, h3, h4, h5, h6⟩, h7⟩, h8⟩, h9⟩ := h
    rw [X.frames, List.length_cons] at h2 h3
    have q1 := X.heapSize
    have q2 := X.used
    simp only [hF, hU, List.length_cons, State.stackLimits_setFrames, State.stackBytes_setFrames, hl9, hb9]
    refine ⟨⟨⟨⟨by omega, by omega, by omega, by omega, by omega, h6⟩, ?_⟩, ?_⟩, X.book⟩
    · show T.heap.size + R'.cells ≤ e.platform.maxCells
      omega
    · show T.slotsUsed + R'.slots ≤ e.platform.maxSlots
      omega
  · rw [State.stackLimits_setFrames]; rfl
  · rw [State.stackBytes_setFrames]; rfl
  · refine ⟨?_, Nat.le_refl _, Nat.le_refl _, ?_, ?_, fun a c9 h9 => ⟨c9, h9, rfl, rfl, fun _ _ => rfl⟩⟩
    · obtain ⟨t, ht, -⟩ := State.frames_cons hr
      show T.setVm s.vm = { ((T.setVm s.vm).setFrames (.invoking m args :: below)).setFrames (T.setVm s.vm).frames with heap := T.heap, slotsUsed := T.slotsUsed }
      rw [State.setFrames_setFrames, State.setFrames_self ht]
      rfl
    · show T.slotsUsed = T.slotsUsed + ((T.heap.toList.drop T.heap.size).map (·.slots.size)).sum
      rw [List.drop_eq_nil_of_le (Nat.le_of_eq Array.length_toList)]
      rfl
    · show ((T.heap.toList.drop T.heap.size).map (·.slots.size)).sum ≤ 0
      rw [List.drop_eq_nil_of_le (Nat.le_of_eq Array.length_toList)]
      exact Nat.le_refl _
/-- 'throw new E()': new; dup; invokespecial; athrow -/
theorem vx_throw0 {cc : ByteArray} {pc : Nat} (hexec : p.tables.exec = Jvm.exec) (hb : c.code = cc) (hl : l.stackTraces = false) {own cls : String} {names : List String} {ik ic mc ms : Nat} {A : Nat → Prop}
    (hown : s.vm.findClass own = some m.cls) (hcls : Bundle.fit cls = true) (hnames : ∀ n ∈ names, Bundle.fit n = true)
    (hk : (Cond.classLink own ik cls).before args s = true) (hini : (Cond.initialized cls).before args s = true) (hat : ∀ w ∈ vx_at0 own ic cls names, w.before args s = true)
    (hgood : ∀ w ∈ Cond.classLink own ik cls :: Cond.initialized cls :: vx_at0 own ic cls names, vx_ot w = true)
    (hU : vx_Zq Bundle.tN "UNASSIGNED_STACK" Bundle.steD A s s.heap) (hN : vx_Zq Bundle.tN "SUPPRESSED_SENTINEL" Bundle.listD A s s.heap) (hS : va_S A s.heap H locs) (hsize : ls.size = c.maxLocals)
    (d0 : decode cc pc = .ok (.new ik, 3)) (d3 : decode cc (pc + 3) = .ok (.dup, 1)) (d4 : decode cc (pc + 4) = .ok (.invokespecial ic, 3)) (d7 : decode cc (pc + 7) = .ok (.athrow, 1))
    (hout : ∀ x ∈ c.exceptionTable.toList, covers x (pc + 7) = false)
    (hRframes : names.length + 3 < R.frames) (hRlocals : (rest.map fun v => v.category).sum + (13 * (names.length + 1) + 42) ≤ R.locals) (hRcells : cells + 1 ≤ R.cells) (hRslots : slots + 6 ≤ R.slots) (hlocks : meth.locks = false)
    (hx : ∀ t : State, s.vm.Alike t.vm → H.size ≤ t.heap.size → (∀ q : Nat, q < H.size → t.heap[q]? = H[q]?) → XC cls s t)
    (hf : ∀ z ∈ locs, free z.base) (hc : cells + 1 ≤ mc) (hs : slots + 6 ≤ ms) :
    W p l e R s m args below meth c H locs cells slots (vx_MQ below Qc XC args s mc ms free) (F0 m pc ls rest) := by
  intro T hT X
  have htr : e.platform.stackTraces = false := (show e.platform.stackTraces = l.stackTraces by rw [X.admits.platform]).trans hl
  have Y := vx_rebase X (R' := { frames := R.frames, locals := R.locals, cells := 1, slots := 6 }) (Nat.le_refl _) (Nat.le_refl _) hRcells hRslots
  obtain ⟨s', hA⟩ : ∃ z, z = (T.setVm s.vm).setFrames (.invoking m args :: below) := ⟨_, rfl⟩
  rw [← hA] at Y
  have hvm : s'.vm = s.vm := by rw [hA]; rfl
  have hhp : s'.heap = H := by rw [hA]; exact hT
  have hW0 : s.WarmedH s'.vm := by rw [hvm]; exact State.WarmedH.refl s
  have hat' : ∀ w ∈ vx_at0 own ic cls names, w.before args s' = true := fun w hw => vx_ot_at hW0 hvm.symm (hgood w (List.mem_cons_of_mem _ (List.mem_cons_of_mem _ hw))) (hat w hw)
  have hk' : (Cond.classLink own ik cls).before args s' = true := vx_ot_at hW0 hvm.symm (hgood _ List.mem_cons_self) hk
  have hini' : (Cond.initialized cls).before args s' = true := vx_ot_at hW0 hvm.symm (hgood _ (List.mem_cons_of_mem _ List.mem_cons_self)) hini
  have hU' : vx_Zq Bundle.tN "UNASSIGNED_STACK" Bundle.steD A s' s'.heap := by rw [hhp]; exact vx_Zq.moved hW0.alike (hU.kept hS.2.1)
  have hN' : vx_Zq Bundle.tN "SUPPRESSED_SENTINEL" Bundle.listD A s' s'.heap := by rw [hhp]; exact vx_Zq.moved hW0.alike (hN.kept hS.2.1)
  have h : ∀ w ∈ Bundle.ownAtoms0 own ic cls names, w.before args s' = true := vx_own hat' (vx_isRefq hU'.1) (vx_isRefq hN'.1) hU'.2.word hN'.2.word
  have hown' : s'.vm.findClass own = some m.cls := by rw [hvm]; exact hown
  have hins : (Cond.instantiable cls 6).before args s' = true := h _ (by simp [Bundle.ownAtoms0])
  obtain ⟨vm₁, cX, kX, hfX, hkX, -, -, X₁, st1⟩ := Y.newCold hexec (own := own) (C := cls) (index := ik) (n := 6) hown' hk' hins hini'
    (g := F0 m pc ls rest) rfl (by rw [hb]; exact d0) (Nat.le_refl _) (Nat.le_refl _)
  generalize hT1 : (T.setVm vm₁).pushCell { cls := cX, slots := kX.instanceTypes.map defaultValue, vm := .none } = T1 at X₁ st1
  have hcat : (Value.ref T.heap.size).category = 1 := rfl
  have hcellA : T1.heap[T.heap.size]? = some (freshCell cX kX) := by rw [← hT1]; exact State.heap_pushCell_size _ _
  have d3' : decode c.code (pc + 3) = .ok (.dup, 1) := by rw [hb]; exact d3
  obtain ⟨U, hsteps, hrun, hend, hW, hsame, ce, hce, hO⟩ := X₁.ctorThrow0 hexec htr (own := own) (cls := cls) (names := names) (ic := ic) hown' hcls hnames h (fun x hx => nomatch hx) hfX hkX hcellA (by rw [hhp, hT]; exact Nat.le_refl _)
    (g := { method := m, pc := pc + 4, locals := ls, stack := .ref T.heap.size :: .ref T.heap.size :: rest, locked := none }) rfl hsize rfl rfl (rest := rest) rfl
    (by rw [hb]; exact d4) (by rw [hb]; exact d7) hout hRframes (by simp only [List.map_cons, List.sum_cons, hcat]; omega) hlocks
  obtain ⟨f1, f2⟩ := vx_frame hsame
  rw [hhp] at f1 f2
  have hWs : s.WarmedH U.vm := State.WarmedH.trans hW0 hW
  have hcl : s.vm.findClass cls = some ce.cls := by
    have h9 := hO.cls
    rw [hvm] at h9
    exact h9
  have hall : s.sameButNew ({ U with vm := s.vm } : State) locs mc ms := by
    subst hA
    obtain ⟨e1, e2⟩ := hsame
    rw [State.setFrames_setFrames] at e1
    have h2 : (T.setVm s.vm).sameButNew ({ U with vm := s.vm } : State) [] (0 + 1) (0 + 6) := ⟨e1, e2⟩
    have h3 := X.same.trans h2
    rw [List.append_nil] at h3
    exact h3.mono hc hs
  refine ⟨U, ?_, .threw T.heap.size, hrun, hend, Or.inr ⟨T.heap.size, rfl, cls, ce, locs, hx U hWs.alike f1 (fun q hq => f2 q hq (fun z hz => nomatch hz)), hce, hO.vm, hcl, hWs, hall, hf⟩⟩
  refine st1 _ ?_
  show Steps p.tables e below (T1.setTop { method := m, pc := pc + 3, locals := ls, stack := .ref T.heap.size :: rest, locked := none }) _
  jvm_step X₁.here [X₁.here.top, hexec, d3', Value.category]
  exact hsteps
/-- 'throw new E("text")': new; dup; ldc; invokespecial; athrow -/
theorem vx_throwS {cc : ByteArray} {pc : Nat} (hexec : p.tables.exec = Jvm.exec) (hb : c.code = cc) (hl : l.stackTraces = false) {own cls text : String} {names : List String} {ik is ic mc ms sa : Nat} {A : Nat → Prop}
    (hown : s.vm.findClass own = some m.cls) (hcls : Bundle.fit cls = true) (hnames : ∀ n ∈ names, Bundle.fit n = true)
    (hk : (Cond.classLink own ik cls).before args s = true) (hini : (Cond.initialized cls).before args s = true) (hstr : vk_R own is text sa s) (hat : ∀ w ∈ vx_atS own ic cls names, w.before args s = true)
    (hgood : ∀ w ∈ Cond.classLink own ik cls :: Cond.initialized cls :: vx_atS own ic cls names, vx_ot w = true)
    (hU : vx_Zq Bundle.tN "UNASSIGNED_STACK" Bundle.steD A s s.heap) (hN : vx_Zq Bundle.tN "SUPPRESSED_SENTINEL" Bundle.listD A s s.heap) (hS : va_S A s.heap H locs) (hsize : ls.size = c.maxLocals)
    (d0 : decode cc pc = .ok (.new ik, 3)) (d3 : decode cc (pc + 3) = .ok (.dup, 1)) (d4 : decode cc (pc + 4) = .ok (.ldc is, 2)) (d6 : decode cc (pc + 6) = .ok (.invokespecial ic, 3)) (d9 : decode cc (pc + 9) = .ok (.athrow, 1))
    (hout : ∀ x ∈ c.exceptionTable.toList, covers x (pc + 9) = false)
    (hRframes : names.length + 3 < R.frames) (hRlocals : (rest.map fun v => v.category).sum + (13 * (names.length + 1) + 43) ≤ R.locals) (hRcells : cells + 1 ≤ R.cells) (hRslots : slots + 6 ≤ R.slots) (hlocks : meth.locks = false)
    (hx : ∀ t : State, s.vm.Alike t.vm → H.size ≤ t.heap.size → (∀ q : Nat, q < H.size → t.heap[q]? = H[q]?) → XC cls s t)
    (hf : ∀ z ∈ locs, free z.base) (hc : cells + 1 ≤ mc) (hs : slots + 6 ≤ ms) :
    W p l e R s m args below meth c H locs cells slots (vx_MQ below Qc XC args s mc ms free) (F0 m pc ls rest) := by
  intro T hT X
  have htr : e.platform.stackTraces = false := (show e.platform.stackTraces = l.stackTraces by rw [X.admits.platform]).trans hl
  have Y := vx_rebase X (R' := { frames := R.frames, locals := R.locals, cells := 1, slots := 6 }) (Nat.le_refl _) (Nat.le_refl _) hRcells hRslots
  obtain ⟨s', hA⟩ : ∃ z, z = (T.setVm s.vm).setFrames (.invoking m args :: below) := ⟨_, rfl⟩
  rw [← hA] at Y
  have hvm : s'.vm = s.vm := by rw [hA]; rfl
  have hhp : s'.heap = H := by rw [hA]; exact hT
  have hW0 : s.WarmedH s'.vm := by rw [hvm]; exact State.WarmedH.refl s
  have hat' : ∀ w ∈ vx_atS own ic cls names, w.before args s' = true := fun w hw => vx_ot_at hW0 hvm.symm (hgood w (List.mem_cons_of_mem _ (List.mem_cons_of_mem _ hw))) (hat w hw)
  have hk' : (Cond.classLink own ik cls).before args s' = true := vx_ot_at hW0 hvm.symm (hgood _ List.mem_cons_self) hk
  have hini' : (Cond.initialized cls).before args s' = true := vx_ot_at hW0 hvm.symm (hgood _ (List.mem_cons_of_mem _ List.mem_cons_self)) hini
  have hU' : vx_Zq Bundle.tN "UNASSIGNED_STACK" Bundle.steD A s' s'.heap := by rw [hhp]; exact vx_Zq.moved hW0.alike (hU.kept hS.2.1)
  have hN' : vx_Zq Bundle.tN "SUPPRESSED_SENTINEL" Bundle.listD A s' s'.heap := by rw [hhp]; exact vx_Zq.moved hW0.alike (hN.kept hS.2.1)
  have h : ∀ w ∈ Bundle.ownAtoms own ic cls names, w.before args s' = true := vx_own hat' (vx_isRefq hU'.1) (vx_isRefq hN'.1) hU'.2.word hN'.2.word
  have hown' : s'.vm.findClass own = some m.cls := by rw [hvm]; exact hown
  have hins : (Cond.instantiable cls 6).before args s' = true := h _ (by simp [Bundle.ownAtoms])
  obtain ⟨vm₁, cX, kX, hfX, hkX, -, -, X₁, st1⟩ := Y.newCold hexec (own := own) (C := cls) (index := ik) (n := 6) hown' hk' hins hini'
    (g := F0 m pc ls rest) rfl (by rw [hb]; exact d0) (Nat.le_refl _) (Nat.le_refl _)
  generalize hT1 : (T.setVm vm₁).pushCell { cls := cX, slots := kX.instanceTypes.map defaultValue, vm := .none } = T1 at X₁ st1
  have hcat : (Value.ref T.heap.size).category = 1 := rfl
  have hcellA : T1.heap[T.heap.size]? = some (freshCell cX kX) := by rw [← hT1]; exact State.heap_pushCell_size _ _
  have d3' : decode c.code (pc + 3) = .ok (.dup, 1) := by rw [hb]; exact d3
  have d4' : decode c.code (pc + 4) = .ok (.ldc is, 2) := by rw [hb]; exact d4
  have hstr' : vk_R own is text sa s' := vk_R.warm hW0 hstr
  obtain ⟨U, hsteps, hrun, hend, hW, hsame, ce, hce, hO⟩ := X₁.ctorThrowS hexec htr (own := own) (cls := cls) (names := names) (ic := ic) hown' hcls hnames h (fun x hx => nomatch hx) hfX hkX hcellA (by rw [hhp, hT]; exact Nat.le_refl _) (msg := .ref sa) rfl
    (g := { method := m, pc := pc + 6, locals := ls, stack := .ref sa :: .ref T.heap.size :: .ref T.heap.size :: rest, locked := none }) rfl hsize rfl rfl (rest := rest) rfl
    (by rw [hb]; exact d6) (by rw [hb]; exact d9) hout hRframes (by simp only [List.map_cons, List.sum_cons, hcat]; omega) hlocks
  obtain ⟨f1, f2⟩ := vx_frame hsame
  rw [hhp] at f1 f2
  have hWs : s.WarmedH U.vm := State.WarmedH.trans hW0 hW
  have hcl : s.vm.findClass cls = some ce.cls := by
    have h9 := hO.cls
    rw [hvm] at h9
    exact h9
  have hall : s.sameButNew ({ U with vm := s.vm } : State) locs mc ms := by
    subst hA
    obtain ⟨e1, e2⟩ := hsame
    rw [State.setFrames_setFrames] at e1
    have h2 : (T.setVm s.vm).sameButNew ({ U with vm := s.vm } : State) [] (0 + 1) (0 + 6) := ⟨e1, e2⟩
    have h3 := X.same.trans h2
    rw [List.append_nil] at h3
    exact h3.mono hc hs
  refine ⟨U, ?_, .threw T.heap.size, hrun, hend, Or.inr ⟨T.heap.size, rfl, cls, ce, locs, hx U hWs.alike f1 (fun q hq => f2 q hq (fun z hz => nomatch hz)), hce, hO.vm, hcl, hWs, hall, hf⟩⟩
  refine st1 _ ?_
  show Steps p.tables e below (T1.setTop { method := m, pc := pc + 3, locals := ls, stack := .ref T.heap.size :: rest, locked := none }) _
  jvm_step X₁.here [X₁.here.top, hexec, d3', Value.category]
  exact X₁.ldcString hexec (own := own) (text := text) (index := is) (a := sa) hown' hstr'.1 hstr'.2
    (g := { method := m, pc := pc + 4, locals := ls, stack := .ref T.heap.size :: .ref T.heap.size :: rest, locked := none }) rfl d4' _ hsteps
/-- 'throw new E("text")', the text by a wide index -/
theorem vx_throwSW {cc : ByteArray} {pc : Nat} (hexec : p.tables.exec = Jvm.exec) (hb : c.code = cc) (hl : l.stackTraces = false) {own cls text : String} {names : List String} {ik is ic mc ms sa : Nat} {A : Nat → Prop}
    (hown : s.vm.findClass own = some m.cls) (hcls : Bundle.fit cls = true) (hnames : ∀ n ∈ names, Bundle.fit n = true)
    (hk : (Cond.classLink own ik cls).before args s = true) (hini : (Cond.initialized cls).before args s = true) (hstr : vk_R own is text sa s) (hat : ∀ w ∈ vx_atS own ic cls names, w.before args s = true)
    (hgood : ∀ w ∈ Cond.classLink own ik cls :: Cond.initialized cls :: vx_atS own ic cls names, vx_ot w = true)
    (hU : vx_Zq Bundle.tN "UNASSIGNED_STACK" Bundle.steD A s s.heap) (hN : vx_Zq Bundle.tN "SUPPRESSED_SENTINEL" Bundle.listD A s s.heap) (hS : va_S A s.heap H locs) (hsize : ls.size = c.maxLocals)
    (d0 : decode cc pc = .ok (.new ik, 3)) (d3 : decode cc (pc + 3) = .ok (.dup, 1)) (d4 : decode cc (pc + 4) = .ok (.ldc_w is, 3)) (d7 : decode cc (pc + 7) = .ok (.invokespecial ic, 3)) (d10 : decode cc (pc + 10) = .ok (.athrow, 1))
    (hout : ∀ x ∈ c.exceptionTable.toList, covers x (pc + 10) = false)
    (hRframes : names.length + 3 < R.frames) (hRlocals : (rest.map fun v => v.category).sum + (13 * (names.length + 1) + 43) ≤ R.locals) (hRcells : cells + 1 ≤ R.cells) (hRslots : slots + 6 ≤ R.slots) (hlocks : meth.locks = false)
    (hx : ∀ t : State, s.vm.Alike t.vm → H.size ≤ t.heap.size → (∀ q : Nat, q < H.size → t.heap[q]? = H[q]?) → XC cls s t)
    (hf : ∀ z ∈ locs, free z.base) (hc : cells + 1 ≤ mc) (hs : slots + 6 ≤ ms) :
    W p l e R s m args below meth c H locs cells slots (vx_MQ below Qc XC args s mc ms free) (F0 m pc ls rest) := by
  intro T hT X
  have htr : e.platform.stackTraces = false := (show e.platform.stackTraces = l.stackTraces by rw [X.admits.platform]).trans hl
  have Y := vx_rebase X (R' := { frames := R.frames, locals := R.locals, cells := 1, slots := 6 }) (Nat.le_refl _) (Nat.le_refl _) hRcells hRslots
  obtain ⟨s', hA⟩ : ∃ z, z = (T.setVm s.vm).setFrames (.invoking m args :: below) := ⟨_, rfl⟩
  rw [← hA] at Y
  have hvm : s'.vm = s.vm := by rw [hA]; rfl
  have hhp : s'.heap = H := by rw [hA]; exact hT
  have hW0 : s.WarmedH s'.vm := by rw [hvm]; exact State.WarmedH.refl s
  have hat' : ∀ w ∈ vx_atS own ic cls names, w.before args s' = true := fun w hw => vx_ot_at hW0 hvm.symm (hgood w (List.mem_cons_of_mem _ (List.mem_cons_of_mem _ hw))) (hat w hw)
  have hk' : (Cond.classLink own ik cls).before args s' = true := vx_ot_at hW0 hvm.symm (hgood _ List.mem_cons_self) hk
  have hini' : (Cond.initialized cls).before args s' = true := vx_ot_at hW0 hvm.symm (hgood _ (List.mem_cons_of_mem _ List.mem_cons_self)) hini
  have hU' : vx_Zq Bundle.tN "UNASSIGNED_STACK" Bundle.steD A s' s'.heap := by rw [hhp]; exact vx_Zq.moved hW0.alike (hU.kept hS.2.1)
  have hN' : vx_Zq Bundle.tN "SUPPRESSED_SENTINEL" Bundle.listD A s' s'.heap := by rw [hhp]; exact vx_Zq.moved hW0.alike (hN.kept hS.2.1)
  have h : ∀ w ∈ Bundle.ownAtoms own ic cls names, w.before args s' = true := vx_own hat' (vx_isRefq hU'.1) (vx_isRefq hN'.1) hU'.2.word hN'.2.word
  have hown' : s'.vm.findClass own = some m.cls := by rw [hvm]; exact hown
  have hins : (Cond.instantiable cls 6).before args s' = true := h _ (by simp [Bundle.ownAtoms])
  obtain ⟨vm₁, cX, kX, hfX, hkX, -, -, X₁, st1⟩ := Y.newCold hexec (own := own) (C := cls) (index := ik) (n := 6) hown' hk' hins hini'
    (g := F0 m pc ls rest) rfl (by rw [hb]; exact d0) (Nat.le_refl _) (Nat.le_refl _)
  generalize hT1 : (T.setVm vm₁).pushCell { cls := cX, slots := kX.instanceTypes.map defaultValue, vm := .none } = T1 at X₁ st1
  have hcat : (Value.ref T.heap.size).category = 1 := rfl
  have hcellA : T1.heap[T.heap.size]? = some (freshCell cX kX) := by rw [← hT1]; exact State.heap_pushCell_size _ _
  have d3' : decode c.code (pc + 3) = .ok (.dup, 1) := by rw [hb]; exact d3
  have d4' : decode c.code (pc + 4) = .ok (.ldc_w is, 3) := by rw [hb]; exact d4
  have hstr' : vk_R own is text sa s' := vk_R.warm hW0 hstr
  obtain ⟨U, hsteps, hrun, hend, hW, hsame, ce, hce, hO⟩ := X₁.ctorThrowS hexec htr (own := own) (cls := cls) (names := names) (ic := ic) hown' hcls hnames h (fun x hx => nomatch hx) hfX hkX hcellA (by rw [hhp, hT]; exact Nat.le_refl _) (msg := .ref sa) rfl
    (g := { method := m, pc := pc + 7, locals := ls, stack := .ref sa :: .ref T.heap.size :: .ref T.heap.size :: rest, locked := none }) rfl hsize rfl rfl (rest := rest) rfl
    (by rw [hb]; exact d7) (by rw [hb]; exact d10) hout hRframes (by simp only [List.map_cons, List.sum_cons, hcat]; omega) hlocks
  obtain ⟨f1, f2⟩ := vx_frame hsame
  rw [hhp] at f1 f2
  have hWs : s.WarmedH U.vm := State.WarmedH.trans hW0 hW
  have hcl : s.vm.findClass cls = some ce.cls := by
    have h9 := hO.cls
    rw [hvm] at h9
    exact h9
  have hall : s.sameButNew ({ U with vm := s.vm } : State) locs mc ms := by
    subst hA
    obtain ⟨e1, e2⟩ := hsame
    rw [State.setFrames_setFrames] at e1
    have h2 : (T.setVm s.vm).sameButNew ({ U with vm := s.vm } : State) [] (0 + 1) (0 + 6) := ⟨e1, e2⟩
    have h3 := X.same.trans h2
    rw [List.append_nil] at h3
    exact h3.mono hc hs
  refine ⟨U, ?_, .threw T.heap.size, hrun, hend, Or.inr ⟨T.heap.size, rfl, cls, ce, locs, hx U hWs.alike f1 (fun q hq => f2 q hq (fun z hz => nomatch hz)), hce, hO.vm, hcl, hWs, hall, hf⟩⟩
  refine st1 _ ?_
  show Steps p.tables e below (T1.setTop { method := m, pc := pc + 3, locals := ls, stack := .ref T.heap.size :: rest, locked := none }) _
  jvm_step X₁.here [X₁.here.top, hexec, d3', Value.category]
  exact X₁.ldcStringW hexec (own := own) (text := text) (index := is) (a := sa) hown' hstr'.1 hstr'.2
    (g := { method := m, pc := pc + 4, locals := ls, stack := .ref T.heap.size :: .ref T.heap.size :: rest, locked := none }) rfl d4' _ hsteps
end Ends
section Bodies
variable {l : Launch}
theorem vx_ofW {y : MethodName} {ws ws' : List Cond} {rm : Room} {Pc : Array Value → State → Prop} {Qc : Array Value → State → Outcome → State → Prop} {XC : String → State → State → Prop} {mc ms : Nat} {free : Addr → Prop} {cc : ByteArray} {maxL : Nat} {ret : Option FieldType}
    (hy : plainName y.cls = true) (hw : ws = Cond.code y cc maxL ret :: ws')
    (body : ∀ p e s m args below meth c s₁, BodyLoose p l y (headSpec ws rm) cc maxL ret e s m args below meth c s₁ → c.maxLocals = maxL → (∀ x ∈ c.exceptionTable.toList, False) → Pc args s →
      W p l e (headSpec ws rm).room s m args below meth c s.heap [] 0 0 (vx_MQ below Qc XC args s mc ms free) (entryFrame m args maxL)) : vx_Met l y ws rm Pc Qc XC mc ms free := by
  refine MetFree.of_bodyS (code := cc) (maxLocals := maxL) (ret := ret) hy ?_ ?_
  · intro args s m h hn
    obtain ⟨meth, c, h1, h2, h3, h4, h5, h6, -, -⟩ := Cond.code_spec hn (atoms_spec (ws := ws) h _ (by rw [hw]; exact List.mem_cons_self))
    exact ⟨meth, c, h1, h2, h3, h4, h5, h6⟩
  · intro p e s m args below meth c s₁ B hml hP _
    have hh0 : s₁.heap = s.heap := by rw [B.state]; rfl
    have ht : ∀ x ∈ c.exceptionTable.toList, False := by
      obtain ⟨meth9, c9, h1, h2, -, -, -, -, h7, -⟩ := Cond.code_spec B.named (atoms_spec (ws := ws) B.pre _ (by rw [hw]; exact List.mem_cons_self))
      cases Option.some.inj (h1.symm.trans B.method)
      cases Option.some.inj (h2.symm.trans (Stand.of_body B).code)
      intro x hx
      rw [Array.isEmpty_iff.mp h7] at hx
      cases hx
    obtain ⟨t, a1, o, b1, b2, b3⟩ := body p e s m args below meth c s₁ B hml ht hP s₁ hh0 (Stand.of_body B)
    exact ⟨t, o, a1, b1, b2, b3⟩
/-- the table of a body with handlers -/
theorem vx_table {p : Program} {x y : MethodName} {S : Spec} {cc bytes : ByteArray} {maxL maxL' : Nat} {ret ret' : Option FieldType} {e : Env} {s s₁ : State} {m : MethodId} {args : Array Value} {below : List Frame} {meth : Method} {c : Code} {hh : List (Nat × Nat × Nat × Nat)}
    (B : BodyLoose p l y S cc maxL ret e s m args below meth c s₁) (h : (Cond.codeWith y bytes maxL' ret' hh).before args s = true) : c.exceptionTable.toList = tableOf hh := by
  obtain ⟨m9, meth9, c9, hn9, h1, h2, -, -, h6, -⟩ := Cond.codeWith_spec h
  cases Option.some.inj (hn9.symm.trans B.named)
  cases Option.some.inj (h1.symm.trans B.method)
  cases Option.some.inj (h2.symm.trans (Stand.of_body B).code)
  rw [← h6, table_eq]
end Bodies
end VXA
/-! ===== END ===== -/
/-! ===== BEGIN a static call of a method with an exception table ===== -/
section VXS
variable {p : Program} {l : Launch} {e : Env} {R : Room} {s : State} {m : MethodId} {args : Array Value} {below : List Frame} {meth : Method} {c : Code} {T : State} {H : Heap} {locs : List Loc} {cells slots : Nat}
abbrev vx_CSW (R : Room) (s : State) (args : Array Value) (own : String) (index : Nat) (y : MethodName) (bytes : ByteArray) (maxL : Nat) (ret : Option FieldType) (hh : List (Nat × Nat × Nat × Nat)) (ws : List Cond) (rm : Room) (mc ms n : Nat) : Prop :=
  (rm.cells = mc ∧ rm.slots = ms ∧ rm.frames + 1 ≤ R.frames ∧ 8 + (maxL + 11) + rm.locals ≤ R.locals ∧ (∀ w ∈ ws, ∀ (a' : Array Value) (U : State), s.WarmedH U.vm → w.before a' U = true) ∧ Cond.codeWith y bytes maxL ret hh ∈ ws) ∧
  (Cond.codeWith y bytes maxL ret hh).before args s = true ∧ (Cond.initialized y.cls).before args s = true ∧ (y.cls ≠ "java/lang/invoke/MethodHandle" ∧ y.cls ≠ "java/lang/invoke/VarHandle") ∧
  (∀ sig, parseMethodDescriptor y.desc = some sig → n = sig.parameters.length) ∧ (Cond.methodLink own index y).before args s = true ∧ (Cond.static y).before args s = true
theorem vx_cwSW {own : String} {index maxL mc ms : Nat} {y : MethodName} {bytes : ByteArray} {ret : Option FieldType} {hh : List (Nat × Nat × Nat × Nat)} {Ts ws ws' : List Cond} {rm : Room} (n : Nat) (ht : ∀ w ∈ Ts, w.before args s = true) (hT : GoodIn Ts (va_wsS own index y ws)) (hw : ws = Cond.codeWith y bytes maxL ret hh :: ws') (hrc : rm.cells = mc) (hrs : rm.slots = ms)
    (hd : y.cls ≠ "java/lang/invoke/MethodHandle" ∧ y.cls ≠ "java/lang/invoke/VarHandle" ∧ (parseMethodDescriptor y.desc).map (fun d => d.parameters.length) = some n) (hR : rm.frames + 1 ≤ R.frames ∧ 8 + (maxL + 11) + rm.locals ≤ R.locals) :
    vx_CSW R s args own index y bytes maxL ret hh ws rm mc ms n := by
  have ok : ∀ w ∈ va_wsS own index y ws, w.before args s = true := fun w h => ht w (hT w h).1
  have hG : GoodIn Ts ws := fun w h => hT w (by unfold va_wsS; exact List.mem_append_right _ h)
  have hc : Cond.codeWith y bytes maxL ret hh ∈ ws := by rw [hw]; exact List.mem_cons_self
  refine ⟨⟨hrc, hrs, hR.1, hR.2, pay_in ht hG, hc⟩, ht _ (hG _ hc).1, ok _ (by simp [va_wsS]), ⟨hd.1, hd.2.1⟩, fun sig h => ?_, ok _ (by simp [va_wsS]), ok _ (by simp [va_wsS])⟩
  have h2 := hd.2.2
  rw [h] at h2
  exact (Option.some.inj h2).symm
theorem vx_callSW (X : Stand p l e R s m args below meth c T locs cells slots) (hexec : p.tables.exec = Jvm.exec) {own : String} {index : Nat} {y : MethodName} {bytes : ByteArray} {maxL : Nat} {ret : Option FieldType} {hh : List (Nat × Nat × Nat × Nat)}
    (hown : s.vm.findClass own = some m.cls) (hlink : (Cond.methodLink own index y).before args s = true) (hstat : (Cond.static y).before args s = true) (hinit : (Cond.initialized y.cls).before args s = true)
    (hcode : (Cond.codeWith y bytes maxL ret hh).before args s = true) (hy : y.cls ≠ "java/lang/invoke/MethodHandle" ∧ y.cls ≠ "java/lang/invoke/VarHandle")
    {W9 : Nat} {Pre : Pt → Array Value → Prop} {Post : Pt → Array Value → Option Value → Pt → Prop} (hK : Back l R p e below s args y 3 W9 Pre Post)
    {g : JFrame} (hg : g.method = m) (hsize : g.locals.size = c.maxLocals) {argsL rest : List Value} (hlen : ∀ sig, parseMethodDescriptor y.desc = some sig → argsL.length = sig.parameters.length)
    (hstack : g.stack = argsL.reverse ++ rest) (hW : 2 * g.monitorRoom + (rest.map fun v => v.category).sum ≤ W9) (hdg : decode c.code g.pc = .ok (.invokestatic index, 3))
    (hpre : ∀ vm₁, s.WarmedH vm₁ → Pre ⟨T.setVm vm₁, locs, cells, slots⟩ argsL.toArray) :
    ∃ (v : Option Value) (vm₁ : Vm) (B : Pt), s.WarmedH vm₁ ∧ Stand p l e R s m args below meth c B.U B.locs B.cells B.slots ∧ Post ⟨T.setVm vm₁, locs, cells, slots⟩ argsL.toArray v B ∧
      ∀ target, Steps p.tables e below (B.U.setTop { g with pc := g.pc + 3, stack := v.toList ++ rest }) target → Steps p.tables e below (T.setTop g) target := by
  obtain ⟨mk, methM, cM, hnamed, hmethM, -, -, -, -, -, -, hsigM⟩ := Cond.codeWith_spec hcode
  have hstatic : methM.isStatic = true := Cond.static_spec hnamed hmethM hstat
  obtain ⟨kP, hkP, -⟩ := className_of_methodNamed hnamed
  have hinitP : kP.init = .initialized := Cond.initialized_spec (findClass_of_methodNamed hnamed) hkP hinit
  obtain ⟨vm₁, X₁, hstep₁⟩ := X.invokestatic hexec hown hlink hnamed hmethM hstatic hkP hinitP hy (g := g) hg (argsL := argsL) (rest := rest) (hlen _ hsigM) hstack hdg
  obtain ⟨v, B, X', hpost, hsteps⟩ := hK m meth c ⟨T.setVm vm₁, locs, cells, slots⟩ { g with stack := rest } (.invokestatic index) mk argsL.toArray X₁ hg hsize hdg hW (X₁.named hnamed) (hpre vm₁ X₁.warmed)
  exact ⟨v, vm₁, B, X₁.warmed, X', hpost, fun target h => hstep₁ _ fun acts => by rw [doInvoke_state]; exact hsteps.trans h⟩
theorem vx_runSW {y : MethodName} {bytes cc : ByteArray} {maxL nL mc ms n index : Nat} {ret : Option FieldType} {hh : List (Nat × Nat × Nat × Nat)} {ws : List Cond} {rm : Room} {Pc : Array Value → State → Prop} {Qc : Array Value → State → Outcome → State → Prop} {free : Addr → Prop} {Ts : List Cond} {own : String} {As rest : List Value} {g : JFrame}
    (S : CallFix p m c cc nL s args Ts own) (hM : Met l y ws rm Pc Qc mc ms free) (cw : vx_CSW R s args own index y bytes maxL ret hh ws rm mc ms n) (hp : PreS s H Pc As)
    (hg : g.method = m) (hn : As.length = n) (hsize : g.locals.size = nL) (hstack : g.stack = As.reverse ++ rest) (hW : 2 * g.monitorRoom + (rest.map fun v => v.category).sum ≤ 8) (hdg : decode cc g.pc = .ok (.invokestatic index, 3)) (hf : cells + mc ≤ R.cells ∧ slots + ms ≤ R.slots) :
    va_Run p l e R s m args below meth c H locs cells slots mc ms g rest (Qc As.toArray) (free) := by
  obtain ⟨⟨hrc, hrs, hfr, hlo, hws, hcw⟩, hcode, hini, hy, hlen, hl, hstt⟩ := cw
  have hK : Back l R p e below s args y 3 8 (PreOf R mc ms Pc) (PostOf Qc mc ms free) := va_backW (hh := hh) (bytes := bytes) (maxL := maxL) (ret := ret) hM hp.1 hrc hrs hfr hlo hws hcw (fun a' U hW => word_at hW (Or.inl (by first | rfl | simp [Cond.onTables, Cond.keeps, Cond.steady])) hini)
  obtain ⟨hx, hb, hml, ho, -⟩ := S
  intro T hT X
  obtain ⟨v, vm₁, ⟨U', l2, c2, s2⟩, hW₁, X', ⟨g', mk, t, L, e1, e2, hq, h1, hL, h2, h3⟩, st⟩ := vx_callSW X hx (hh := hh) (bytes := bytes) (maxL := maxL) (ret := ret) ho hl hstt hini hcode hy hK hg (hsize.trans hml.symm) (argsL := As) (rest := rest) (fun sig h => hn.trans (hlen sig h)) hstack hW (by rw [hb]; exact hdg)
    (fun vm₁ hW₁ => ⟨hf.1, hf.2, hp.2 (T.setVm vm₁) hT hW₁⟩)
  dsimp only [Pt.U, Pt.locs, Pt.cells, Pt.slots] at X' e1 e2 h1 h2 h3 st
  subst h1; subst h2; subst h3
  exact ⟨v, (T.setVm vm₁).calling g' mk As.toArray, t, U', L, hT, X', hL, e1, e2, hq, st⟩
/-- a thing of a world lies in the heap -/
theorem vx_lt {D : va_G} {cl : List vw_C} {ws : va_W} {H1 : Heap} (h : va_P D cl ws H1) {k : Nat} {q : Nat × va_E} (hk : ws[k]? = some q) : q.1 < H1.size := (h k q hk).lt
end VXS
/-! ===== END ===== -/
/-! ===== BEGIN methods with a table of their own: called by a name, returning or throwing ===== -/
section VXH
/-! vx_backW, vx_callVX, vx_callSX, vx_callVW, vx_runVW, vx_runVX, vx_runSX, vx_ofWH follow the same proofs as their sisters above (Free/Laws.lean, Shelf42/LK1.lean); vx_outP calls Shelf42/NT130.lean (outThrough). -/
section
variable {l : Launch} {R : Room} {p : Program} {e : Env} {below : List Frame} {s : State} {sargs : Array Value} {y : MethodName} {len W9 : Nat}
theorem vx_backW {ws : List Cond} {rm : Room} {Pc : Array Value → State → Prop} {Qc : Array Value → State → Outcome → State → Prop} {XC : String → State → State → Prop} {mc ms : Nat} {free : Addr → Prop} {bytes : ByteArray} {maxL : Nat} {ret : Option FieldType} {hh : List (Nat × Nat × Nat × Nat)}
    (hM : vx_Met l y ws rm Pc Qc XC mc ms free) (hblind : FrameBlind Pc) (hrc : rm.cells = mc) (hrs : rm.slots = ms)
    (hframes : rm.frames + 1 ≤ R.frames) (hlocals : W9 + (maxL + 11) + rm.locals ≤ R.locals)
    (hws : ∀ w ∈ ws, ∀ a' U, s.WarmedH U.vm → w.before a' U = true) (hcode : Cond.codeWith y bytes maxL ret hh ∈ ws) (hinit : ∀ a' U, s.WarmedH U.vm → (Cond.initialized y.cls).before a' U = true) :
    vx_Back l R p e below s sargs y len W9 (PreOf R mc ms Pc) (PostOf Qc mc ms free) (vx_Post XC mc ms free) := by
  intro m meth c A g ig mk a X hg hsize hdg hW hn hp
  have h1 : (headSpec ws rm).pre.before a A.U = true := atoms_intro fun w hw => hws w hw _ _ X.warmed
  have h2 : (Cond.codeWith y bytes maxL ret hh).before a A.U = true := hws _ hcode _ _ X.warmed
  have h3 : (Cond.initialized y.cls).before a A.U = true := hinit _ _ X.warmed
  have h4 : A.cells + (headSpec ws rm).room.cells ≤ R.cells := by rw [show (headSpec ws rm).room.cells = mc from hrc]; exact hp.1
  have h5 : A.slots + (headSpec ws rm).room.slots ≤ R.slots := by rw [show (headSpec ws rm).room.slots = ms from hrs]; exact hp.2.1
  have hPc : Pc a (A.U.calling g mk a) := hblind _ _ _ _ hp.2.2
  obtain ⟨U, Ls, c0, s0⟩ := A
  dsimp only [Pt.U, Pt.locs, Pt.cells, Pt.slots] at h1 h2 h3 h4 h5 X hn hPc ⊢
  obtain ⟨m9, methY, cY, hn9, hmY, hcY, -, hlY, -⟩ := Cond.codeWith_spec h2
  cases Option.some.inj (hn9.symm.trans hn)
  obtain ⟨kY, hkY, -⟩ := className_of_methodNamed hn
  have hinitY : kY.init = .initialized := Cond.initialized_spec (findClass_of_methodNamed hn) hkY h3
  have h : At U g.method c below := by rw [hg]; exact X.here
  have hlocals9 : W9 + (maxL + 11) + (headSpec ws rm).room.locals ≤ R.locals := hlocals
  have happ : (headSpec ws rm).appliesLoose y e.platform (U.calling g mk a) = true :=
    Spec.appliesLoose_calling (g := g) h hdg hn hkY hinitY
      (X.room_calling (g := g) (R' := (headSpec ws rm).room) hsize hmY hcY hframes (by rw [hlY]; omega) h4 h5) h1
  obtain ⟨mid, hmid⟩ := h.above
  have hfr : (U.setTop g).frames = (.java g :: mid) ++ below := by rw [State.frames_setTop' g h.top, hmid]; rfl
  obtain ⟨o, s₂, hsteps, -, hend, hq⟩ := Steps.callFree hM p X.admits X.cas X.clock (acts := []) hfr happ hPc trivial
  have hq' : vx_Q Qc XC mc ms free a (U.calling g mk a) o s₂ := hq
  rw [State.frames_setTop' g h.top] at hend
  obtain ⟨g₀, hg0⟩ := Option.isSome_iff_exists.mp h.top
  obtain ⟨r, hr⟩ := State.topJava?_eq_some.mp hg0
  have hr' : (({ U with heap := s₂.heap, slotsUsed := s₂.slotsUsed } : State).setVm s₂.vm).frames = .java g₀ :: r := hr
  rcases hq' with ⟨hqc, L, hfe, hL⟩ | ⟨q, rfl, E, ce, L, hx, hce, hcv, hcl, hW₂, hsm, hL⟩
  · obtain ⟨⟨v, rfl⟩, hW₂, e2, q2, q3, q4, q5, q6⟩ := id hfe
    have e3 : s₂ = ({ (U.calling g mk a).setFrames s₂.frames with heap := s₂.heap, slotsUsed := s₂.slotsUsed } : State).setVm s₂.vm := by
      have : s₂ = ({ s₂ with vm := (U.calling g mk a).vm } : State).setVm s₂.vm := rfl
      rw [e2] at this
      exact this
    obtain ⟨c₂, i₂, len₂, hc₂, hd₂, hf₂⟩ := hend
    have hW' : U.WarmedH s₂.vm := hW₂
    have hcc : c₂ = c := by
      have h1 : s₂.code? g.method = U.code? g.method := by
        rw [State.code?_eq, State.code?_eq, hW'.alike.method?]
      exact Option.some.inj (hc₂.symm.trans (h1.trans h.code))
    subst hcc
    have hlen : len₂ = len := by rw [hdg] at hd₂; cases hd₂; rfl
    subst hlen
    have hs₂ : s₂ = (({ U with heap := s₂.heap, slotsUsed := s₂.slotsUsed } : State).setVm s₂.vm).setTop { g with pc := g.pc + len₂, stack := v.toList ++ g.stack } := by
      refine e3.trans ?_
      rw [hf₂, State.calling_eq h.top, State.setFrames_setFrames, State.setTop_of_frames _ hr', hr]
      rfl
    have hsame : U.sameButNew ({ U with heap := s₂.heap, slotsUsed := s₂.slotsUsed } : State) L mc ms := by
      refine ⟨?_, q2, q3, q4, q5, q6⟩
      obtain ⟨t, ht, -⟩ := State.frames_cons hr
      show ({ U with heap := s₂.heap, slotsUsed := s₂.slotsUsed } : State) = { U.setFrames U.frames with heap := s₂.heap, slotsUsed := s₂.slotsUsed }
      rw [State.setFrames_self ht]
    subst hg
    refine Or.inl ⟨v, ⟨(({ U with heap := s₂.heap, slotsUsed := s₂.slotsUsed } : State).setVm s₂.vm), Ls ++ L, c0 + mc, s0 + ms⟩,
      ⟨X.admits, X.cas, X.clock, X.frames, X.room, X.hears, X.method, X.code, (X.here.setHeapUsed s₂.heap s₂.slotsUsed).setVm hW'.alike, X.tail, State.WarmedH.trans X.warmed hW', X.limits, X.bytes, X.same.trans (hsame.setVm s.vm)⟩,
      ⟨g, mk, s₂, L, rfl, rfl, hqc, rfl, hL, rfl, rfl⟩, ?_⟩
    show Steps p.tables e below _ ((({ U with heap := s₂.heap, slotsUsed := s₂.slotsUsed } : State).setVm s₂.vm).setTop { g with pc := g.pc + len₂, stack := v.toList ++ g.stack })
    rw [← hs₂]
    exact hsteps
  · obtain ⟨e2, q2, q3, q4, q5, q6⟩ := id hsm
    have e3 : s₂ = ({ (U.calling g mk a).setFrames s₂.frames with heap := s₂.heap, slotsUsed := s₂.slotsUsed } : State).setVm s₂.vm := by
      have : s₂ = ({ s₂ with vm := (U.calling g mk a).vm } : State).setVm s₂.vm := rfl
      rw [e2] at this
      exact this
    have hf₂ : s₂.frames = .throwing q :: .java g :: U.frames.tail := hend
    have hW' : U.WarmedH s₂.vm := hW₂
    have hs₂ : s₂ = ((({ U with heap := s₂.heap, slotsUsed := s₂.slotsUsed } : State).setVm s₂.vm).setTop g).pushFrame (.throwing q) := by
      refine e3.trans ?_
      rw [hf₂, State.calling_eq h.top, State.setFrames_setFrames, State.pushFrame, State.frames_setTop _ hr', State.setTop_of_frames _ hr', State.setFrames_setFrames, hr]
      rfl
    have hsame : U.sameButNew ({ U with heap := s₂.heap, slotsUsed := s₂.slotsUsed } : State) L mc ms := by
      refine ⟨?_, q2, q3, q4, q5, q6⟩
      obtain ⟨t, ht, -⟩ := State.frames_cons hr
      show ({ U with heap := s₂.heap, slotsUsed := s₂.slotsUsed } : State) = { U.setFrames U.frames with heap := s₂.heap, slotsUsed := s₂.slotsUsed }
      rw [State.setFrames_self ht]
    subst hg
    refine Or.inr ⟨q, ⟨(({ U with heap := s₂.heap, slotsUsed := s₂.slotsUsed } : State).setVm s₂.vm), Ls ++ L, c0 + mc, s0 + ms⟩,
      ⟨X.admits, X.cas, X.clock, X.frames, X.room, X.hears, X.method, X.code, (X.here.setHeapUsed s₂.heap s₂.slotsUsed).setVm hW'.alike, X.tail, State.WarmedH.trans X.warmed hW', X.limits, X.bytes, X.same.trans (hsame.setVm s.vm)⟩,
      ⟨g, mk, s₂, L, E, ce, rfl, rfl, hx, hce, hcv, hcl, rfl, hL, rfl, rfl⟩, ?_⟩
    show Steps p.tables e below _ (((({ U with heap := s₂.heap, slotsUsed := s₂.slotsUsed } : State).setVm s₂.vm).setTop g).pushFrame (.throwing q))
    rw [← hs₂]
    exact hsteps
end
variable {p : Program} {l : Launch} {e : Env} {R : Room} {s : State} {m : MethodId} {args : Array Value} {below : List Frame} {meth : Method} {c : Code} {T : State} {H : Heap} {locs : List Loc} {cells slots : Nat}
theorem vx_callVX (X : Stand p l e R s m args below meth c T locs cells slots) (hexec : p.tables.exec = Jvm.exec) {own C : String} {index : Nat} {y : MethodName} {bytes : ByteArray} {maxL : Nat} {ret : Option FieldType} {hh : List (Nat × Nat × Nat × Nat)}
    (hown : s.vm.findClass own = some m.cls) (hlink : (Cond.methodLink own index y).before args s = true) (hinst : (Cond.instanceMethod y).before args s = true) (hsel : (Cond.selects C y y).before args s = true)
    (hcode : (Cond.codeWith y bytes maxL ret hh).before args s = true) (hy : y.cls ≠ "java/lang/invoke/MethodHandle" ∧ y.cls ≠ "java/lang/invoke/VarHandle")
    {W9 : Nat} {Pre : Pt → Array Value → Prop} {Post : Pt → Array Value → Option Value → Pt → Prop} {PostX : Pt → Array Value → Addr → Pt → Prop} (hK : vx_Back l R p e below s args y 3 W9 Pre Post PostX)
    {b : Addr} {cellB : Cell} (hcell : T.heap[b]? = some cellB) (hobj : cellB.vm.isStatics = false) (hcls : s.vm.findClass C = some cellB.cls)
    {g : JFrame} (hg : g.method = m) (hsize : g.locals.size = c.maxLocals) {argsL rest : List Value} (hlen : ∀ sig, parseMethodDescriptor y.desc = some sig → argsL.length = sig.parameters.length)
    (hstack : g.stack = argsL.reverse ++ .ref b :: rest) (hW : 2 * g.monitorRoom + (rest.map fun v => v.category).sum ≤ W9) (hdg : decode c.code g.pc = .ok (.invokevirtual index, 3))
    (hpre : ∀ vm₁, s.WarmedH vm₁ → Pre ⟨T.setVm vm₁, locs, cells, slots⟩ (Value.ref b :: argsL).toArray) :
    (∃ (v : Option Value) (vm₁ : Vm) (B : Pt), s.WarmedH vm₁ ∧ Stand p l e R s m args below meth c B.U B.locs B.cells B.slots ∧ Post ⟨T.setVm vm₁, locs, cells, slots⟩ (Value.ref b :: argsL).toArray v B ∧
      ∀ target, Steps p.tables e below (B.U.setTop { g with pc := g.pc + 3, stack := v.toList ++ rest }) target → Steps p.tables e below (T.setTop g) target) ∨
    (∃ (q : Addr) (vm₁ : Vm) (B : Pt), s.WarmedH vm₁ ∧ Stand p l e R s m args below meth c B.U B.locs B.cells B.slots ∧ PostX ⟨T.setVm vm₁, locs, cells, slots⟩ (Value.ref b :: argsL).toArray q B ∧
      Steps p.tables e below (T.setTop g) ((B.U.setTop { g with stack := rest }).pushFrame (.throwing q))) := by
  obtain ⟨mk, methM, hnamed, hmethM, hstM, habM⟩ := Cond.instanceMethod_spec hinst
  obtain ⟨m8, methM', cM, hn8, hmethM', -, -, -, -, -, -, hsigM⟩ := Cond.codeWith_spec hcode
  cases Option.some.inj (hn8.symm.trans hnamed)
  cases hmethM.symm.trans hmethM'
  obtain ⟨c2, r2, m2, q1, q2, q3, q4, kP, hkP, hkPi⟩ := Cond.selects_spec hsel
  cases hcls.symm.trans q1
  cases (State.methodFound?_of_named hnamed hy).symm.trans q2
  cases hnamed.symm.trans q3
  have hselP : selectMethod e.platform s.vm cellB.cls mk = .method mk := by rw [Launch.admits_selectMethod X.admits]; exact q4
  obtain ⟨vm₁, X₁, hstep₁⟩ := X.invokevirtual hexec hown hlink hnamed hmethM hstM hkP hkPi hy (a := b) (cell := cellB) hcell
    (fun z h => by rw [h] at hobj; cases hobj) hselP hmethM habM hkP hkPi (g := g) hg (argsL := argsL) (rest := rest) (hlen _ hsigM) hstack hdg
  rcases hK m meth c ⟨T.setVm vm₁, locs, cells, slots⟩ { g with stack := rest } (.invokevirtual index) mk (Value.ref b :: argsL).toArray X₁ hg hsize hdg hW (X₁.named hnamed) (hpre vm₁ X₁.warmed) with ⟨v, B, X', hpost, hsteps⟩ | ⟨q, B, X', hpost, hsteps⟩
  · exact Or.inl ⟨v, vm₁, B, X₁.warmed, X', hpost, fun target h => hstep₁ _ fun acts => by rw [doInvoke_state]; exact hsteps.trans h⟩
  · exact Or.inr ⟨q, vm₁, B, X₁.warmed, X', hpost, hstep₁ _ fun acts => by rw [doInvoke_state]; exact hsteps⟩
theorem vx_callSX (X : Stand p l e R s m args below meth c T locs cells slots) (hexec : p.tables.exec = Jvm.exec) {own : String} {index : Nat} {y : MethodName} {bytes : ByteArray} {maxL : Nat} {ret : Option FieldType} {hh : List (Nat × Nat × Nat × Nat)}
    (hown : s.vm.findClass own = some m.cls) (hlink : (Cond.methodLink own index y).before args s = true) (hstat : (Cond.static y).before args s = true) (hinit : (Cond.initialized y.cls).before args s = true)
    (hcode : (Cond.codeWith y bytes maxL ret hh).before args s = true) (hy : y.cls ≠ "java/lang/invoke/MethodHandle" ∧ y.cls ≠ "java/lang/invoke/VarHandle")
    {W9 : Nat} {Pre : Pt → Array Value → Prop} {Post : Pt → Array Value → Option Value → Pt → Prop} {PostX : Pt → Array Value → Addr → Pt → Prop} (hK : vx_Back l R p e below s args y 3 W9 Pre Post PostX)
    {g : JFrame} (hg : g.method = m) (hsize : g.locals.size = c.maxLocals) {argsL rest : List Value} (hlen : ∀ sig, parseMethodDescriptor y.desc = some sig → argsL.length = sig.parameters.length)
    (hstack : g.stack = argsL.reverse ++ rest) (hW : 2 * g.monitorRoom + (rest.map fun v => v.category).sum ≤ W9) (hdg : decode c.code g.pc = .ok (.invokestatic index, 3))
    (hpre : ∀ vm₁, s.WarmedH vm₁ → Pre ⟨T.setVm vm₁, locs, cells, slots⟩ argsL.toArray) :
    (∃ (v : Option Value) (vm₁ : Vm) (B : Pt), s.WarmedH vm₁ ∧ Stand p l e R s m args below meth c B.U B.locs B.cells B.slots ∧ Post ⟨T.setVm vm₁, locs, cells, slots⟩ argsL.toArray v B ∧
      ∀ target, Steps p.tables e below (B.U.setTop { g with pc := g.pc + 3, stack := v.toList ++ rest }) target → Steps p.tables e below (T.setTop g) target) ∨
    (∃ (q : Addr) (vm₁ : Vm) (B : Pt), s.WarmedH vm₁ ∧ Stand p l e R s m args below meth c B.U B.locs B.cells B.slots ∧ PostX ⟨T.setVm vm₁, locs, cells, slots⟩ argsL.toArray q B ∧
      Steps p.tables e below (T.setTop g) ((B.U.setTop { g with stack := rest }).pushFrame (.throwing q))) := by
  obtain ⟨mk, methM, cM, hnamed, hmethM, -, -, -, -, -, -, hsigM⟩ := Cond.codeWith_spec hcode
  have hstatic : methM.isStatic = true := Cond.static_spec hnamed hmethM hstat
  obtain ⟨kP, hkP, -⟩ := className_of_methodNamed hnamed
  have hinitP : kP.init = .initialized := Cond.initialized_spec (findClass_of_methodNamed hnamed) hkP hinit
  obtain ⟨vm₁, X₁, hstep₁⟩ := X.invokestatic hexec hown hlink hnamed hmethM hstatic hkP hinitP hy (g := g) hg (argsL := argsL) (rest := rest) (hlen _ hsigM) hstack hdg
  rcases hK m meth c ⟨T.setVm vm₁, locs, cells, slots⟩ { g with stack := rest } (.invokestatic index) mk argsL.toArray X₁ hg hsize hdg hW (X₁.named hnamed) (hpre vm₁ X₁.warmed) with ⟨v, B, X', hpost, hsteps⟩ | ⟨q, B, X', hpost, hsteps⟩
  · exact Or.inl ⟨v, vm₁, B, X₁.warmed, X', hpost, fun target h => hstep₁ _ fun acts => by rw [doInvoke_state]; exact hsteps.trans h⟩
  · exact Or.inr ⟨q, vm₁, B, X₁.warmed, X', hpost, hstep₁ _ fun acts => by rw [doInvoke_state]; exact hsteps⟩
theorem vx_callVW (X : Stand p l e R s m args below meth c T locs cells slots) (hexec : p.tables.exec = Jvm.exec) {own C : String} {index : Nat} {y : MethodName} {bytes : ByteArray} {maxL : Nat} {ret : Option FieldType} {hh : List (Nat × Nat × Nat × Nat)}
    (hown : s.vm.findClass own = some m.cls) (hlink : (Cond.methodLink own index y).before args s = true) (hinst : (Cond.instanceMethod y).before args s = true) (hsel : (Cond.selects C y y).before args s = true)
    (hcode : (Cond.codeWith y bytes maxL ret hh).before args s = true) (hy : y.cls ≠ "java/lang/invoke/MethodHandle" ∧ y.cls ≠ "java/lang/invoke/VarHandle")
    {W9 : Nat} {Pre : Pt → Array Value → Prop} {Post : Pt → Array Value → Option Value → Pt → Prop} (hK : Back l R p e below s args y 3 W9 Pre Post)
    {b : Addr} {cellB : Cell} (hcell : T.heap[b]? = some cellB) (hobj : cellB.vm.isStatics = false) (hcls : s.vm.findClass C = some cellB.cls)
    {g : JFrame} (hg : g.method = m) (hsize : g.locals.size = c.maxLocals) {argsL rest : List Value} (hlen : ∀ sig, parseMethodDescriptor y.desc = some sig → argsL.length = sig.parameters.length)
    (hstack : g.stack = argsL.reverse ++ .ref b :: rest) (hW : 2 * g.monitorRoom + (rest.map fun v => v.category).sum ≤ W9) (hdg : decode c.code g.pc = .ok (.invokevirtual index, 3))
    (hpre : ∀ vm₁, s.WarmedH vm₁ → Pre ⟨T.setVm vm₁, locs, cells, slots⟩ (Value.ref b :: argsL).toArray) :
    ∃ (v : Option Value) (vm₁ : Vm) (B : Pt), s.WarmedH vm₁ ∧ Stand p l e R s m args below meth c B.U B.locs B.cells B.slots ∧ Post ⟨T.setVm vm₁, locs, cells, slots⟩ (Value.ref b :: argsL).toArray v B ∧
      ∀ target, Steps p.tables e below (B.U.setTop { g with pc := g.pc + 3, stack := v.toList ++ rest }) target → Steps p.tables e below (T.setTop g) target := by
  obtain ⟨mk, methM, hnamed, hmethM, hstM, habM⟩ := Cond.instanceMethod_spec hinst
  obtain ⟨m8, methM', cM, hn8, hmethM', -, -, -, -, -, -, hsigM⟩ := Cond.codeWith_spec hcode
  cases Option.some.inj (hn8.symm.trans hnamed)
  cases hmethM.symm.trans hmethM'
  obtain ⟨c2, r2, m2, q1, q2, q3, q4, kP, hkP, hkPi⟩ := Cond.selects_spec hsel
  cases hcls.symm.trans q1
  cases (State.methodFound?_of_named hnamed hy).symm.trans q2
  cases hnamed.symm.trans q3
  have hselP : selectMethod e.platform s.vm cellB.cls mk = .method mk := by rw [Launch.admits_selectMethod X.admits]; exact q4
  obtain ⟨vm₁, X₁, hstep₁⟩ := X.invokevirtual hexec hown hlink hnamed hmethM hstM hkP hkPi hy (a := b) (cell := cellB) hcell
    (fun z h => by rw [h] at hobj; cases hobj) hselP hmethM habM hkP hkPi (g := g) hg (argsL := argsL) (rest := rest) (hlen _ hsigM) hstack hdg
  obtain ⟨v, B, X', hpost, hsteps⟩ := hK m meth c ⟨T.setVm vm₁, locs, cells, slots⟩ { g with stack := rest } (.invokevirtual index) mk (Value.ref b :: argsL).toArray X₁ hg hsize hdg hW (X₁.named hnamed) (hpre vm₁ X₁.warmed)
  exact ⟨v, vm₁, B, X₁.warmed, X', hpost, fun target h => hstep₁ _ fun acts => by rw [doInvoke_state]; exact hsteps.trans h⟩
abbrev vx_CVW (R : Room) (s : State) (args : Array Value) (own C : String) (index : Nat) (y : MethodName) (bytes : ByteArray) (maxL : Nat) (ret : Option FieldType) (hh : List (Nat × Nat × Nat × Nat)) (ws : List Cond) (rm : Room) (mc ms n : Nat) : Prop :=
  (rm.cells = mc ∧ rm.slots = ms ∧ rm.frames + 1 ≤ R.frames ∧ 8 + (maxL + 11) + rm.locals ≤ R.locals ∧ (∀ w ∈ ws, ∀ (a' : Array Value) (U : State), s.WarmedH U.vm → w.before a' U = true) ∧ Cond.codeWith y bytes maxL ret hh ∈ ws) ∧
  (Cond.codeWith y bytes maxL ret hh).before args s = true ∧ (Cond.initialized y.cls).before args s = true ∧ (y.cls ≠ "java/lang/invoke/MethodHandle" ∧ y.cls ≠ "java/lang/invoke/VarHandle") ∧
  (∀ sig, parseMethodDescriptor y.desc = some sig → n = sig.parameters.length) ∧ (Cond.methodLink own index y).before args s = true ∧ (Cond.instanceMethod y).before args s = true ∧ (Cond.selects C y y).before args s = true
theorem vx_cwVW {own C : String} {index maxL mc ms : Nat} {y : MethodName} {bytes : ByteArray} {ret : Option FieldType} {hh : List (Nat × Nat × Nat × Nat)} {Ts ws ws' : List Cond} {rm : Room} (n : Nat) (ht : ∀ w ∈ Ts, w.before args s = true) (hT : GoodIn Ts (wsV own index C y ws)) (hw : ws = Cond.codeWith y bytes maxL ret hh :: ws') (hrc : rm.cells = mc) (hrs : rm.slots = ms)
    (hd : y.cls = C ∧ y.cls ≠ "java/lang/invoke/MethodHandle" ∧ y.cls ≠ "java/lang/invoke/VarHandle" ∧ (parseMethodDescriptor y.desc).map (fun d => d.parameters.length) = some n) (hR : rm.frames + 1 ≤ R.frames ∧ 8 + (maxL + 11) + rm.locals ≤ R.locals) :
    vx_CVW R s args own C index y bytes maxL ret hh ws rm mc ms n := by
  obtain ⟨hC, hd⟩ := hd
  subst hC
  have ok : ∀ w ∈ wsV own index y.cls y ws, w.before args s = true := fun w h => ht w (hT w h).1
  have hG : GoodIn Ts ws := fun w h => hT w (by unfold wsV; exact List.mem_append_right _ h)
  have hc : Cond.codeWith y bytes maxL ret hh ∈ ws := by rw [hw]; exact List.mem_cons_self
  refine ⟨⟨hrc, hrs, hR.1, hR.2, pay_in ht hG, hc⟩, ht _ (hG _ hc).1, ok _ (by simp [wsV]), ⟨hd.1, hd.2.1⟩, fun sig h => ?_, ok _ (by simp [wsV]), ok _ (by simp [wsV]), ok _ (by simp [wsV])⟩
  have h2 := hd.2.2
  rw [h] at h2
  exact (Option.some.inj h2).symm
theorem vx_runVW {y : MethodName} {bytes cc : ByteArray} {maxL nL mc ms n index : Nat} {ret : Option FieldType} {hh : List (Nat × Nat × Nat × Nat)} {ws : List Cond} {rm : Room} {Pc : Array Value → State → Prop} {Qc : Array Value → State → Outcome → State → Prop} {free : Addr → Prop} {Ts : List Cond} {own C : String} {b : Addr} {As rest : List Value} {g : JFrame}
    (S : CallFix p m c cc nL s args Ts own) (hM : Met l y ws rm Pc Qc mc ms free) (cw : vx_CVW R s args own C index y bytes maxL ret hh ws rm mc ms n) (hp : PreV s H C b Pc As)
    (hg : g.method = m) (hn : As.length = n) (hsize : g.locals.size = nL) (hstack : g.stack = As.reverse ++ .ref b :: rest) (hW : 2 * g.monitorRoom + (rest.map fun v => v.category).sum ≤ 8) (hdg : decode cc g.pc = .ok (.invokevirtual index, 3)) (hf : cells + mc ≤ R.cells ∧ slots + ms ≤ R.slots) :
    va_Run p l e R s m args below meth c H locs cells slots mc ms g rest (Qc (Value.ref b :: As).toArray) free := by
  obtain ⟨⟨hrc, hrs, hfr, hlo, hws, hcw⟩, hcode, hini, hy, hlen, hl, hin, hse⟩ := cw
  have hK : Back l R p e below s args y 3 8 (PreOf R mc ms Pc) (PostOf Qc mc ms free) := va_backW (hh := hh) (bytes := bytes) (maxL := maxL) (ret := ret) hM hp.1 hrc hrs hfr hlo hws hcw (fun a' U hW => word_at hW (Or.inl (by first | rfl | simp [Cond.onTables, Cond.keeps, Cond.steady])) hini)
  obtain ⟨hx, hb, hml, ho, -⟩ := S
  obtain ⟨-, ⟨cellB, hcB, hoB, hclB⟩, hPc⟩ := hp
  intro T hT X
  obtain ⟨v, vm₁, ⟨U', l2, c2, s2⟩, hW₁, X', ⟨g', mk, t, L, e1, e2, hq, h1, hL, h2, h3⟩, st⟩ := vx_callVW X hx (C := C) (hh := hh) (bytes := bytes) (maxL := maxL) (ret := ret) ho hl hin hse hcode hy hK (by rw [hT]; exact hcB) hoB hclB hg (hsize.trans hml.symm) (argsL := As) (rest := rest) (fun sig h => hn.trans (hlen sig h)) hstack hW (by rw [hb]; exact hdg)
    (fun vm₁ hW₁ => ⟨hf.1, hf.2, hPc (T.setVm vm₁) hT hW₁⟩)
  dsimp only [Pt.U, Pt.locs, Pt.cells, Pt.slots] at X' e1 e2 h1 h2 h3 st
  subst h1; subst h2; subst h3
  exact ⟨v, (T.setVm vm₁).calling g' mk (Value.ref b :: As).toArray, t, U', L, hT, X', hL, e1, e2, hq, st⟩
section
variable {y : MethodName} {bytes cc : ByteArray} {maxL nL mc ms n index : Nat} {ret : Option FieldType} {ws : List Cond} {rm : Room} {Pc : Array Value → State → Prop} {Qc : Array Value → State → Outcome → State → Prop} {XC : String → State → State → Prop} {free : Addr → Prop} {Ts : List Cond} {own C : String} {b : Addr} {As rest : List Value} {g : JFrame}
theorem vx_runVX {hh : List (Nat × Nat × Nat × Nat)} (S : CallFix p m c cc nL s args Ts own) (hM : vx_Met l y ws rm Pc Qc XC mc ms free) (cw : vx_CVW R s args own C index y bytes maxL ret hh ws rm mc ms n) (hp : PreV s H C b Pc As)
    (hg : g.method = m) (hn : As.length = n) (hsize : g.locals.size = nL) (hstack : g.stack = As.reverse ++ .ref b :: rest) (hW : 2 * g.monitorRoom + (rest.map fun v => v.category).sum ≤ 8) (hdg : decode cc g.pc = .ok (.invokevirtual index, 3)) (hf : cells + mc ≤ R.cells ∧ slots + ms ≤ R.slots) :
    vx_Run p l e R s m args below meth c H locs cells slots mc ms g rest (Qc (Value.ref b :: As).toArray) XC free := by
  obtain ⟨⟨hrc, hrs, hfr, hlo, hws, hcw⟩, hcode, hini, hy, hlen, hl, hin, hse⟩ := cw
  have hK : vx_Back l R p e below s args y 3 8 (PreOf R mc ms Pc) (PostOf Qc mc ms free) (vx_Post XC mc ms free) := vx_backW (hh := hh) (bytes := bytes) (maxL := maxL) (ret := ret) hM hp.1 hrc hrs hfr hlo hws hcw (fun a' U hW => word_at hW (Or.inl (by first | rfl | simp [Cond.onTables, Cond.keeps, Cond.steady])) hini)
  obtain ⟨hx, hb, hml, ho, -⟩ := S
  obtain ⟨-, ⟨cellB, hcB, hoB, hclB⟩, hPc⟩ := hp
  intro T hT X
  rcases vx_callVX X hx (C := C) (hh := hh) (bytes := bytes) (maxL := maxL) (ret := ret) ho hl hin hse hcode hy hK (by rw [hT]; exact hcB) hoB hclB hg (hsize.trans hml.symm) (argsL := As) (rest := rest) (fun sig h => hn.trans (hlen sig h)) hstack hW (by rw [hb]; exact hdg)
    (fun vm₁ hW₁ => ⟨hf.1, hf.2, hPc (T.setVm vm₁) hT hW₁⟩) with ⟨v, vm₁, ⟨U', l2, c2, s2⟩, hW₁, X', ⟨g', mk, t, L, e1, e2, hq, h1, hL, h2, h3⟩, st⟩ | ⟨q, vm₁, ⟨U', l2, c2, s2⟩, hW₁, X', ⟨g', mk, t, L, E, ce, e1, e2, hq, hce, hcv, hcl, h1, hL, h2, h3⟩, st⟩
  · dsimp only [Pt.U, Pt.locs, Pt.cells, Pt.slots] at X' e1 e2 h1 h2 h3 st
    subst h1; subst h2; subst h3
    exact Or.inl ⟨v, (T.setVm vm₁).calling g' mk (Value.ref b :: As).toArray, t, U', L, hT, X', hL, e1, e2, hq, st⟩
  · dsimp only [Pt.U, Pt.locs, Pt.cells, Pt.slots] at X' e1 e2 h1 h2 h3 st hcl
    subst h1; subst h2; subst h3
    exact Or.inr ⟨q, (T.setVm vm₁).calling g' mk (Value.ref b :: As).toArray, t, U', L, E, ce, hT, X', hL, e1, e2, hq, hce, hcv, vx_cls hW₁ hcl, st⟩
theorem vx_runSX {hh : List (Nat × Nat × Nat × Nat)} (S : CallFix p m c cc nL s args Ts own) (hM : vx_Met l y ws rm Pc Qc XC mc ms free) (cw : vx_CSW R s args own index y bytes maxL ret hh ws rm mc ms n) (hp : PreS s H Pc As)
    (hg : g.method = m) (hn : As.length = n) (hsize : g.locals.size = nL) (hstack : g.stack = As.reverse ++ rest) (hW : 2 * g.monitorRoom + (rest.map fun v => v.category).sum ≤ 8) (hdg : decode cc g.pc = .ok (.invokestatic index, 3)) (hf : cells + mc ≤ R.cells ∧ slots + ms ≤ R.slots) :
    vx_Run p l e R s m args below meth c H locs cells slots mc ms g rest (Qc As.toArray) XC free := by
  obtain ⟨⟨hrc, hrs, hfr, hlo, hws, hcw⟩, hcode, hini, hy, hlen, hl, hstt⟩ := cw
  have hK : vx_Back l R p e below s args y 3 8 (PreOf R mc ms Pc) (PostOf Qc mc ms free) (vx_Post XC mc ms free) := vx_backW (hh := hh) (bytes := bytes) (maxL := maxL) (ret := ret) hM hp.1 hrc hrs hfr hlo hws hcw (fun a' U hW => word_at hW (Or.inl (by first | rfl | simp [Cond.onTables, Cond.keeps, Cond.steady])) hini)
  obtain ⟨hx, hb, hml, ho, -⟩ := S
  intro T hT X
  rcases vx_callSX X hx (hh := hh) (bytes := bytes) (maxL := maxL) (ret := ret) ho hl hstt hini hcode hy hK hg (hsize.trans hml.symm) (argsL := As) (rest := rest) (fun sig h => hn.trans (hlen sig h)) hstack hW (by rw [hb]; exact hdg)
    (fun vm₁ hW₁ => ⟨hf.1, hf.2, hp.2 (T.setVm vm₁) hT hW₁⟩) with ⟨v, vm₁, ⟨U', l2, c2, s2⟩, hW₁, X', ⟨g', mk, t, L, e1, e2, hq, h1, hL, h2, h3⟩, st⟩ | ⟨q, vm₁, ⟨U', l2, c2, s2⟩, hW₁, X', ⟨g', mk, t, L, E, ce, e1, e2, hq, hce, hcv, hcl, h1, hL, h2, h3⟩, st⟩
  · dsimp only [Pt.U, Pt.locs, Pt.cells, Pt.slots] at X' e1 e2 h1 h2 h3 st
    subst h1; subst h2; subst h3
    exact Or.inl ⟨v, (T.setVm vm₁).calling g' mk As.toArray, t, U', L, hT, X', hL, e1, e2, hq, st⟩
  · dsimp only [Pt.U, Pt.locs, Pt.cells, Pt.slots] at X' e1 e2 h1 h2 h3 st hcl
    subst h1; subst h2; subst h3
    exact Or.inr ⟨q, (T.setVm vm₁).calling g' mk As.toArray, t, U', L, E, ce, hT, X', hL, e1, e2, hq, hce, hcv, vx_cls hW₁ hcl, st⟩
end
end VXH
theorem vx_ofWH {l : Launch} {y : MethodName} {ws ws' : List Cond} {rm : Room} {Pc : Array Value → State → Prop} {Qc : Array Value → State → Outcome → State → Prop} {XC : String → State → State → Prop} {mc ms : Nat} {free : Addr → Prop} {cc : ByteArray} {maxL : Nat} {ret : Option FieldType} {hh : List (Nat × Nat × Nat × Nat)}
    (hy : plainName y.cls = true) (hw : ws = Cond.codeWith y cc maxL ret hh :: ws')
    (body : ∀ p e s m args below meth c s₁, BodyLoose p l y (headSpec ws rm) cc maxL ret e s m args below meth c s₁ → c.maxLocals = maxL → Pc args s →
      W p l e (headSpec ws rm).room s m args below meth c s.heap [] 0 0 (vx_MQ below Qc XC args s mc ms free) (entryFrame m args maxL)) : vx_Met l y ws rm Pc Qc XC mc ms free := by
  refine MetFree.of_bodyS (code := cc) (maxLocals := maxL) (ret := ret) hy ?_ ?_
  · intro args s m h hn
    obtain ⟨m9, meth, c, hn9, h1, h2, h3, h4, -, h5, h6, -⟩ := Cond.codeWith_spec (atoms_spec (ws := ws) h _ (by rw [hw]; exact List.mem_cons_self))
    cases hn.symm.trans hn9
    exact ⟨meth, c, h1, h2, h3, h4, h5, h6⟩
  · intro p e s m args below meth c s₁ B hml hP _
    have hh0 : s₁.heap = s.heap := by rw [B.state]; rfl
    obtain ⟨t, a1, o, b1, b2, b3⟩ := body p e s m args below meth c s₁ B hml hP s₁ hh0 (Stand.of_body B)
    exact ⟨t, o, a1, b1, b2, b3⟩
/-! ===== END ===== -/
end
section
/-! catching by a table of handlers whose classes may still be unresolved: the search warms the tables and goes on -/
def et_Fd (e : Env) (s : State) (f : JFrame) (a : Addr) (h : Handler) (vm' : Vm) : Prop :=
  ∀ (Q : Handler → Pre) (E : CtlPost) (d : Bool) (acts : List Action), wp (findHandler f a) Q E e d acts s ↔ Q h d acts (s.setVm vm')
/-- one row that covers the pc and names a class by a link: she notes the class; caught or not by 'assignable' -/
theorem et_go1 {Q : Handler → Pre} {E : CtlPost} {e : Env} {d : Bool} {acts : List Action} {s : State} {f : JFrame} {a : Addr} {x : ExceptionTableEntry} {t : List ExceptionTableEntry} {c : ClassId} {cell : Cell} (hx : covers x f.pc = true) (h0 : x.catchType ≠ 0)
    (hl : s.vm.ClassLinks e.platform f.method.cls x.catchType c) (hcell : s.heap[a]? = some cell) (hobj : ∀ k, cell.vm ≠ .statics k)
    (hk : ∃ k, s.vm.classes[cell.cls]? = some k) (hc : ∃ k, s.vm.classes[c]? = some k) :
    wp (findHandler.go f a (x :: t)) Q E e d acts s ↔ (if s.vm.assignable cell.cls c = true then Q (.found x.handlerPc) d acts (s.setVm (s.vm.noted f.method.cls x.catchType (.cls c))) else wp (findHandler.go f a t) Q E e d acts (s.setVm (s.vm.noted f.method.cls x.catchType (.cls c)))) := by
  simp only [covers] at hx
  have hop := (resolveClass_links e.toSetting hl).op (op := VmOp.resolveClass f.method.cls x.catchType) rfl
  have hal : s.vm.Alike (s.vm.noted f.method.cls x.catchType (.cls c)) := (Vm.Alike.refl s.vm).noted _ _ _
  have hk1 : ∃ k, (s.vm.noted f.method.cls x.catchType (.cls c)).classes[cell.cls]? = some k := hk.elim fun k h => (hal.2.2 _ _ h).elim fun k' h' => ⟨k', h'.1⟩
  have hk2 : ∃ k, (s.vm.noted f.method.cls x.catchType (.cls c)).classes[c]? = some k := hc.elim fun k h => (hal.2.2 _ _ h).elim fun k' h' => ⟨k', h'.1⟩
  obtain ⟨k1, hk1⟩ := hk1
  obtain ⟨k2, hk2⟩ := hk2
  by_cases hf : s.vm.assignable cell.cls c = true
  · have hf' : (s.vm.noted f.method.cls x.catchType (.cls c)).assignable cell.cls c = true := by rw [hal.assignable]; exact hf
    rw [if_pos hf]
    simp [findHandler.go, hx, h0, hop.1, hop.2, hcell, hobj, hk1, hk2, hf', VmOp.dirties, VmOp.acts]
  · have hf' : (s.vm.noted f.method.cls x.catchType (.cls c)).assignable cell.cls c = false := by rw [hal.assignable]; simpa using hf
    rw [if_neg hf]
    simp [findHandler.go, hx, h0, hop.1, hop.2, hcell, hobj, hk1, hk2, hf', VmOp.dirties, VmOp.acts]
/-- rows ahead that name classes the object isn't of, then the row that catches -/
theorem et_goN {e : Env} {s₀ : State} {f : JFrame} {a : Addr} {cell : Cell} (hobj : ∀ k, cell.vm ≠ .statics k) (hk0 : ∃ k, s₀.vm.classes[cell.cls]? = some k)
    (x : ExceptionTableEntry) (suf : List ExceptionTableEntry) (hx : covers x f.pc = true) (h0 : x.catchType ≠ 0) {c : ClassId} (hl : s₀.vm.ClassLinks e.platform f.method.cls x.catchType c) (hfit : s₀.vm.assignable cell.cls c = true) :
    ∀ (pre : List ExceptionTableEntry) (S : State), s₀.WarmedH S.vm → S.heap[a]? = some cell →
      (∀ y ∈ pre, covers y f.pc = false ∨ (y.catchType ≠ 0 ∧ ∃ c1, s₀.vm.ClassLinks e.platform f.method.cls y.catchType c1 ∧ s₀.vm.assignable cell.cls c1 = false)) →
      ∃ vm', s₀.WarmedH vm' ∧ ∀ (Q : Handler → Pre) (E : CtlPost) (d : Bool) (acts : List Action), wp (findHandler.go f a (pre ++ x :: suf)) Q E e d acts S ↔ Q (.found x.handlerPc) d acts (S.setVm vm') := by
  obtain ⟨k0, hk0⟩ := hk0
  have one : ∀ (z : ExceptionTableEntry) (c1 : ClassId) (S : State), s₀.WarmedH S.vm → s₀.vm.ClassLinks e.platform f.method.cls z.catchType c1 → s₀.WarmedH (S.vm.noted f.method.cls z.catchType (.cls c1)) ∧ (∃ k, S.vm.classes[cell.cls]? = some k) ∧ ∃ k, S.vm.classes[c1]? = some k := by
    intro z c1 S hW hl1
    obtain ⟨k0', hk0', -⟩ := hW.alike.2.2 _ _ hk0
    obtain ⟨dk, _, _, kt, hd, _, _, _, _, hkt, _, hopen⟩ := hl1.here
    obtain ⟨kt', hkt', -⟩ := hW.alike.2.2 _ _ hkt
    exact ⟨hW.noted hd hopen (State.rightAt_cls hl1), ⟨k0', hk0'⟩, ⟨kt', hkt'⟩⟩
  intro pre
  induction pre with
  | nil =>
    intro S hW hcell _
    obtain ⟨a1, a2, a3⟩ := one x c S hW hl
    refine ⟨_, a1, fun Q E d acts => ?_⟩
    rw [List.nil_append, et_go1 hx h0 (hW.classLinks hl) hcell hobj a2 a3, if_pos (by rw [hW.alike.assignable]; exact hfit)]
  | cons y ys ih =>
    intro S hW hcell hp
    have hp' := fun z hz => hp z (List.mem_cons_of_mem _ hz)
    rcases Bool.eq_false_or_eq_true (covers y f.pc) with hc | hc
    · rcases hp y (List.mem_cons_self ..) with h | ⟨h1, c1, hl1, hno⟩
      · rw [h] at hc; cases hc
      · obtain ⟨a1, a2, a3⟩ := one y c1 S hW hl1
        obtain ⟨vm', hW', hq⟩ := ih (S.setVm (S.vm.noted f.method.cls y.catchType (.cls c1))) a1 hcell hp'
        refine ⟨vm', hW', fun Q E d acts => ?_⟩
        rw [List.cons_append, et_go1 hc h1 (hW.classLinks hl1) hcell hobj a2 a3, if_neg (by rw [hW.alike.assignable, hno]; decide)]
        exact hq Q E d acts
    · obtain ⟨vm', hW', hq⟩ := ih S hW hcell hp'
      refine ⟨vm', hW', fun Q E d acts => ?_⟩
      rw [List.cons_append, W.findHandler_go_skip hc]
      exact hq Q E d acts
theorem et_thc {e : Env} {s : State} {a : Addr} {f : JFrame} {r : List Frame} {pc : Nat} {vm' : Vm} (hfind : et_Fd e s f a (.found pc) vm') :
    (stepThrowing e s a (.java f :: r)).Is ((s.setVm vm').setFrames (.java { f with pc := pc, stack := [.ref a] } :: r)) [] := by
  simp only [stepThrowing, searchFrame, vmDo]
  generalize hr : Sem.go _ e false [] s = res
  obtain ⟨as, rfl, ha⟩ := Sem.eq_ok_of hr (a := Handler.found pc) (s' := s.setVm vm') (acts' := []) (by simp [hfind _ _ _ _])
  exact ⟨rfl, ha⟩
theorem et_stc {tb : Tables} {e : Env} {s target : State} {g : JFrame} {c : Code} {below : List Frame} {a : Addr} (h : At s g.method c below) {pc : Nat} {vm' : Vm}
    (hfind : et_Fd e ((s.setTop g).pushFrame (.throwing a)) g a (.found pc) vm') (hrest : Steps tb e below ((s.setVm vm').setTop { g with pc := pc, stack := [.ref a] }) target) :
    Steps tb e below ((s.setTop g).pushFrame (.throwing a)) target := by
  obtain ⟨hgo, hw⟩ := h.throwing a
  refine Steps.head hgo hw ?_
  rw [stepThread_throwing (frames_entered h.top _), (et_thc (s := (s.setTop g).pushFrame (.throwing a)) hfind).1]
  obtain ⟨g₀, hg⟩ := Option.isSome_iff_exists.mp h.top
  obtain ⟨r, hr⟩ := State.topJava?_eq_some.mp hg
  have hr' : (s.setVm vm').frames = .java g₀ :: r := hr
  have two : ∀ (u : State) (F F2 : List Frame), ((u.setFrames F).setVm vm').setFrames F2 = (u.setVm vm').setFrames F2 := fun u F F2 => by
    rw [show (u.setFrames F).setVm vm' = (u.setVm vm').setFrames F from rfl, State.setFrames_setFrames]
  rw [State.setTop_of_frames _ hr'] at hrest
  rw [hr, List.tail_cons, State.pushFrame, two, State.setTop_of_frames _ hr, two]
  exact hrest
section ETC
variable {p : Program} {l : Launch} {e : Env} {R : Room} {s : State} {m : MethodId} {args : Array Value} {below : List Frame} {meth : Method} {c : Code} {H : Heap} {locs : List Loc} {cells slots : Nat} {Q : State → Prop} {pc : Nat} {ls : Array Slot} {rest : List Value}
theorem et_catch {own name : String} {E : String} {ce : Cell} {q : Addr} (hown : s.vm.findClass own = some m.cls) (pre : List ExceptionTableEntry) (x : ExceptionTableEntry) (suf : List ExceptionTableEntry) (hsplit : c.exceptionTable.toList = pre ++ x :: suf)
    (hpass : ∀ z ∈ pre, covers z pc = false ∨ (z.catchType ≠ 0 ∧ ∃ nm : String, (Cond.classLink own z.catchType nm).before args s = true ∧ va_Nc E nm s)) (hx : covers x pc = true) (h0 : x.catchType ≠ 0)
    (hlink : (Cond.classLink own x.catchType name).before args s = true) (hcast : (Cond.castable E name).before args s = true) (hcell : H[q]? = some ce) (hv : ce.vm = .none) (hcl : s.vm.findClass E = some ce.cls)
    (kk : W p l e R s m args below meth c H locs cells slots Q (F0 m x.handlerPc ls [.ref q])) : vx_W p l e R s m args below meth c H locs cells slots Q (F0 m pc ls rest) q := by
  intro T hT X
  have hpl : e.platform.magicAccessors = ({} : Platform).magicAccessors := by rw [X.admits.platform]
  obtain ⟨c3, c4, hc3, hc4, hasg⟩ := Cond.castable_spec hcast
  cases Option.some.inj (hc3.symm.trans hcl)
  obtain ⟨c5, hc5, hcl5⟩ := Cond.classLink_spec hown hlink e.platform hpl
  cases Option.some.inj (hc4.symm.trans hc5)
  have hcT : T.heap[q]? = some ce := by rw [hT]; exact hcell
  obtain ⟨vm', hW', hq⟩ := et_goN (e := e) (s₀ := s) (f := F0 m pc ls rest) (a := q) (cell := ce) (fun k h => by rw [hv] at h; cases h) (by obtain ⟨k9, h9, -⟩ := Vm.findClass_spec hcl; exact ⟨k9, h9⟩) x suf hx h0 hcl5 hasg pre ((T.setTop (F0 m pc ls rest)).pushFrame (.throwing q)) X.warmed hcT
    (fun z hz => by
      rcases hpass z hz with h | ⟨hz0, nm, hl1, hn1⟩
      · exact Or.inl h
      · obtain ⟨c6, hc6, hcl6⟩ := Cond.classLink_spec hown hl1 e.platform hpl
        obtain ⟨a8, b8, h1, h2, h3⟩ := hn1
        cases Option.some.inj (h1.symm.trans hcl)
        cases Option.some.inj (h2.symm.trans hc6)
        exact Or.inr ⟨hz0, _, hcl6, h3⟩)
  have hfd : et_Fd e ((T.setTop (F0 m pc ls rest)).pushFrame (.throwing q)) (F0 m pc ls rest) q (.found x.handlerPc) vm' := fun Q E d acts => by
    rw [W.findHandler_eq (meth := meth) (code := c) X.method' X.code, hsplit]
    exact hq Q E d acts
  obtain ⟨t, a1, b1⟩ := kk (T.setVm vm') hT (X.noted hW')
  exact ⟨t, et_stc (g := F0 m pc ls rest) X.here hfd a1, b1⟩
end ETC
end
section
def RX0 : String := "EndingTown$Ground"
def TX0 : u_T := fun k => match k with
  | 0 => ("EndingTown$Ground", "town", "LEndingTown$Town;", true)
  | 1 => ("EndingTown$Ground", "ledger", "LEndingTown$Ledger;", true)
  | 2 => ("EndingTown$Ground", "heard", "[I", true)
  | 3 => ("EndingTown$Ground", "bare", "[I", true)
  | 4 => ("EndingTown$Ground", "ownHows", "[I", true)
  | 5 => ("EndingTown$Ground", "about", "[I", true)
  | 6 => ("EndingTown$Ground", "tellers", "[I", true)
  | 7 => ("EndingTown$Ground", "can", "[I", true)
  | 8 => ("EndingTown$Ground", "chain", "[I", true)
  | 9 => ("EndingTown$Ground", "risenBy", "[I", true)
  | 10 => ("EndingTown$Ground", "eyes", "[I", true)
  | 11 => ("EndingTown$Ground", "thingEyes", "[I", true)
  | 12 => ("EndingTown$Ground", "dreamt", "I", false)
  | 13 => ("EndingTown$Ground", "held", "I", false)
  | 14 => ("EndingTown$Ground", "solid", "I", false)
  | 15 => ("EndingTown$Ground", "settled", "Z", false)
  | _ => ("EndingTown$Ground", "eyesOpen", "Z", false)
def tyX0 : Nat → FieldType := fun k => match k with
  | 0 => .object "EndingTown$Town"
  | 1 => .object "EndingTown$Ledger"
  | 2 => .array .int
  | 3 => .array .int
  | 4 => .array .int
  | 5 => .array .int
  | 6 => .array .int
  | 7 => .array .int
  | 8 => .array .int
  | 9 => .array .int
  | 10 => .array .int
  | 11 => .array .int
  | 12 => .int
  | 13 => .int
  | 14 => .int
  | 15 => .boolean
  | _ => .boolean
abbrev wsX00 : List Cond := u_ws RX0 TX0 17
theorem nmX0 : ∀ a, a < 17 → ∀ b, b < 17 → a ≠ b → (TX0 a).2.1 ≠ (TX0 b).2.1 := by decide +kernel
theorem tyX0_ok : ∀ k, k < 17 → parseFieldDescriptor (TX0 k).2.2.1 = some (tyX0 k) := by decide +kernel
abbrev cX0_init : ByteArray := prog_2_method_1_code
def yX0_init : MethodName := ⟨RX0, "<init>", "(LEndingTown$Town;LEndingTown$Ledger;)V"⟩
abbrev cX0_forget : ByteArray := prog_2_method_2_code
def yX0_forget : MethodName := ⟨RX0, "forget", "()V"⟩
abbrev cX0_settle : ByteArray := prog_2_method_3_code
def yX0_settle : MethodName := ⟨RX0, "settle", "()V"⟩
abbrev cX0_chainOf : ByteArray := prog_2_method_4_code
def yX0_chainOf : MethodName := ⟨RX0, "chainOf", "(I)I"⟩
abbrev cX0_eyesOf : ByteArray := prog_2_method_5_code
def yX0_eyesOf : MethodName := ⟨RX0, "eyesOf", "(I)I"⟩
abbrev cX0_unheld : ByteArray := prog_2_method_6_code
def yX0_unheld : MethodName := ⟨RX0, "unheld", "()I"⟩
abbrev cX0_lay : ByteArray := prog_2_method_7_code
def yX0_lay : MethodName := ⟨RX0, "lay", "()V"⟩
abbrev cX0_aboutRow : ByteArray := prog_2_method_8_code
def yX0_aboutRow : MethodName := ⟨RX0, "aboutRow", "(IZ)I"⟩
abbrev cX0_heardBy : ByteArray := prog_2_method_9_code
def yX0_heardBy : MethodName := ⟨RX0, "heardBy", "(II)I"⟩
abbrev cX0_rise : ByteArray := prog_2_method_10_code
def yX0_rise : MethodName := ⟨RX0, "rise", "(II)V"⟩
abbrev cX0_rising : ByteArray := prog_2_method_11_code
def yX0_rising : MethodName := ⟨RX0, "rising", "(III)I"⟩
abbrev cX0_firstBit : ByteArray := prog_2_method_12_code
def yX0_firstBit : MethodName := ⟨RX0, "firstBit", "(I)I"⟩
abbrev cX0_standingHows : ByteArray := prog_2_method_13_code
def yX0_standingHows : MethodName := ⟨RX0, "standingHows", "(III)I"⟩
abbrev cX0_widenAll : ByteArray := prog_2_method_14_code
def yX0_widenAll : MethodName := ⟨RX0, "widenAll", "(II)Z"⟩
abbrev cX0_widened : ByteArray := prog_2_method_15_code
def yX0_widened : MethodName := ⟨RX0, "widened", "(III)I"⟩
abbrev cX0_widest : ByteArray := prog_2_method_16_code
def yX0_widest : MethodName := ⟨RX0, "widest", "(II)I"⟩
abbrev cX0_openEyes : ByteArray := prog_2_method_17_code
def yX0_openEyes : MethodName := ⟨RX0, "openEyes", "()V"⟩
abbrev cX0_eyesNow : ByteArray := prog_2_method_18_code
def yX0_eyesNow : MethodName := ⟨RX0, "eyesNow", "(I)I"⟩
abbrev cX0_eyesOfAll : ByteArray := prog_2_method_19_code
def yX0_eyesOfAll : MethodName := ⟨RX0, "eyesOfAll", "(I)I"⟩
abbrev cX0_openThingEyes : ByteArray := prog_2_method_20_code
def yX0_openThingEyes : MethodName := ⟨RX0, "openThingEyes", "(I)Z"⟩
abbrev cX0_ruleEyes : ByteArray := prog_2_method_21_code
def yX0_ruleEyes : MethodName := ⟨RX0, "ruleEyes", "(II)I"⟩
abbrev cX0_tailEyes : ByteArray := prog_2_method_22_code
def yX0_tailEyes : MethodName := ⟨RX0, "tailEyes", "(II)I"⟩
abbrev cX0_howsFor : ByteArray := prog_2_method_23_code
def yX0_howsFor : MethodName := ⟨RX0, "howsFor", "(IIIZ)I"⟩
abbrev cX0_rings : ByteArray := prog_2_method_24_code
def yX0_rings : MethodName := ⟨RX0, "rings", "()I"⟩
abbrev cX0_standing : ByteArray := prog_2_method_25_code
def yX0_standing : MethodName := ⟨RX0, "standing", "(II)I"⟩
abbrev cX0_fewestSilent : ByteArray := prog_2_method_26_code
def yX0_fewestSilent : MethodName := ⟨RX0, "fewestSilent", "(II)I"⟩
abbrev cX0_isTold : ByteArray := prog_2_method_27_code
def yX0_isTold : MethodName := ⟨RX0, "isTold", "(II)Z"⟩
def RX1 : String := "EndingTown$Ledger"
def TX1 : u_T := fun k => match k with
  | 0 => ("EndingTown$Ledger", "size", "I", false)
  | 1 => ("EndingTown$Ledger", "person", "[I", true)
  | 2 => ("EndingTown$Ledger", "hour", "[I", true)
  | 3 => ("EndingTown$Ledger", "thing", "[I", true)
  | 4 => ("EndingTown$Ledger", "how", "[I", true)
  | _ => ("EndingTown$Ledger", "not", "[Z", true)
def tyX1 : Nat → FieldType := fun k => match k with
  | 0 => .int
  | 1 => .array .int
  | 2 => .array .int
  | 3 => .array .int
  | 4 => .array .int
  | _ => .array .boolean
abbrev wsX10 : List Cond := u_ws RX1 TX1 6
theorem nmX1 : ∀ a, a < 6 → ∀ b, b < 6 → a ≠ b → (TX1 a).2.1 ≠ (TX1 b).2.1 := by decide +kernel
theorem tyX1_ok : ∀ k, k < 6 → parseFieldDescriptor (TX1 k).2.2.1 = some (tyX1 k) := by decide +kernel
abbrev cX1_init : ByteArray := prog_3_method_1_code
def yX1_init : MethodName := ⟨RX1, "<init>", "()V"⟩
abbrev cX1_add : ByteArray := prog_3_method_2_code
def yX1_add : MethodName := ⟨RX1, "add", "(IIIIZ)Z"⟩
abbrev cX1_copyFrom : ByteArray := prog_3_method_3_code
def yX1_copyFrom : MethodName := ⟨RX1, "copyFrom", "(LEndingTown$Ledger;)V"⟩
abbrev cX1_isHeardBy : ByteArray := prog_3_method_4_code
def yX1_isHeardBy : MethodName := ⟨RX1, "isHeardBy", "(IILEndingTown$Town;)Z"⟩
abbrev cX1_every : ByteArray := prog_3_method_5_code
def yX1_every : MethodName := ⟨RX1, "every", "()I"⟩
def RX2 : String := "EndingTown$Mender"
def TX2 : u_T := fun k => match k with
  | 0 => ("EndingTown$Mender", "ground", "LEndingTown$Ground;", true)
  | 1 => ("EndingTown$Mender", "ledger", "LEndingTown$Ledger;", true)
  | 2 => ("EndingTown$Mender", "hows", "[I", true)
  | _ => ("EndingTown$Mender", "size", "I", false)
def tyX2 : Nat → FieldType := fun k => match k with
  | 0 => .object "EndingTown$Ground"
  | 1 => .object "EndingTown$Ledger"
  | 2 => .array .int
  | _ => .int
abbrev wsX20 : List Cond := u_ws RX2 TX2 4
theorem nmX2 : ∀ a, a < 4 → ∀ b, b < 4 → a ≠ b → (TX2 a).2.1 ≠ (TX2 b).2.1 := by decide +kernel
theorem tyX2_ok : ∀ k, k < 4 → parseFieldDescriptor (TX2 k).2.2.1 = some (tyX2 k) := by decide +kernel
abbrev cX2_init : ByteArray := prog_4_method_1_code
def yX2_init : MethodName := ⟨RX2, "<init>", "(LEndingTown$Ground;LEndingTown$Ledger;)V"⟩
abbrev cX2_clear : ByteArray := prog_4_method_2_code
def yX2_clear : MethodName := ⟨RX2, "clear", "()V"⟩
abbrev cX2_keepFewest : ByteArray := prog_4_method_3_code
def yX2_keepFewest : MethodName := ⟨RX2, "keepFewest", "()I"⟩
abbrev cX2_fewest : ByteArray := prog_4_method_4_code
def yX2_fewest : MethodName := ⟨RX2, "fewest", "()I"⟩
def RX3 : String := "EndingTown$Minds"
def TX3 : u_T := fun k => match k with
  | 0 => ("EndingTown$Minds", "town", "LEndingTown$Town;", true)
  | 1 => ("EndingTown$Minds", "things", "I", false)
  | _ => ("EndingTown$Minds", "left", "I", false)
def tyX3 : Nat → FieldType := fun k => match k with
  | 0 => .object "EndingTown$Town"
  | 1 => .int
  | _ => .int
abbrev wsX30 : List Cond := u_ws RX3 TX3 3
theorem nmX3 : ∀ a, a < 3 → ∀ b, b < 3 → a ≠ b → (TX3 a).2.1 ≠ (TX3 b).2.1 := by decide +kernel
theorem tyX3_ok : ∀ k, k < 3 → parseFieldDescriptor (TX3 k).2.2.1 = some (tyX3 k) := by decide +kernel
abbrev cX3_init : ByteArray := prog_5_method_1_code
def yX3_init : MethodName := ⟨RX3, "<init>", "(LEndingTown$Town;)V"⟩
abbrev cX3_clear : ByteArray := prog_5_method_2_code
def yX3_clear : MethodName := ⟨RX3, "clear", "()V"⟩
abbrev cX3_copyFrom : ByteArray := prog_5_method_3_code
def yX3_copyFrom : MethodName := ⟨RX3, "copyFrom", "(LEndingTown$Minds;)V"⟩
abbrev cX3_open : ByteArray := prog_5_method_4_code
def yX3_open : MethodName := ⟨RX3, "open", "(I)V"⟩
abbrev cX3_figure : ByteArray := prog_5_method_5_code
def yX3_figure : MethodName := ⟨RX3, "figure", "(II)I"⟩
abbrev cX3_slot : ByteArray := prog_5_method_6_code
def yX3_slot : MethodName := ⟨RX3, "slot", "(I)I"⟩
abbrev cX3_realWorld : ByteArray := prog_5_method_7_code
def yX3_realWorld : MethodName := ⟨RX3, "realWorld", "()I"⟩
abbrev cX3_distinguished : ByteArray := prog_5_method_8_code
def yX3_distinguished : MethodName := ⟨RX3, "distinguished", "(I)I"⟩
abbrev cX3_worldsWith : ByteArray := prog_5_method_9_code
def yX3_worldsWith : MethodName := ⟨RX3, "worldsWith", "(IZ)I"⟩
abbrev cX3_knowing : ByteArray := prog_5_method_10_code
def yX3_knowing : MethodName := ⟨RX3, "knowing", "(II)I"⟩
abbrev cX3_alike : ByteArray := prog_5_method_11_code
def yX3_alike : MethodName := ⟨RX3, "alike", "(II)I"⟩
abbrev cX3_hear : ByteArray := prog_5_method_12_code
def yX3_hear : MethodName := ⟨RX3, "hear", "(IIZ)Z"⟩
abbrev cX3_isKnown : ByteArray := prog_5_method_13_code
def yX3_isKnown : MethodName := ⟨RX3, "isKnown", "(IIIZ)Z"⟩
def RX4 : String := "EndingTown$Reader"
def TX4 : u_T := fun k => match k with
  | 0 => ("EndingTown$Reader", "bytes", "[B", true)
  | 1 => ("EndingTown$Reader", "end", "I", false)
  | 2 => ("EndingTown$Reader", "at", "I", false)
  | 3 => ("EndingTown$Reader", "kind", "I", false)
  | 4 => ("EndingTown$Reader", "start", "I", false)
  | 5 => ("EndingTown$Reader", "length", "I", false)
  | 6 => ("EndingTown$Reader", "value", "I", false)
  | 7 => ("EndingTown$Reader", "placesTold", "Z", false)
  | 8 => ("EndingTown$Reader", "placesUsed", "Z", false)
  | 9 => ("EndingTown$Reader", "found", "I", false)
  | _ => ("EndingTown$Reader", "faultPlace", "I", false)
def tyX4 : Nat → FieldType := fun k => match k with
  | 0 => .array .byte
  | 1 => .int
  | 2 => .int
  | 3 => .int
  | 4 => .int
  | 5 => .int
  | 6 => .int
  | 7 => .boolean
  | 8 => .boolean
  | 9 => .int
  | _ => .int
abbrev wsX40 : List Cond := u_ws RX4 TX4 11
theorem nmX4 : ∀ a, a < 11 → ∀ b, b < 11 → a ≠ b → (TX4 a).2.1 ≠ (TX4 b).2.1 := by decide +kernel
theorem tyX4_ok : ∀ k, k < 11 → parseFieldDescriptor (TX4 k).2.2.1 = some (tyX4 k) := by decide +kernel
abbrev cX4_init : ByteArray := prog_6_method_1_code
def yX4_init : MethodName := ⟨RX4, "<init>", "([B)V"⟩
abbrev cX4_read : ByteArray := prog_6_method_2_code
def yX4_read : MethodName := ⟨RX4, "read", "(ILEndingTown$Town;)I"⟩
abbrev cX4_refuse : ByteArray := prog_6_method_3_code
def yX4_refuse : MethodName := ⟨RX4, "refuse", "(I)Z"⟩
abbrev cX4_step : ByteArray := prog_6_method_4_code
def yX4_step : MethodName := ⟨RX4, "step", "()V"⟩
abbrev cX4_takeDigits : ByteArray := prog_6_method_5_code
def yX4_takeDigits : MethodName := ⟨RX4, "takeDigits", "()V"⟩
abbrev cX4_is : ByteArray := prog_6_method_6_code
def yX4_is : MethodName := ⟨RX4, "is", "(Ljava/lang/String;)Z"⟩
abbrev cX4_readLine : ByteArray := prog_6_method_7_code
def yX4_readLine : MethodName := ⟨RX4, "readLine", "(LEndingTown$Town;)Z"⟩
abbrev cX4_letters : ByteArray := prog_6_method_8_code
def yX4_letters : MethodName := ⟨RX4, "letters", "(LEndingTown$Tongue;I)Z"⟩
abbrev cX4_number : ByteArray := prog_6_method_9_code
def yX4_number : MethodName := ⟨RX4, "number", "(I)Z"⟩
abbrev cX4_isNumber : ByteArray := prog_6_method_10_code
def yX4_isNumber : MethodName := ⟨RX4, "isNumber", "(I)Z"⟩
abbrev cX4_oneOf : ByteArray := prog_6_method_11_code
def yX4_oneOf : MethodName := ⟨RX4, "oneOf", "(I)Z"⟩
abbrev cX4_semicolon : ByteArray := prog_6_method_12_code
def yX4_semicolon : MethodName := ⟨RX4, "semicolon", "()Z"⟩
abbrev cX4_isSemicolon : ByteArray := prog_6_method_13_code
def yX4_isSemicolon : MethodName := ⟨RX4, "isSemicolon", "()Z"⟩
abbrev cX4_stemLine : ByteArray := prog_6_method_14_code
def yX4_stemLine : MethodName := ⟨RX4, "stemLine", "(LEndingTown$Tongue;)Z"⟩
abbrev cX4_endingLine : ByteArray := prog_6_method_15_code
def yX4_endingLine : MethodName := ⟨RX4, "endingLine", "(LEndingTown$Tongue;)Z"⟩
abbrev cX4_changeLine : ByteArray := prog_6_method_16_code
def yX4_changeLine : MethodName := ⟨RX4, "changeLine", "(LEndingTown$Tongue;)Z"⟩
abbrev cX4_notLine : ByteArray := prog_6_method_17_code
def yX4_notLine : MethodName := ⟨RX4, "notLine", "(LEndingTown$Tongue;)Z"⟩
abbrev cX4_placesLine : ByteArray := prog_6_method_18_code
def yX4_placesLine : MethodName := ⟨RX4, "placesLine", "(LEndingTown$Town;)Z"⟩
abbrev cX4_nearLine : ByteArray := prog_6_method_19_code
def yX4_nearLine : MethodName := ⟨RX4, "nearLine", "(LEndingTown$Town;)Z"⟩
abbrev cX4_personLine : ByteArray := prog_6_method_20_code
def yX4_personLine : MethodName := ⟨RX4, "personLine", "(LEndingTown$Town;)Z"⟩
abbrev cX4_thingLine : ByteArray := prog_6_method_21_code
def yX4_thingLine : MethodName := ⟨RX4, "thingLine", "(LEndingTown$Town;)Z"⟩
abbrev cX4_thingSigns : ByteArray := prog_6_method_22_code
def yX4_thingSigns : MethodName := ⟨RX4, "thingSigns", "(LEndingTown$Town;I)Z"⟩
abbrev cX4_ruleLine : ByteArray := prog_6_method_23_code
def yX4_ruleLine : MethodName := ⟨RX4, "ruleLine", "(LEndingTown$Town;)Z"⟩
abbrev cX4_ruleGround : ByteArray := prog_6_method_24_code
def yX4_ruleGround : MethodName := ⟨RX4, "ruleGround", "(LEndingTown$Town;II)Z"⟩
abbrev cX4_atLine : ByteArray := prog_6_method_25_code
def yX4_atLine : MethodName := ⟨RX4, "atLine", "(LEndingTown$Town;)Z"⟩
abbrev cX4_weighLine : ByteArray := prog_6_method_26_code
def yX4_weighLine : MethodName := ⟨RX4, "weighLine", "(LEndingTown$Town;)Z"⟩
def RX5 : String := "EndingTown$Tongue"
def TX5 : u_T := fun k => match k with
  | 0 => ("EndingTown$Tongue", "letters", "[B", true)
  | 1 => ("EndingTown$Tongue", "length", "[I", true)
  | 2 => ("EndingTown$Tongue", "stems", "I", false)
  | 3 => ("EndingTown$Tongue", "changes", "I", false)
  | 4 => ("EndingTown$Tongue", "made", "[B", true)
  | _ => ("EndingTown$Tongue", "madeLength", "I", false)
def tyX5 : Nat → FieldType := fun k => match k with
  | 0 => .array .byte
  | 1 => .array .int
  | 2 => .int
  | 3 => .int
  | 4 => .array .byte
  | _ => .int
abbrev wsX50 : List Cond := u_ws RX5 TX5 6
theorem nmX5 : ∀ a, a < 6 → ∀ b, b < 6 → a ≠ b → (TX5 a).2.1 ≠ (TX5 b).2.1 := by decide +kernel
theorem tyX5_ok : ∀ k, k < 6 → parseFieldDescriptor (TX5 k).2.2.1 = some (tyX5 k) := by decide +kernel
abbrev cX5_init : ByteArray := prog_7_method_1_code
def yX5_init : MethodName := ⟨RX5, "<init>", "()V"⟩
abbrev cX5_clear : ByteArray := prog_7_method_2_code
def yX5_clear : MethodName := ⟨RX5, "clear", "()V"⟩
abbrev cX5_copyFrom : ByteArray := prog_7_method_3_code
def yX5_copyFrom : MethodName := ⟨RX5, "copyFrom", "(LEndingTown$Tongue;)V"⟩
abbrev cX5_endingSlot : ByteArray := prog_7_method_4_code
def yX5_endingSlot : MethodName := ⟨RX5, "endingSlot", "(II)I"⟩
abbrev cX5_changeSlot : ByteArray := prog_7_method_5_code
def yX5_changeSlot : MethodName := ⟨RX5, "changeSlot", "(II)I"⟩
abbrev cX5_hasStem : ByteArray := prog_7_method_6_code
def yX5_hasStem : MethodName := ⟨RX5, "hasStem", "(I)Z"⟩
abbrev cX5_hasEnding : ByteArray := prog_7_method_7_code
def yX5_hasEnding : MethodName := ⟨RX5, "hasEnding", "(II)Z"⟩
abbrev cX5_hasNot : ByteArray := prog_7_method_8_code
def yX5_hasNot : MethodName := ⟨RX5, "hasNot", "()Z"⟩
abbrev cX5_put : ByteArray := prog_7_method_9_code
def yX5_put : MethodName := ⟨RX5, "put", "(I[BII)V"⟩
abbrev cX5_standsAt : ByteArray := prog_7_method_10_code
def yX5_standsAt : MethodName := ⟨RX5, "standsAt", "(III)Z"⟩
abbrev cX5_firstChange : ByteArray := prog_7_method_11_code
def yX5_firstChange : MethodName := ⟨RX5, "firstChange", "(II)I"⟩
abbrev cX5_add : ByteArray := prog_7_method_12_code
def yX5_add : MethodName := ⟨RX5, "add", "(III)V"⟩
abbrev cX5_make : ByteArray := prog_7_method_13_code
def yX5_make : MethodName := ⟨RX5, "make", "(III)I"⟩
abbrev cX5_isMade : ByteArray := prog_7_method_14_code
def yX5_isMade : MethodName := ⟨RX5, "isMade", "([BII)Z"⟩
abbrev cX5_isNot : ByteArray := prog_7_method_15_code
def yX5_isNot : MethodName := ⟨RX5, "isNot", "([BII)Z"⟩
def RX6 : String := "EndingTown$Town"
def TX6 : u_T := fun k => match k with
  | 0 => ("EndingTown$Town", "tongue", "LEndingTown$Tongue;", true)
  | 1 => ("EndingTown$Town", "places", "I", false)
  | 2 => ("EndingTown$Town", "near", "[I", true)
  | 3 => ("EndingTown$Town", "people", "I", false)
  | 4 => ("EndingTown$Town", "stays", "[I", true)
  | 5 => ("EndingTown$Town", "things", "I", false)
  | 6 => ("EndingTown$Town", "stemOf", "[I", true)
  | 7 => ("EndingTown$Town", "placeOf", "[I", true)
  | 8 => ("EndingTown$Town", "hourOf", "[I", true)
  | 9 => ("EndingTown$Town", "loud", "I", false)
  | 10 => ("EndingTown$Town", "never", "I", false)
  | 11 => ("EndingTown$Town", "rules", "I", false)
  | 12 => ("EndingTown$Town", "head", "[I", true)
  | 13 => ("EndingTown$Town", "tail", "[I", true)
  | _ => ("EndingTown$Town", "chances", "[I", true)
def tyX6 : Nat → FieldType := fun k => match k with
  | 0 => .object "EndingTown$Tongue"
  | 1 => .int
  | 2 => .array .int
  | 3 => .int
  | 4 => .array .int
  | 5 => .int
  | 6 => .array .int
  | 7 => .array .int
  | 8 => .array .int
  | 9 => .int
  | 10 => .int
  | 11 => .int
  | 12 => .array .int
  | 13 => .array .int
  | _ => .array .int
abbrev wsX60 : List Cond := u_ws RX6 TX6 15
theorem nmX6 : ∀ a, a < 15 → ∀ b, b < 15 → a ≠ b → (TX6 a).2.1 ≠ (TX6 b).2.1 := by decide +kernel
theorem tyX6_ok : ∀ k, k < 15 → parseFieldDescriptor (TX6 k).2.2.1 = some (tyX6 k) := by decide +kernel
abbrev cX6_init : ByteArray := prog_8_method_1_code
def yX6_init : MethodName := ⟨RX6, "<init>", "()V"⟩
abbrev cX6_clear : ByteArray := prog_8_method_2_code
def yX6_clear : MethodName := ⟨RX6, "clear", "()V"⟩
abbrev cX6_copyFrom : ByteArray := prog_8_method_3_code
def yX6_copyFrom : MethodName := ⟨RX6, "copyFrom", "(LEndingTown$Town;)V"⟩
abbrev cX6_fillHours : ByteArray := prog_8_method_4_code
def yX6_fillHours : MethodName := ⟨RX6, "fillHours", "()V"⟩
abbrev cX6_isHour : ByteArray := prog_8_method_5_code
def yX6_isHour : MethodName := ⟨RX6, "isHour", "(I)Z"⟩
abbrev cX6_hasPerson : ByteArray := prog_8_method_6_code
def yX6_hasPerson : MethodName := ⟨RX6, "hasPerson", "(I)Z"⟩
abbrev cX6_hasThing : ByteArray := prog_8_method_7_code
def yX6_hasThing : MethodName := ⟨RX6, "hasThing", "(I)Z"⟩
abbrev cX6_thingOfStem : ByteArray := prog_8_method_8_code
def yX6_thingOfStem : MethodName := ⟨RX6, "thingOfStem", "(I)I"⟩
abbrev cX6_placeAt : ByteArray := prog_8_method_9_code
def yX6_placeAt : MethodName := ⟨RX6, "placeAt", "(II)I"⟩
abbrev cX6_isNear : ByteArray := prog_8_method_10_code
def yX6_isNear : MethodName := ⟨RX6, "isNear", "(II)Z"⟩
abbrev cX6_wasThere : ByteArray := prog_8_method_11_code
def yX6_wasThere : MethodName := ⟨RX6, "wasThere", "(II)Z"⟩
abbrev cX6_ownHows : ByteArray := prog_8_method_12_code
def yX6_ownHows : MethodName := ⟨RX6, "ownHows", "(IIIZ)I"⟩
abbrev cX6_ownThings : ByteArray := prog_8_method_13_code
def yX6_ownThings : MethodName := ⟨RX6, "ownThings", "(II)I"⟩
abbrev cX6_follows : ByteArray := prog_8_method_14_code
def yX6_follows : MethodName := ⟨RX6, "follows", "(III)Z"⟩
abbrev cX6_isWorkedOut : ByteArray := prog_8_method_15_code
def yX6_isWorkedOut : MethodName := ⟨RX6, "isWorkedOut", "(II)Z"⟩
abbrev cX6_followers : ByteArray := prog_8_method_16_code
def yX6_followers : MethodName := ⟨RX6, "followers", "(I)I"⟩
abbrev cX6_weighed : ByteArray := prog_8_method_17_code
def yX6_weighed : MethodName := ⟨RX6, "weighed", "(IIZ)I"⟩
def RX7 : String := "EndingTown$Utterance"
def TX7 : u_T := fun k => match k with
  | 0 => ("EndingTown$Utterance", "bytes", "[B", true)
  | 1 => ("EndingTown$Utterance", "ways", "LEndingTown$Ways;", true)
  | 2 => ("EndingTown$Utterance", "at", "I", false)
  | 3 => ("EndingTown$Utterance", "end", "I", false)
  | 4 => ("EndingTown$Utterance", "not", "Z", false)
  | 5 => ("EndingTown$Utterance", "thing", "I", false)
  | _ => ("EndingTown$Utterance", "how", "I", false)
def tyX7 : Nat → FieldType := fun k => match k with
  | 0 => .array .byte
  | 1 => .object "EndingTown$Ways"
  | 2 => .int
  | 3 => .int
  | 4 => .boolean
  | 5 => .int
  | _ => .int
abbrev wsX70 : List Cond := u_ws RX7 TX7 7
theorem nmX7 : ∀ a, a < 7 → ∀ b, b < 7 → a ≠ b → (TX7 a).2.1 ≠ (TX7 b).2.1 := by decide +kernel
theorem tyX7_ok : ∀ k, k < 7 → parseFieldDescriptor (TX7 k).2.2.1 = some (tyX7 k) := by decide +kernel
abbrev cX7_init : ByteArray := prog_9_method_1_code
def yX7_init : MethodName := ⟨RX7, "<init>", "([B)V"⟩
abbrev cX7_isClear : ByteArray := prog_9_method_2_code
def yX7_isClear : MethodName := ⟨RX7, "isClear", "(ILEndingTown$Town;)Z"⟩
abbrev cX7_isOneWay : ByteArray := prog_9_method_3_code
def yX7_isOneWay : MethodName := ⟨RX7, "isOneWay", "(LEndingTown$Town;)Z"⟩
abbrev cX7_skipBlanks : ByteArray := prog_9_method_4_code
def yX7_skipBlanks : MethodName := ⟨RX7, "skipBlanks", "()V"⟩
abbrev cX7_takeWord : ByteArray := prog_9_method_5_code
def yX7_takeWord : MethodName := ⟨RX7, "takeWord", "()I"⟩
def RX8 : String := "EndingTown$Ways"
def TX8 : u_T := fun k => match k with
  | 0 => ("EndingTown$Ways", "rows", "[I", true)
  | _ => ("EndingTown$Ways", "found", "I", false)
def tyX8 : Nat → FieldType := fun k => match k with
  | 0 => .array .int
  | _ => .int
abbrev wsX80 : List Cond := u_ws RX8 TX8 2
theorem nmX8 : ∀ a, a < 2 → ∀ b, b < 2 → a ≠ b → (TX8 a).2.1 ≠ (TX8 b).2.1 := by decide +kernel
theorem tyX8_ok : ∀ k, k < 2 → parseFieldDescriptor (TX8 k).2.2.1 = some (tyX8 k) := by decide +kernel
abbrev cX8_init : ByteArray := prog_10_method_1_code
def yX8_init : MethodName := ⟨RX8, "<init>", "()V"⟩
abbrev cX8_find : ByteArray := prog_10_method_2_code
def yX8_find : MethodName := ⟨RX8, "find", "(LEndingTown$Tongue;[BII)V"⟩
abbrev cX8_keep : ByteArray := prog_10_method_3_code
def yX8_keep : MethodName := ⟨RX8, "keep", "(I)V"⟩
def RX9 : String := "EndingTown"
def TX9 : u_T := fun k => match k with
  | 0 => ("EndingTown", "tape", "[B", true)
  | 1 => ("EndingTown", "tapeLength", "I", false)
  | 2 => ("EndingTown", "town", "LEndingTown$Town;", true)
  | 3 => ("EndingTown", "draft", "LEndingTown$Town;", true)
  | 4 => ("EndingTown", "reader", "LEndingTown$Reader;", true)
  | 5 => ("EndingTown", "ways", "LEndingTown$Ways;", true)
  | 6 => ("EndingTown", "utterance", "LEndingTown$Utterance;", true)
  | 7 => ("EndingTown", "ledger", "LEndingTown$Ledger;", true)
  | 8 => ("EndingTown", "keptLedger", "LEndingTown$Ledger;", true)
  | 9 => ("EndingTown", "minds", "LEndingTown$Minds;", true)
  | 10 => ("EndingTown", "keptMinds", "LEndingTown$Minds;", true)
  | 11 => ("EndingTown", "imageKept", "Z", false)
  | 12 => ("EndingTown", "ground", "LEndingTown$Ground;", true)
  | 13 => ("EndingTown", "mender", "LEndingTown$Mender;", true)
  | 14 => ("EndingTown", "faultPlace", "I", false)
  | 15 => ("EndingTown", "refusedTexts", "I", false)
  | 16 => ("EndingTown", "refusedSayings", "I", false)
  | _ => ("EndingTown", "refusedWords", "I", false)
def tyX9 : Nat → FieldType := fun k => match k with
  | 0 => .array .byte
  | 1 => .int
  | 2 => .object "EndingTown$Town"
  | 3 => .object "EndingTown$Town"
  | 4 => .object "EndingTown$Reader"
  | 5 => .object "EndingTown$Ways"
  | 6 => .object "EndingTown$Utterance"
  | 7 => .object "EndingTown$Ledger"
  | 8 => .object "EndingTown$Ledger"
  | 9 => .object "EndingTown$Minds"
  | 10 => .object "EndingTown$Minds"
  | 11 => .boolean
  | 12 => .object "EndingTown$Ground"
  | 13 => .object "EndingTown$Mender"
  | 14 => .int
  | 15 => .int
  | 16 => .int
  | _ => .int
abbrev wsX90 : List Cond := u_ws RX9 TX9 18
theorem nmX9 : ∀ a, a < 18 → ∀ b, b < 18 → a ≠ b → (TX9 a).2.1 ≠ (TX9 b).2.1 := by decide +kernel
theorem tyX9_ok : ∀ k, k < 18 → parseFieldDescriptor (TX9 k).2.2.1 = some (tyX9 k) := by decide +kernel
abbrev cX9_init : ByteArray := prog_1_method_1_code
def yX9_init : MethodName := ⟨RX9, "<init>", "()V"⟩
abbrev cX9_feed : ByteArray := prog_1_method_2_code
def yX9_feed : MethodName := ⟨RX9, "feed", "(IIIII)I"⟩
abbrev cX9_putBytes : ByteArray := prog_1_method_3_code
def yX9_putBytes : MethodName := ⟨RX9, "putBytes", "(I)V"⟩
abbrev cX9_village : ByteArray := prog_1_method_4_code
def yX9_village : MethodName := ⟨RX9, "village", "(I)I"⟩
abbrev cX9_takeTape : ByteArray := prog_1_method_5_code
def yX9_takeTape : MethodName := ⟨RX9, "takeTape", "(I)V"⟩
abbrev cX9_fault : ByteArray := prog_1_method_6_code
def yX9_fault : MethodName := ⟨RX9, "fault", "()I"⟩
abbrev cX9_count : ByteArray := prog_1_method_7_code
def yX9_count : MethodName := ⟨RX9, "count", "(I)I"⟩
abbrev cX9_where : ByteArray := prog_1_method_8_code
def yX9_where : MethodName := ⟨RX9, "where", "(II)I"⟩
abbrev cX9_needPerson : ByteArray := prog_1_method_9_code
def yX9_needPerson : MethodName := ⟨RX9, "needPerson", "(I)V"⟩
abbrev cX9_needHour : ByteArray := prog_1_method_10_code
def yX9_needHour : MethodName := ⟨RX9, "needHour", "(I)V"⟩
abbrev cX9_needThing : ByteArray := prog_1_method_11_code
def yX9_needThing : MethodName := ⟨RX9, "needThing", "(I)V"⟩
abbrev cX9_thing : ByteArray := prog_1_method_12_code
def yX9_thing : MethodName := ⟨RX9, "thing", "(II)I"⟩
abbrev cX9_hasBit : ByteArray := prog_1_method_13_code
def yX9_hasBit : MethodName := ⟨RX9, "hasBit", "(II)Z"⟩
abbrev cX9_word : ByteArray := prog_1_method_14_code
def yX9_word : MethodName := ⟨RX9, "word", "(IIII)I"⟩
abbrev cX9_apart : ByteArray := prog_1_method_15_code
def yX9_apart : MethodName := ⟨RX9, "apart", "(I)I"⟩
abbrev cX9_way : ByteArray := prog_1_method_16_code
def yX9_way : MethodName := ⟨RX9, "way", "(I)I"⟩
abbrev cX9_say : ByteArray := prog_1_method_17_code
def yX9_say : MethodName := ⟨RX9, "say", "(IIIIZ)I"⟩
abbrev cX9_utter : ByteArray := prog_1_method_18_code
def yX9_utter : MethodName := ⟨RX9, "utter", "(III)I"⟩
abbrev cX9_unsay : ByteArray := prog_1_method_19_code
def yX9_unsay : MethodName := ⟨RX9, "unsay", "()I"⟩
abbrev cX9_saying : ByteArray := prog_1_method_20_code
def yX9_saying : MethodName := ⟨RX9, "saying", "(II)I"⟩
abbrev cX9_could : ByteArray := prog_1_method_21_code
def yX9_could : MethodName := ⟨RX9, "could", "(IIIZ)I"⟩
abbrev cX9_wrong : ByteArray := prog_1_method_22_code
def yX9_wrong : MethodName := ⟨RX9, "wrong", "(I)I"⟩
abbrev cX9_mend : ByteArray := prog_1_method_23_code
def yX9_mend : MethodName := ⟨RX9, "mend", "()I"⟩
abbrev cX9_mended : ByteArray := prog_1_method_24_code
def yX9_mended : MethodName := ⟨RX9, "mended", "(I)I"⟩
abbrev cX9_silence : ByteArray := prog_1_method_25_code
def yX9_silence : MethodName := ⟨RX9, "silence", "(II)I"⟩
abbrev cX9_likely : ByteArray := prog_1_method_26_code
def yX9_likely : MethodName := ⟨RX9, "likely", "(II)I"⟩
abbrev cX9_worlds : ByteArray := prog_1_method_27_code
def yX9_worlds : MethodName := ⟨RX9, "worlds", "(I)I"⟩
abbrev cX9_tell : ByteArray := prog_1_method_28_code
def yX9_tell : MethodName := ⟨RX9, "tell", "(IIZ)I"⟩
abbrev cX9_known : ByteArray := prog_1_method_29_code
def yX9_known : MethodName := ⟨RX9, "known", "(IIIZ)Z"⟩
abbrev cX9_image : ByteArray := prog_1_method_30_code
def yX9_image : MethodName := ⟨RX9, "image", "()V"⟩
abbrev cX9_restore : ByteArray := prog_1_method_31_code
def yX9_restore : MethodName := ⟨RX9, "restore", "()Z"⟩
abbrev cX9_isLetter : ByteArray := prog_1_method_32_code
def yX9_isLetter : MethodName := ⟨RX9, "isLetter", "(B)Z"⟩
abbrev cX9_isDigit : ByteArray := prog_1_method_33_code
def yX9_isDigit : MethodName := ⟨RX9, "isDigit", "(B)Z"⟩
abbrev cX9_isBlank : ByteArray := prog_1_method_34_code
def yX9_isBlank : MethodName := ⟨RX9, "isBlank", "(B)Z"⟩
abbrev cX9_areSame : ByteArray := prog_1_method_35_code
def yX9_areSame : MethodName := ⟨RX9, "areSame", "([BI[BII)Z"⟩
def RX10 : String := "EndingTownModel"
def TX10 : u_T := fun k => match k with
  | 0 => ("EndingTownModel", "thrown", "I", false)
  | 1 => ("EndingTownModel", "stems", "I", false)
  | 2 => ("EndingTownModel", "changes", "I", false)
  | 3 => ("EndingTownModel", "places", "I", false)
  | 4 => ("EndingTownModel", "people", "I", false)
  | 5 => ("EndingTownModel", "things", "I", false)
  | 6 => ("EndingTownModel", "rules", "I", false)
  | 7 => ("EndingTownModel", "stem", "[I", true)
  | 8 => ("EndingTownModel", "ending", "[I", true)
  | 9 => ("EndingTownModel", "change", "[I", true)
  | 10 => ("EndingTownModel", "not", "[I", true)
  | 11 => ("EndingTownModel", "thing", "[I", true)
  | 12 => ("EndingTownModel", "rule", "[I", true)
  | 13 => ("EndingTownModel", "near", "[I", true)
  | 14 => ("EndingTownModel", "where", "[I", true)
  | 15 => ("EndingTownModel", "weigh", "[I", true)
  | 16 => ("EndingTownModel", "tape", "[I", true)
  | 17 => ("EndingTownModel", "taped", "I", false)
  | 18 => ("EndingTownModel", "faultKind", "I", false)
  | 19 => ("EndingTownModel", "faultPlace", "I", false)
  | 20 => ("EndingTownModel", "refused", "[I", true)
  | 21 => ("EndingTownModel", "size", "I", false)
  | 22 => ("EndingTownModel", "next", "I", false)
  | 23 => ("EndingTownModel", "sort", "I", false)
  | 24 => ("EndingTownModel", "place", "I", false)
  | 25 => ("EndingTownModel", "long0", "I", false)
  | 26 => ("EndingTownModel", "value", "I", false)
  | 27 => ("EndingTownModel", "word", "J", false)
  | 28 => ("EndingTownModel", "newStems", "I", false)
  | 29 => ("EndingTownModel", "newChanges", "I", false)
  | 30 => ("EndingTownModel", "newPlaces", "I", false)
  | 31 => ("EndingTownModel", "newPeople", "I", false)
  | 32 => ("EndingTownModel", "newThings", "I", false)
  | 33 => ("EndingTownModel", "newRules", "I", false)
  | 34 => ("EndingTownModel", "hasNot", "Z", false)
  | 35 => ("EndingTownModel", "hasPlaces", "Z", false)
  | 36 => ("EndingTownModel", "hasOthers", "Z", false)
  | 37 => ("EndingTownModel", "newStem", "[I", true)
  | 38 => ("EndingTownModel", "newEnding", "[I", true)
  | 39 => ("EndingTownModel", "newChange", "[I", true)
  | 40 => ("EndingTownModel", "newNot", "[I", true)
  | 41 => ("EndingTownModel", "newThing", "[I", true)
  | 42 => ("EndingTownModel", "newRule", "[I", true)
  | 43 => ("EndingTownModel", "newNear", "[I", true)
  | 44 => ("EndingTownModel", "newWhere", "[I", true)
  | 45 => ("EndingTownModel", "newWeigh", "[I", true)
  | 46 => ("EndingTownModel", "spoken", "[I", true)
  | 47 => ("EndingTownModel", "way", "[I", true)
  | 48 => ("EndingTownModel", "spokenLong", "I", false)
  | 49 => ("EndingTownModel", "ways", "I", false)
  | 50 => ("EndingTownModel", "sayings", "I", false)
  | 51 => ("EndingTownModel", "said", "[I", true)
  | 52 => ("EndingTownModel", "wayKept", "[I", true)
  | 53 => ("EndingTownModel", "round", "[I", true)
  | 54 => ("EndingTownModel", "takes", "[I", true)
  | 55 => ("EndingTownModel", "pairWho", "[I", true)
  | 56 => ("EndingTownModel", "pairHour", "[I", true)
  | 57 => ("EndingTownModel", "pairOf", "[I", true)
  | 58 => ("EndingTownModel", "could", "[I", true)
  | 59 => ("EndingTownModel", "pairs", "I", false)
  | 60 => ("EndingTownModel", "there", "I", false)
  | 61 => ("EndingTownModel", "changed", "I", false)
  | 62 => ("EndingTownModel", "firstHow", "I", false)
  | 63 => ("EndingTownModel", "eyes", "[I", true)
  | 64 => ("EndingTownModel", "couldEyes", "[I", true)
  | 65 => ("EndingTownModel", "mendLong", "I", false)
  | 66 => ("EndingTownModel", "mend", "[I", true)
  | 67 => ("EndingTownModel", "worldThings", "I", false)
  | 68 => ("EndingTownModel", "left", "I", false)
  | 69 => ("EndingTownModel", "hasImage", "Z", false)
  | 70 => ("EndingTownModel", "imageSayings", "I", false)
  | 71 => ("EndingTownModel", "imageThings", "I", false)
  | 72 => ("EndingTownModel", "imageLeft", "I", false)
  | _ => ("EndingTownModel", "imageSaid", "[I", true)
def tyX10 : Nat → FieldType := fun k => match k with
  | 0 => .int
  | 1 => .int
  | 2 => .int
  | 3 => .int
  | 4 => .int
  | 5 => .int
  | 6 => .int
  | 7 => .array .int
  | 8 => .array .int
  | 9 => .array .int
  | 10 => .array .int
  | 11 => .array .int
  | 12 => .array .int
  | 13 => .array .int
  | 14 => .array .int
  | 15 => .array .int
  | 16 => .array .int
  | 17 => .int
  | 18 => .int
  | 19 => .int
  | 20 => .array .int
  | 21 => .int
  | 22 => .int
  | 23 => .int
  | 24 => .int
  | 25 => .int
  | 26 => .int
  | 27 => .long
  | 28 => .int
  | 29 => .int
  | 30 => .int
  | 31 => .int
  | 32 => .int
  | 33 => .int
  | 34 => .boolean
  | 35 => .boolean
  | 36 => .boolean
  | 37 => .array .int
  | 38 => .array .int
  | 39 => .array .int
  | 40 => .array .int
  | 41 => .array .int
  | 42 => .array .int
  | 43 => .array .int
  | 44 => .array .int
  | 45 => .array .int
  | 46 => .array .int
  | 47 => .array .int
  | 48 => .int
  | 49 => .int
  | 50 => .int
  | 51 => .array .int
  | 52 => .array .int
  | 53 => .array .int
  | 54 => .array .int
  | 55 => .array .int
  | 56 => .array .int
  | 57 => .array .int
  | 58 => .array .int
  | 59 => .int
  | 60 => .int
  | 61 => .int
  | 62 => .int
  | 63 => .array .int
  | 64 => .array .int
  | 65 => .int
  | 66 => .array .int
  | 67 => .int
  | 68 => .int
  | 69 => .boolean
  | 70 => .int
  | 71 => .int
  | 72 => .int
  | _ => .array .int
abbrev wsX100 : List Cond := u_ws RX10 TX10 74
theorem nmX10 : ∀ a, a < 74 → ∀ b, b < 74 → a ≠ b → (TX10 a).2.1 ≠ (TX10 b).2.1 := by decide +kernel
theorem tyX10_ok : ∀ k, k < 74 → parseFieldDescriptor (TX10 k).2.2.1 = some (tyX10 k) := by decide +kernel
abbrev cX10_init : ByteArray := prog_12_method_1_code
def yX10_init : MethodName := ⟨RX10, "<init>", "()V"⟩
abbrev cX10_thrown : ByteArray := prog_12_method_2_code
def yX10_thrown : MethodName := ⟨RX10, "thrown", "()I"⟩
abbrev cX10_right : ByteArray := prog_12_method_3_code
def yX10_right : MethodName := ⟨RX10, "right", "(ZI)Z"⟩
abbrev cX10_within : ByteArray := prog_12_method_4_code
def yX10_within : MethodName := ⟨RX10, "within", "(III)Z"⟩
abbrev cX10_copies : ByteArray := prog_12_method_5_code
def yX10_copies : MethodName := ⟨RX10, "copies", "([I[I)V"⟩
abbrev cX10_feed : ByteArray := prog_12_method_6_code
def yX10_feed : MethodName := ⟨RX10, "feed", "(IIIII)I"⟩
abbrev cX10_lays : ByteArray := prog_12_method_7_code
def yX10_lays : MethodName := ⟨RX10, "lays", "(I)V"⟩
abbrev cX10_byteAt : ByteArray := prog_12_method_8_code
def yX10_byteAt : MethodName := ⟨RX10, "byteAt", "(I)I"⟩
abbrev cX10_isLetter : ByteArray := prog_12_method_9_code
def yX10_isLetter : MethodName := ⟨RX10, "isLetter", "(I)Z"⟩
abbrev cX10_isDigit : ByteArray := prog_12_method_10_code
def yX10_isDigit : MethodName := ⟨RX10, "isDigit", "(I)Z"⟩
abbrev cX10_steps : ByteArray := prog_12_method_11_code
def yX10_steps : MethodName := ⟨RX10, "steps", "()V"⟩
abbrev cX10_spelled : ByteArray := prog_12_method_12_code
def yX10_spelled : MethodName := ⟨RX10, "spelled", "(IIIIII)J"⟩
abbrev cX10_letters : ByteArray := prog_12_method_13_code
def yX10_letters : MethodName := ⟨RX10, "letters", "(I)J"⟩
abbrev cX10_is : ByteArray := prog_12_method_14_code
def yX10_is : MethodName := ⟨RX10, "is", "(I)Z"⟩
abbrev cX10_faults : ByteArray := prog_12_method_15_code
def yX10_faults : MethodName := ⟨RX10, "faults", "(I)V"⟩
abbrev cX10_isGood : ByteArray := prog_12_method_16_code
def yX10_isGood : MethodName := ⟨RX10, "isGood", "()Z"⟩
abbrev cX10_need : ByteArray := prog_12_method_17_code
def yX10_need : MethodName := ⟨RX10, "need", "(Z)V"⟩
abbrev cX10_number : ByteArray := prog_12_method_18_code
def yX10_number : MethodName := ⟨RX10, "number", "(II)I"⟩
abbrev cX10_amongHere : ByteArray := prog_12_method_19_code
def yX10_amongHere : MethodName := ⟨RX10, "amongHere", "(I)Z"⟩
abbrev cX10_among : ByteArray := prog_12_method_20_code
def yX10_among : MethodName := ⟨RX10, "among", "(I)I"⟩
abbrev cX10_word0 : ByteArray := prog_12_method_21_code
def yX10_word0 : MethodName := ⟨RX10, "word0", "([II)V"⟩
abbrev cX10_readsEnding : ByteArray := prog_12_method_22_code
def yX10_readsEnding : MethodName := ⟨RX10, "readsEnding", "()V"⟩
abbrev cX10_readsNear : ByteArray := prog_12_method_23_code
def yX10_readsNear : MethodName := ⟨RX10, "readsNear", "()V"⟩
abbrev cX10_readsThing : ByteArray := prog_12_method_24_code
def yX10_readsThing : MethodName := ⟨RX10, "readsThing", "()V"⟩
abbrev cX10_readsRule : ByteArray := prog_12_method_25_code
def yX10_readsRule : MethodName := ⟨RX10, "readsRule", "()V"⟩
abbrev cX10_readsAt : ByteArray := prog_12_method_26_code
def yX10_readsAt : MethodName := ⟨RX10, "readsAt", "()V"⟩
abbrev cX10_line : ByteArray := prog_12_method_27_code
def yX10_line : MethodName := ⟨RX10, "line", "()V"⟩
abbrev cX10_empties : ByteArray := prog_12_method_28_code
def yX10_empties : MethodName := ⟨RX10, "empties", "()V"⟩
abbrev cX10_village : ByteArray := prog_12_method_29_code
def yX10_village : MethodName := ⟨RX10, "village", "(I)I"⟩
abbrev cX10_fault : ByteArray := prog_12_method_30_code
def yX10_fault : MethodName := ⟨RX10, "fault", "()I"⟩
abbrev cX10_count : ByteArray := prog_12_method_31_code
def yX10_count : MethodName := ⟨RX10, "count", "(I)I"⟩
abbrev cX10_bits : ByteArray := prog_12_method_32_code
def yX10_bits : MethodName := ⟨RX10, "bits", "(I)I"⟩
abbrev cX10_isWho : ByteArray := prog_12_method_33_code
def yX10_isWho : MethodName := ⟨RX10, "isWho", "(II)Z"⟩
abbrev cX10_isThing : ByteArray := prog_12_method_34_code
def yX10_isThing : MethodName := ⟨RX10, "isThing", "(I)Z"⟩
abbrev cX10_where : ByteArray := prog_12_method_35_code
def yX10_where : MethodName := ⟨RX10, "where", "(II)I"⟩
abbrev cX10_thing : ByteArray := prog_12_method_36_code
def yX10_thing : MethodName := ⟨RX10, "thing", "(II)I"⟩
abbrev cX10_ends : ByteArray := prog_12_method_37_code
def yX10_ends : MethodName := ⟨RX10, "ends", "(II)Z"⟩
abbrev cX10_begins : ByteArray := prog_12_method_38_code
def yX10_begins : MethodName := ⟨RX10, "begins", "(II)Z"⟩
abbrev cX10_adds : ByteArray := prog_12_method_39_code
def yX10_adds : MethodName := ⟨RX10, "adds", "(I)V"⟩
abbrev cX10_speaks : ByteArray := prog_12_method_40_code
def yX10_speaks : MethodName := ⟨RX10, "speaks", "(II)V"⟩
abbrev cX10_word : ByteArray := prog_12_method_41_code
def yX10_word : MethodName := ⟨RX10, "word", "(IIII)I"⟩
abbrev cX10_finds : ByteArray := prog_12_method_42_code
def yX10_finds : MethodName := ⟨RX10, "finds", "(II)V"⟩
abbrev cX10_apart : ByteArray := prog_12_method_43_code
def yX10_apart : MethodName := ⟨RX10, "apart", "(I)I"⟩
abbrev cX10_way : ByteArray := prog_12_method_44_code
def yX10_way : MethodName := ⟨RX10, "way", "(I)I"⟩
abbrev cX10_of : ByteArray := prog_12_method_45_code
def yX10_of : MethodName := ⟨RX10, "of", "(II)I"⟩
abbrev cX10_adds5 : ByteArray := prog_12_method_46_code
def yX10_adds5 : MethodName := ⟨RX10, "adds5", "(IIIII)I"⟩
abbrev cX10_refuses : ByteArray := prog_12_method_47_code
def yX10_refuses : MethodName := ⟨RX10, "refuses", "(I)I"⟩
abbrev cX10_say : ByteArray := prog_12_method_48_code
def yX10_say : MethodName := ⟨RX10, "say", "(IIIIZ)I"⟩
abbrev cX10_blanks : ByteArray := prog_12_method_49_code
def yX10_blanks : MethodName := ⟨RX10, "blanks", "(II)I"⟩
abbrev cX10_lettersTo : ByteArray := prog_12_method_50_code
def yX10_lettersTo : MethodName := ⟨RX10, "lettersTo", "(II)I"⟩
abbrev cX10_isNot : ByteArray := prog_12_method_51_code
def yX10_isNot : MethodName := ⟨RX10, "isNot", "(II)Z"⟩
abbrev cX10_utter : ByteArray := prog_12_method_52_code
def yX10_utter : MethodName := ⟨RX10, "utter", "(III)I"⟩
abbrev cX10_unsay : ByteArray := prog_12_method_53_code
def yX10_unsay : MethodName := ⟨RX10, "unsay", "()I"⟩
abbrev cX10_asks : ByteArray := prog_12_method_54_code
def yX10_asks : MethodName := ⟨RX10, "asks", "(II)V"⟩
abbrev cX10_pairAt : ByteArray := prog_12_method_55_code
def yX10_pairAt : MethodName := ⟨RX10, "pairAt", "(II)I"⟩
abbrev cX10_isBy : ByteArray := prog_12_method_56_code
def yX10_isBy : MethodName := ⟨RX10, "isBy", "(IIIII)Z"⟩
abbrev cX10_isTold : ByteArray := prog_12_method_57_code
def yX10_isTold : MethodName := ⟨RX10, "isTold", "(IIIII)Z"⟩
abbrev cX10_byTold : ByteArray := prog_12_method_58_code
def yX10_byTold : MethodName := ⟨RX10, "byTold", "(IIII)I"⟩
abbrev cX10_byRules : ByteArray := prog_12_method_59_code
def yX10_byRules : MethodName := ⟨RX10, "byRules", "(II)I"⟩
abbrev cX10_byHow : ByteArray := prog_12_method_60_code
def yX10_byHow : MethodName := ⟨RX10, "byHow", "(IIII)I"⟩
abbrev cX10_least : ByteArray := prog_12_method_61_code
def yX10_least : MethodName := ⟨RX10, "least", "(III)I"⟩
abbrev cX10_reckons : ByteArray := prog_12_method_62_code
def yX10_reckons : MethodName := ⟨RX10, "reckons", "(II)V"⟩
abbrev cX10_all : ByteArray := prog_12_method_63_code
def yX10_all : MethodName := ⟨RX10, "all", "()I"⟩
abbrev cX10_toldEyes : ByteArray := prog_12_method_64_code
def yX10_toldEyes : MethodName := ⟨RX10, "toldEyes", "(IIII)I"⟩
abbrev cX10_ruleEyes : ByteArray := prog_12_method_65_code
def yX10_ruleEyes : MethodName := ⟨RX10, "ruleEyes", "(II)I"⟩
abbrev cX10_eyesBy : ByteArray := prog_12_method_66_code
def yX10_eyesBy : MethodName := ⟨RX10, "eyesBy", "(IIII)I"⟩
abbrev cX10_looks : ByteArray := prog_12_method_67_code
def yX10_looks : MethodName := ⟨RX10, "looks", "()V"⟩
abbrev cX10_saying : ByteArray := prog_12_method_68_code
def yX10_saying : MethodName := ⟨RX10, "saying", "(II)I"⟩
abbrev cX10_could : ByteArray := prog_12_method_69_code
def yX10_could : MethodName := ⟨RX10, "could", "(IIIZ)I"⟩
abbrev cX10_holding : ByteArray := prog_12_method_70_code
def yX10_holding : MethodName := ⟨RX10, "holding", "(I)I"⟩
abbrev cX10_wrong : ByteArray := prog_12_method_71_code
def yX10_wrong : MethodName := ⟨RX10, "wrong", "(I)I"⟩
abbrev cX10_mend : ByteArray := prog_12_method_72_code
def yX10_mend : MethodName := ⟨RX10, "mend", "()I"⟩
abbrev cX10_mended : ByteArray := prog_12_method_73_code
def yX10_mended : MethodName := ⟨RX10, "mended", "(I)I"⟩
abbrev cX10_silence : ByteArray := prog_12_method_74_code
def yX10_silence : MethodName := ⟨RX10, "silence", "(II)I"⟩
abbrev cX10_likely : ByteArray := prog_12_method_75_code
def yX10_likely : MethodName := ⟨RX10, "likely", "(II)I"⟩
abbrev cX10_low : ByteArray := prog_12_method_76_code
def yX10_low : MethodName := ⟨RX10, "low", "(II)I"⟩
abbrev cX10_worlds : ByteArray := prog_12_method_77_code
def yX10_worlds : MethodName := ⟨RX10, "worlds", "(I)I"⟩
abbrev cX10_placeOf : ByteArray := prog_12_method_78_code
def yX10_placeOf : MethodName := ⟨RX10, "placeOf", "(I)I"⟩
abbrev cX10_real : ByteArray := prog_12_method_79_code
def yX10_real : MethodName := ⟨RX10, "real", "()I"⟩
abbrev cX10_seenBy : ByteArray := prog_12_method_80_code
def yX10_seenBy : MethodName := ⟨RX10, "seenBy", "(I)I"⟩
abbrev cX10_knows : ByteArray := prog_12_method_81_code
def yX10_knows : MethodName := ⟨RX10, "knows", "(II)I"⟩
abbrev cX10_worldsOf : ByteArray := prog_12_method_82_code
def yX10_worldsOf : MethodName := ⟨RX10, "worldsOf", "(IZ)I"⟩
abbrev cX10_tell : ByteArray := prog_12_method_83_code
def yX10_tell : MethodName := ⟨RX10, "tell", "(IIZ)I"⟩
abbrev cX10_known : ByteArray := prog_12_method_84_code
def yX10_known : MethodName := ⟨RX10, "known", "(IIIZ)Z"⟩
abbrev cX10_image : ByteArray := prog_12_method_85_code
def yX10_image : MethodName := ⟨RX10, "image", "()V"⟩
abbrev cX10_restore : ByteArray := prog_12_method_86_code
def yX10_restore : MethodName := ⟨RX10, "restore", "()Z"⟩
def RJ6 : String := "java/lang/Integer"
abbrev cJ6_bitCount_0f7a4 : ByteArray := prog_18_method_49_code
def yJ6_bitCount_0f7a4 : MethodName := ⟨RJ6, "bitCount", "(I)I"⟩
def RJ9 : String := "java/lang/Math"
abbrev cJ9_min_7cf53 : ByteArray := prog_19_method_69_code
def yJ9_min_7cf53 : MethodName := ⟨RJ9, "min", "(II)I"⟩
def RJ0 : String := "java/lang/String"
abbrev cJ0_length_8abf5 : ByteArray := prog_21_method_54_code
def yJ0_length_8abf5 : MethodName := ⟨RJ0, "length", "()I"⟩
abbrev cJ0_charAt_5068e : ByteArray := prog_21_method_56_code
def yJ0_charAt_5068e : MethodName := ⟨RJ0, "charAt", "(I)C"⟩
abbrev cJ0_coder_7d493 : ByteArray := prog_21_method_152_code
def yJ0_coder_7d493 : MethodName := ⟨RJ0, "coder", "()B"⟩
abbrev cJ0_isLatin1_aae02 : ByteArray := prog_21_method_154_code
def yJ0_isLatin1_aae02 : MethodName := ⟨RJ0, "isLatin1", "()Z"⟩
abbrev cJ0_checkIndex_df160 : ByteArray := prog_21_method_155_code
def yJ0_checkIndex_df160 : MethodName := ⟨RJ0, "checkIndex", "(II)V"⟩
def RJ1 : String := "java/lang/StringLatin1"
abbrev cJ1_charAt_3b067 : ByteArray := prog_22_method_2_code
def yJ1_charAt_3b067 : MethodName := ⟨RJ1, "charAt", "([BI)C"⟩
def RJ2 : String := "java/lang/StringUTF16"
abbrev cJ2_getChar_3b067 : ByteArray := prog_23_method_5_code
def yJ2_getChar_3b067 : MethodName := ⟨RJ2, "getChar", "([BI)C"⟩
abbrev cJ2_length_9d52b : ByteArray := prog_23_method_6_code
def yJ2_length_9d52b : MethodName := ⟨RJ2, "length", "([B)I"⟩
abbrev cJ2_charAt_3b067 : ByteArray := prog_23_method_83_code
def yJ2_charAt_3b067 : MethodName := ⟨RJ2, "charAt", "([BI)C"⟩
abbrev cJ2_checkIndex_2214a : ByteArray := prog_23_method_91_code
def yJ2_checkIndex_2214a : MethodName := ⟨RJ2, "checkIndex", "(I[B)V"⟩
def RJ10 : String := "java/lang/System"
def RJ7 : String := "java/util/Arrays"
abbrev cJ7_fill_53178 : ByteArray := prog_28_method_103_code
def yJ7_fill_53178 : MethodName := ⟨RJ7, "fill", "([II)V"⟩
def RJ3 : String := "jdk/internal/util/Preconditions"
abbrev cJ3_checkIndex_8e157 : ByteArray := prog_30_method_11_code
def yJ3_checkIndex_8e157 : MethodName := ⟨RJ3, "checkIndex", "(IILjava/util/function/BiFunction;)I"⟩
def RL : String := "EndingTownLaw"
abbrev cL_village : ByteArray := method_3_code
def yL_village : MethodName := ⟨RL, "village", "(LEndingTown;I[J)I"⟩
abbrev cL_count : ByteArray := method_4_code
def yL_count : MethodName := ⟨RL, "count", "(LEndingTown;I[J)I"⟩
abbrev cL_where : ByteArray := method_5_code
def yL_where : MethodName := ⟨RL, "where", "(LEndingTown;II[J)I"⟩
abbrev cL_thing : ByteArray := method_6_code
def yL_thing : MethodName := ⟨RL, "thing", "(LEndingTown;II[J)I"⟩
abbrev cL_word : ByteArray := method_7_code
def yL_word : MethodName := ⟨RL, "word", "(LEndingTown;IIII[J)I"⟩
abbrev cL_apart : ByteArray := method_8_code
def yL_apart : MethodName := ⟨RL, "apart", "(LEndingTown;I[J)I"⟩
abbrev cL_way : ByteArray := method_9_code
def yL_way : MethodName := ⟨RL, "way", "(LEndingTown;I[J)I"⟩
abbrev cL_say : ByteArray := method_10_code
def yL_say : MethodName := ⟨RL, "say", "(LEndingTown;IIIIZ[J)I"⟩
abbrev cL_utter : ByteArray := method_11_code
def yL_utter : MethodName := ⟨RL, "utter", "(LEndingTown;III[J)I"⟩
abbrev cL_saying : ByteArray := method_12_code
def yL_saying : MethodName := ⟨RL, "saying", "(LEndingTown;II[J)I"⟩
abbrev cL_could : ByteArray := method_13_code
def yL_could : MethodName := ⟨RL, "could", "(LEndingTown;IIIZ[J)I"⟩
abbrev cL_wrong : ByteArray := method_14_code
def yL_wrong : MethodName := ⟨RL, "wrong", "(LEndingTown;I[J)I"⟩
abbrev cL_mended : ByteArray := method_15_code
def yL_mended : MethodName := ⟨RL, "mended", "(LEndingTown;I[J)I"⟩
abbrev cL_silence : ByteArray := method_16_code
def yL_silence : MethodName := ⟨RL, "silence", "(LEndingTown;II[J)I"⟩
abbrev cL_likely : ByteArray := method_17_code
def yL_likely : MethodName := ⟨RL, "likely", "(LEndingTown;II[J)I"⟩
abbrev cL_worlds : ByteArray := method_18_code
def yL_worlds : MethodName := ⟨RL, "worlds", "(LEndingTown;I[J)I"⟩
abbrev cL_tell : ByteArray := method_19_code
def yL_tell : MethodName := ⟨RL, "tell", "(LEndingTown;IIZ[J)I"⟩
abbrev cL_known : ByteArray := method_20_code
def yL_known : MethodName := ⟨RL, "known", "(LEndingTown;IIIZ[J)I"⟩
abbrev cL_law : ByteArray := code
def yL_law : MethodName := ⟨RL, "law", "([I)Z"⟩
abbrev vwCl : List vw_C := [(RX0, TX0, 17), (RX1, TX1, 6), (RX2, TX2, 4), (RX3, TX3, 3), (RX4, TX4, 11), (RX5, TX5, 6), (RX6, TX6, 15), (RX7, TX7, 7), (RX8, TX8, 2), (RX9, TX9, 18), (RX10, TX10, 74)]
end
section
abbrev et_S : Type := (FieldType × Nat) ⊕ (Nat × List Nat)
/-- every cell of the system, of the reference and of the law: arrays (type, length), objects (which of vwCl; a field: 0 a number, 1 a long, r + 2 the cell r) -/
def et_lay : List et_S := [
  .inr (9, [3, 0, 4, 17, 30, 31, 33, 36, 42, 48, 49, 0, 50, 61, 0, 0, 0, 0]), -- 0 x
  .inl (.byte, 800), -- 1 x.tape
  .inr (6, [5, 0, 9, 0, 10, 0, 11, 12, 13, 0, 0, 0, 14, 15, 16]), -- 2 x.town
  .inr (5, [6, 7, 0, 0, 8, 0]), -- 3 x.town.tongue
  .inl (.byte, 368), -- 4 x.town.tongue.letters
  .inl (.int, 46), -- 5 x.town.tongue.length
  .inl (.byte, 24), -- 6 x.town.tongue.made
  .inl (.int, 6), -- 7 x.town.near
  .inl (.int, 144), -- 8 x.town.stays
  .inl (.int, 8), -- 9 x.town.stemOf
  .inl (.int, 8), -- 10 x.town.placeOf
  .inl (.int, 8), -- 11 x.town.hourOf
  .inl (.int, 6), -- 12 x.town.head
  .inl (.int, 6), -- 13 x.town.tail
  .inl (.int, 10), -- 14 x.town.chances
  .inr (6, [18, 0, 22, 0, 23, 0, 24, 25, 26, 0, 0, 0, 27, 28, 29]), -- 15 x.draft
  .inr (5, [19, 20, 0, 0, 21, 0]), -- 16 x.draft.tongue
  .inl (.byte, 368), -- 17 x.draft.tongue.letters
  .inl (.int, 46), -- 18 x.draft.tongue.length
  .inl (.byte, 24), -- 19 x.draft.tongue.made
  .inl (.int, 6), -- 20 x.draft.near
  .inl (.int, 144), -- 21 x.draft.stays
  .inl (.int, 8), -- 22 x.draft.stemOf
  .inl (.int, 8), -- 23 x.draft.placeOf
  .inl (.int, 8), -- 24 x.draft.hourOf
  .inl (.int, 6), -- 25 x.draft.head
  .inl (.int, 6), -- 26 x.draft.tail
  .inl (.int, 10), -- 27 x.draft.chances
  .inr (4, [3, 0, 0, 0, 0, 0, 0, 0, 0, 0, 0]), -- 28 x.reader
  .inr (8, [32, 0]), -- 29 x.ways
  .inl (.int, 180), -- 30 x.ways.rows
  .inr (7, [3, 34, 0, 0, 0, 0, 0]), -- 31 x.utterance
  .inr (8, [35, 0]), -- 32 x.utterance.ways
  .inl (.int, 180), -- 33 x.utterance.ways.rows
  .inr (1, [0, 37, 38, 39, 40, 41]), -- 34 x.ledger
  .inl (.int, 20), -- 35 x.ledger.person
  .inl (.int, 20), -- 36 x.ledger.hour
  .inl (.int, 20), -- 37 x.ledger.thing
  .inl (.int, 20), -- 38 x.ledger.how
  .inl (.boolean, 20), -- 39 x.ledger.not
  .inr (1, [0, 43, 44, 45, 46, 47]), -- 40 x.keptLedger
  .inl (.int, 20), -- 41 x.keptLedger.person
  .inl (.int, 20), -- 42 x.keptLedger.hour
  .inl (.int, 20), -- 43 x.keptLedger.thing
  .inl (.int, 20), -- 44 x.keptLedger.how
  .inl (.boolean, 20), -- 45 x.keptLedger.not
  .inr (3, [4, 0, 0]), -- 46 x.minds
  .inr (3, [4, 0, 0]), -- 47 x.keptMinds
  .inr (0, [4, 36, 51, 52, 53, 54, 55, 56, 57, 58, 59, 60, 0, 0, 0, 0, 0]), -- 48 x.ground
  .inl (.int, 20), -- 49 x.ground.heard
  .inl (.int, 20), -- 50 x.ground.bare
  .inl (.int, 20), -- 51 x.ground.ownHows
  .inl (.int, 16), -- 52 x.ground.about
  .inl (.int, 20), -- 53 x.ground.tellers
  .inl (.int, 20), -- 54 x.ground.can
  .inl (.int, 20), -- 55 x.ground.chain
  .inl (.int, 20), -- 56 x.ground.risenBy
  .inl (.int, 20), -- 57 x.ground.eyes
  .inl (.int, 160), -- 58 x.ground.thingEyes
  .inr (2, [50, 36, 62, 0]), -- 59 x.mender
  .inl (.int, 12), -- 60 x.mender.hows
  .inr (10, [0, 0, 0, 0, 0, 0, 0, 64, 65, 66, 67, 68, 69, 70, 71, 72, 73, 0, 0, 0, 74, 0, 0, 0, 0, 0, 0, 1, 0, 0, 0, 0, 0, 0, 0, 0, 0, 75, 76, 77, 78, 79, 80, 81, 82, 83, 84, 85, 0, 0, 0, 86, 87, 88, 89, 90, 91, 92, 93, 0, 0, 0, 0, 94, 95, 0, 96, 0, 0, 0, 0, 0, 0, 97]), -- 61 m
  .inl (.int, 108), -- 62 m.stem
  .inl (.int, 135), -- 63 m.ending
  .inl (.int, 162), -- 64 m.change
  .inl (.int, 9), -- 65 m.not
  .inl (.int, 40), -- 66 m.thing
  .inl (.int, 30), -- 67 m.rule
  .inl (.int, 6), -- 68 m.near
  .inl (.int, 144), -- 69 m.where
  .inl (.int, 10), -- 70 m.weigh
  .inl (.int, 800), -- 71 m.tape
  .inl (.int, 3), -- 72 m.refused
  .inl (.int, 108), -- 73 m.newStem
  .inl (.int, 135), -- 74 m.newEnding
  .inl (.int, 162), -- 75 m.newChange
  .inl (.int, 9), -- 76 m.newNot
  .inl (.int, 40), -- 77 m.newThing
  .inl (.int, 30), -- 78 m.newRule
  .inl (.int, 6), -- 79 m.newNear
  .inl (.int, 144), -- 80 m.newWhere
  .inl (.int, 10), -- 81 m.newWeigh
  .inl (.int, 32), -- 82 m.spoken
  .inl (.int, 180), -- 83 m.way
  .inl (.int, 100), -- 84 m.said
  .inl (.int, 180), -- 85 m.wayKept
  .inl (.int, 20), -- 86 m.round
  .inl (.int, 20), -- 87 m.takes
  .inl (.int, 21), -- 88 m.pairWho
  .inl (.int, 21), -- 89 m.pairHour
  .inl (.int, 20), -- 90 m.pairOf
  .inl (.int, 168), -- 91 m.could
  .inl (.int, 20), -- 92 m.eyes
  .inl (.int, 168), -- 93 m.couldEyes
  .inl (.int, 20), -- 94 m.mend
  .inl (.int, 100), -- 95 m.imageSaid
  .inl (.long, 1) -- 96 out
]
theorem ly_0 : et_lay[0]? = some (.inr (9, [3, 0, 4, 17, 30, 31, 33, 36, 42, 48, 49, 0, 50, 61, 0, 0, 0, 0])) := rfl
theorem ly_1 : et_lay[1]? = some (.inl (.byte, 800)) := rfl
theorem ly_2 : et_lay[2]? = some (.inr (6, [5, 0, 9, 0, 10, 0, 11, 12, 13, 0, 0, 0, 14, 15, 16])) := rfl
theorem ly_3 : et_lay[3]? = some (.inr (5, [6, 7, 0, 0, 8, 0])) := rfl
theorem ly_4 : et_lay[4]? = some (.inl (.byte, 368)) := rfl
theorem ly_5 : et_lay[5]? = some (.inl (.int, 46)) := rfl
theorem ly_6 : et_lay[6]? = some (.inl (.byte, 24)) := rfl
theorem ly_7 : et_lay[7]? = some (.inl (.int, 6)) := rfl
theorem ly_8 : et_lay[8]? = some (.inl (.int, 144)) := rfl
theorem ly_9 : et_lay[9]? = some (.inl (.int, 8)) := rfl
theorem ly_10 : et_lay[10]? = some (.inl (.int, 8)) := rfl
theorem ly_11 : et_lay[11]? = some (.inl (.int, 8)) := rfl
theorem ly_12 : et_lay[12]? = some (.inl (.int, 6)) := rfl
theorem ly_13 : et_lay[13]? = some (.inl (.int, 6)) := rfl
theorem ly_14 : et_lay[14]? = some (.inl (.int, 10)) := rfl
theorem ly_15 : et_lay[15]? = some (.inr (6, [18, 0, 22, 0, 23, 0, 24, 25, 26, 0, 0, 0, 27, 28, 29])) := rfl
theorem ly_16 : et_lay[16]? = some (.inr (5, [19, 20, 0, 0, 21, 0])) := rfl
theorem ly_17 : et_lay[17]? = some (.inl (.byte, 368)) := rfl
theorem ly_18 : et_lay[18]? = some (.inl (.int, 46)) := rfl
theorem ly_19 : et_lay[19]? = some (.inl (.byte, 24)) := rfl
theorem ly_20 : et_lay[20]? = some (.inl (.int, 6)) := rfl
theorem ly_21 : et_lay[21]? = some (.inl (.int, 144)) := rfl
theorem ly_22 : et_lay[22]? = some (.inl (.int, 8)) := rfl
theorem ly_23 : et_lay[23]? = some (.inl (.int, 8)) := rfl
theorem ly_24 : et_lay[24]? = some (.inl (.int, 8)) := rfl
theorem ly_25 : et_lay[25]? = some (.inl (.int, 6)) := rfl
theorem ly_26 : et_lay[26]? = some (.inl (.int, 6)) := rfl
theorem ly_27 : et_lay[27]? = some (.inl (.int, 10)) := rfl
theorem ly_28 : et_lay[28]? = some (.inr (4, [3, 0, 0, 0, 0, 0, 0, 0, 0, 0, 0])) := rfl
theorem ly_29 : et_lay[29]? = some (.inr (8, [32, 0])) := rfl
theorem ly_30 : et_lay[30]? = some (.inl (.int, 180)) := rfl
theorem ly_31 : et_lay[31]? = some (.inr (7, [3, 34, 0, 0, 0, 0, 0])) := rfl
theorem ly_32 : et_lay[32]? = some (.inr (8, [35, 0])) := rfl
theorem ly_33 : et_lay[33]? = some (.inl (.int, 180)) := rfl
theorem ly_34 : et_lay[34]? = some (.inr (1, [0, 37, 38, 39, 40, 41])) := rfl
theorem ly_35 : et_lay[35]? = some (.inl (.int, 20)) := rfl
theorem ly_36 : et_lay[36]? = some (.inl (.int, 20)) := rfl
theorem ly_37 : et_lay[37]? = some (.inl (.int, 20)) := rfl
theorem ly_38 : et_lay[38]? = some (.inl (.int, 20)) := rfl
theorem ly_39 : et_lay[39]? = some (.inl (.boolean, 20)) := rfl
theorem ly_40 : et_lay[40]? = some (.inr (1, [0, 43, 44, 45, 46, 47])) := rfl
theorem ly_41 : et_lay[41]? = some (.inl (.int, 20)) := rfl
theorem ly_42 : et_lay[42]? = some (.inl (.int, 20)) := rfl
theorem ly_43 : et_lay[43]? = some (.inl (.int, 20)) := rfl
theorem ly_44 : et_lay[44]? = some (.inl (.int, 20)) := rfl
theorem ly_45 : et_lay[45]? = some (.inl (.boolean, 20)) := rfl
theorem ly_46 : et_lay[46]? = some (.inr (3, [4, 0, 0])) := rfl
theorem ly_47 : et_lay[47]? = some (.inr (3, [4, 0, 0])) := rfl
theorem ly_48 : et_lay[48]? = some (.inr (0, [4, 36, 51, 52, 53, 54, 55, 56, 57, 58, 59, 60, 0, 0, 0, 0, 0])) := rfl
theorem ly_49 : et_lay[49]? = some (.inl (.int, 20)) := rfl
theorem ly_50 : et_lay[50]? = some (.inl (.int, 20)) := rfl
theorem ly_51 : et_lay[51]? = some (.inl (.int, 20)) := rfl
theorem ly_52 : et_lay[52]? = some (.inl (.int, 16)) := rfl
theorem ly_53 : et_lay[53]? = some (.inl (.int, 20)) := rfl
theorem ly_54 : et_lay[54]? = some (.inl (.int, 20)) := rfl
theorem ly_55 : et_lay[55]? = some (.inl (.int, 20)) := rfl
theorem ly_56 : et_lay[56]? = some (.inl (.int, 20)) := rfl
theorem ly_57 : et_lay[57]? = some (.inl (.int, 20)) := rfl
theorem ly_58 : et_lay[58]? = some (.inl (.int, 160)) := rfl
theorem ly_59 : et_lay[59]? = some (.inr (2, [50, 36, 62, 0])) := rfl
theorem ly_60 : et_lay[60]? = some (.inl (.int, 12)) := rfl
theorem ly_61 : et_lay[61]? = some (.inr (10, [0, 0, 0, 0, 0, 0, 0, 64, 65, 66, 67, 68, 69, 70, 71, 72, 73, 0, 0, 0, 74, 0, 0, 0, 0, 0, 0, 1, 0, 0, 0, 0, 0, 0, 0, 0, 0, 75, 76, 77, 78, 79, 80, 81, 82, 83, 84, 85, 0, 0, 0, 86, 87, 88, 89, 90, 91, 92, 93, 0, 0, 0, 0, 94, 95, 0, 96, 0, 0, 0, 0, 0, 0, 97])) := rfl
theorem ly_62 : et_lay[62]? = some (.inl (.int, 108)) := rfl
theorem ly_63 : et_lay[63]? = some (.inl (.int, 135)) := rfl
theorem ly_64 : et_lay[64]? = some (.inl (.int, 162)) := rfl
theorem ly_65 : et_lay[65]? = some (.inl (.int, 9)) := rfl
theorem ly_66 : et_lay[66]? = some (.inl (.int, 40)) := rfl
theorem ly_67 : et_lay[67]? = some (.inl (.int, 30)) := rfl
theorem ly_68 : et_lay[68]? = some (.inl (.int, 6)) := rfl
theorem ly_69 : et_lay[69]? = some (.inl (.int, 144)) := rfl
theorem ly_70 : et_lay[70]? = some (.inl (.int, 10)) := rfl
theorem ly_71 : et_lay[71]? = some (.inl (.int, 800)) := rfl
theorem ly_72 : et_lay[72]? = some (.inl (.int, 3)) := rfl
theorem ly_73 : et_lay[73]? = some (.inl (.int, 108)) := rfl
theorem ly_74 : et_lay[74]? = some (.inl (.int, 135)) := rfl
theorem ly_75 : et_lay[75]? = some (.inl (.int, 162)) := rfl
theorem ly_76 : et_lay[76]? = some (.inl (.int, 9)) := rfl
theorem ly_77 : et_lay[77]? = some (.inl (.int, 40)) := rfl
theorem ly_78 : et_lay[78]? = some (.inl (.int, 30)) := rfl
theorem ly_79 : et_lay[79]? = some (.inl (.int, 6)) := rfl
theorem ly_80 : et_lay[80]? = some (.inl (.int, 144)) := rfl
theorem ly_81 : et_lay[81]? = some (.inl (.int, 10)) := rfl
theorem ly_82 : et_lay[82]? = some (.inl (.int, 32)) := rfl
theorem ly_83 : et_lay[83]? = some (.inl (.int, 180)) := rfl
theorem ly_84 : et_lay[84]? = some (.inl (.int, 100)) := rfl
theorem ly_85 : et_lay[85]? = some (.inl (.int, 180)) := rfl
theorem ly_86 : et_lay[86]? = some (.inl (.int, 20)) := rfl
theorem ly_87 : et_lay[87]? = some (.inl (.int, 20)) := rfl
theorem ly_88 : et_lay[88]? = some (.inl (.int, 21)) := rfl
theorem ly_89 : et_lay[89]? = some (.inl (.int, 21)) := rfl
theorem ly_90 : et_lay[90]? = some (.inl (.int, 20)) := rfl
theorem ly_91 : et_lay[91]? = some (.inl (.int, 168)) := rfl
theorem ly_92 : et_lay[92]? = some (.inl (.int, 20)) := rfl
theorem ly_93 : et_lay[93]? = some (.inl (.int, 168)) := rfl
theorem ly_94 : et_lay[94]? = some (.inl (.int, 20)) := rfl
theorem ly_95 : et_lay[95]? = some (.inl (.int, 100)) := rfl
theorem ly_96 : et_lay[96]? = some (.inl (.long, 1)) := rfl
theorem ly_len : et_lay.length = 97 := rfl
end
section
/-! THE WORLD: one picture g of all cells' numbers; what a method does is a function of it -/
abbrev et_G : Type := (Nat → Nat → Int32) × (Nat → Nat → Int64)
/-- the state at the law's entry, the classes' numbers, the array classes, the cells' addresses -/
abbrev et_W : Type := State × va_G × (FieldType → ClassId) × (Nat → Nat)
def et_ad (w : et_W) (k : Nat) : Nat := w.2.2.2 k
def et_ca (w : et_W) (t : FieldType) : ClassId := w.2.2.1 t
def et_A (w : et_W) : Nat → Prop := fun q => w.1.heap.size ≤ q
def et_tys (w : et_W) : List (ClassId × FieldType) := [(et_ca w .int, .int), (et_ca w .byte, .byte), (et_ca w .boolean, .boolean), (et_ca w .long, .long)]
def et_fv (w : et_W) (g : et_G) (k q j : Nat) : Value := match q with
  | 0 => .int (g.1 k j)
  | 1 => .long (g.2 k j)
  | r + 2 => .ref (et_ad w r)
def et_ce (w : et_W) (g : et_G) (k : Nat) (sh : et_S) : va_E := match sh with
  | .inl (.long, n) => .inl (et_ca w .long, n, .inr (.inl (g.2 k)))
  | .inl (t, n) => .inl (et_ca w t, n, .inl (g.1 k))
  | .inr (ci, ks) => .inr (ci, ks.mapIdx (fun j q => et_fv w g k q j))
def et_ws (w : et_W) (g : et_G) : va_W := et_lay.mapIdx (fun k sh => (et_ad w k, et_ce w g k sh))
abbrev et_R (w : et_W) (g : et_G) (H : Heap) : Prop := va_P w.2.1 vwCl (et_ws w g) H
def et_si (g : et_G) (k j : Nat) (x : Int32) : et_G := (fun a => if a = k then upd (g.1 k) j x else g.1 a, g.2)
def et_sl (g : et_G) (k j : Nat) (x : Int64) : et_G := (g.1, fun a => if a = k then vp_updL (g.2 k) j x else g.2 a)
theorem et_at {w : et_W} {g : et_G} {k : Nat} {sh : et_S} (h : et_lay[k]? = some sh) : (et_ws w g)[k]? = some (et_ad w k, et_ce w g k sh) := by
  simp [et_ws, List.getElem?_mapIdx, h]
theorem et_set {w : et_W} {g g2 : et_G} {k : Nat} {sh : et_S} (h : et_lay[k]? = some sh) (hne : ∀ k2, k2 ≠ k → ∀ s2, et_ce w g2 k2 s2 = et_ce w g k2 s2) : (et_ws w g).set k (et_ad w k, et_ce w g2 k sh) = et_ws w g2 := by
  apply List.ext_getElem?
  intro i
  rw [List.getElem?_set]
  by_cases hi : k = i
  · subst hi
    have hlt : k < (et_ws w g).length := (List.getElem?_eq_some_iff.mp (et_at (w := w) (g := g) h)).1
    rw [if_pos rfl, if_pos hlt, et_at h]
  · rw [if_neg hi]
    simp only [et_ws, List.getElem?_mapIdx]
    cases et_lay[i]? with
    | none => rfl
    | some s2 => simp [hne i (fun e => hi e.symm) s2]
theorem et_si_ne {g : et_G} {k j k2 : Nat} {x : Int32} (h : k2 ≠ k) : (et_si g k j x).1 k2 = g.1 k2 := by simp [et_si, h]
theorem et_si_eq {g : et_G} {k j : Nat} {x : Int32} : (et_si g k j x).1 k = upd (g.1 k) j x := by simp [et_si]
theorem et_sl_ne {g : et_G} {k j k2 : Nat} {x : Int64} (h : k2 ≠ k) : (et_sl g k j x).2 k2 = g.2 k2 := by simp [et_sl, h]
theorem et_sl_eq {g : et_G} {k j : Nat} {x : Int64} : (et_sl g k j x).2 k = vp_updL (g.2 k) j x := by simp [et_sl]
theorem et_ce_si {w : et_W} {g : et_G} {k j : Nat} {x : Int32} : ∀ k2, k2 ≠ k → ∀ s2, et_ce w (et_si g k j x) k2 s2 = et_ce w g k2 s2 := by
  intro k2 h s2
  have h1 := et_si_ne (g := g) (j := j) (x := x) h
  have h2 : (et_si g k j x).2 = g.2 := rfl
  have h3 : ∀ q j', et_fv w (et_si g k j x) k2 q j' = et_fv w g k2 q j' := fun q j' => by
    match q with
    | 0 => simp [et_fv, h1]
    | 1 => simp [et_fv, h2]
    | r + 2 => rfl
  cases s2 with
  | inl a =>
    obtain ⟨t, n⟩ := a
    cases t <;> simp [et_ce, h1, h2]
  | inr a => simp [et_ce, h3]
theorem et_ce_sl {w : et_W} {g : et_G} {k j : Nat} {x : Int64} : ∀ k2, k2 ≠ k → ∀ s2, et_ce w (et_sl g k j x) k2 s2 = et_ce w g k2 s2 := by
  intro k2 h s2
  have h1 := et_sl_ne (g := g) (j := j) (x := x) h
  have h2 : (et_sl g k j x).1 = g.1 := rfl
  have h3 : ∀ q j', et_fv w (et_sl g k j x) k2 q j' = et_fv w g k2 q j' := fun q j' => by
    match q with
    | 0 => simp [et_fv, h2]
    | 1 => simp [et_fv, h1]
    | r + 2 => rfl
  cases s2 with
  | inl a =>
    obtain ⟨t, n⟩ := a
    cases t <;> simp [et_ce, h1, h2]
  | inr a => simp [et_ce, h3]
/-- a field's number set: the object's cells -/
theorem et_fs_si {w : et_W} {g : et_G} {k j : Nat} {x : Int32} {ks : List Nat} (h : ks[j]? = some 0) : (ks.mapIdx (fun j q => et_fv w g k q j)).set j (.int x) = ks.mapIdx (fun j2 q => et_fv w (et_si g k j x) k q j2) := by
  apply List.ext_getElem?
  intro i
  rw [List.getElem?_set]
  by_cases hi : j = i
  · subst hi
    have hlt : j < ks.length := (List.getElem?_eq_some_iff.mp h).1
    rw [if_pos rfl, if_pos (by simpa using hlt), List.getElem?_mapIdx, h]
    simp [et_fv, et_si_eq, upd]
  · rw [if_neg hi, List.getElem?_mapIdx, List.getElem?_mapIdx]
    cases ks[i]? with
    | none => rfl
    | some q => match q with
      | 0 => simp [et_fv, et_si_eq, upd, Ne.symm hi]
      | 1 => rfl
      | r + 2 => rfl
theorem et_fs_sl {w : et_W} {g : et_G} {k j : Nat} {x : Int64} {ks : List Nat} (h : ks[j]? = some 1) : (ks.mapIdx (fun j q => et_fv w g k q j)).set j (.long x) = ks.mapIdx (fun j2 q => et_fv w (et_sl g k j x) k q j2) := by
  apply List.ext_getElem?
  intro i
  rw [List.getElem?_set]
  by_cases hi : j = i
  · subst hi
    have hlt : j < ks.length := (List.getElem?_eq_some_iff.mp h).1
    rw [if_pos rfl, if_pos (by simpa using hlt), List.getElem?_mapIdx, h]
    simp [et_fv, et_sl_eq, vp_updL]
  · rw [if_neg hi, List.getElem?_mapIdx, List.getElem?_mapIdx]
    cases ks[i]? with
    | none => rfl
    | some q => match q with
      | 0 => rfl
      | 1 => simp [et_fv, et_sl_eq, vp_updL, Ne.symm hi]
      | r + 2 => rfl
theorem et_fs_at {w : et_W} {g : et_G} {k j q : Nat} {ks : List Nat} (h : ks[j]? = some q) : (ks.mapIdx (fun j q => et_fv w g k q j))[j]? = some (et_fv w g k q j) := by simp [List.getElem?_mapIdx, h]
/-! the strings of the reader -/
def et_txt : List String := ["stem", "ending", "change", "not", "places", "near", "person", "thing", "rule", "at", "weigh", "loud", "never"]
def et_six : List Nat := [90, 104, 109, 114, 119, 124, 129, 134, 139, 144, 148, 230, 234]
def et_sln : List Nat := [4, 6, 6, 3, 6, 4, 6, 5, 4, 2, 5, 4, 5]
def et_sby : List (List Int32) := [[115, 116, 101, 109], [101, 110, 100, 105, 110, 103], [99, 104, 97, 110, 103, 101], [110, 111, 116], [112, 108, 97, 99, 101, 115], [110, 101, 97, 114], [112, 101, 114, 115, 111, 110], [116, 104, 105, 110, 103], [114, 117, 108, 101], [97, 116], [119, 101, 105, 103, 104], [108, 111, 117, 100], [110, 101, 118, 101, 114]]
/-- what holds of the world all along: the tables, the cells apart and new, the two statics that an exception reads -/
def et_gw (q : Cond) : Bool := goodWord q || (q.onTables && q.keepsFace)
def et_tb : List Cond := lw_tbl.filter et_gw
theorem et_mt {q : Cond} (i : Nat) (h : lw_tbl[i]? = some q) (hg : et_gw q = true) : q ∈ et_tb := List.mem_filter.mpr ⟨List.mem_of_getElem? h, hg⟩
def et_Strs (w : et_W) : Prop := vk_S 13 et_sln et_sby (fun i => et_ad w (1000 + i)) (fun i => et_ad w (2000 + i)) (et_A w) w.1 w.1.heap ∧ (∀ i, i < 13 → vk_R "EndingTown$Reader" (et_six.getD i 0) (et_txt.getD i "") (et_ad w (1000 + i)) w.1) ∧ va_Z "java/lang/String" "COMPACT_STRINGS" "Z" (.int 1) (et_A w) w.1 w.1.heap ∧ va_Zq "jdk/internal/util/Preconditions" "SIOOBE_FORMATTER" "Ljava/util/function/BiFunction;" (et_A w) w.1 w.1.heap ∧ va_Nc "java/lang/IllegalArgumentException" "java/util/NoSuchElementException" w.1
def et_Sane (w : et_W) : Prop := (∃ a0 : Array Value, ∀ q ∈ lw_tbl, q.before a0 w.1 = true) ∧ va_K w.2.1 vwCl (et_tys w) w.1 ∧ (∀ i j, i < et_lay.length → j < et_lay.length → et_ad w i = et_ad w j → i = j) ∧ (∀ i, i < et_lay.length → w.1.heap.size ≤ et_ad w i) ∧
  vx_Zq Bundle.tN "UNASSIGNED_STACK" Bundle.steD (et_A w) w.1 w.1.heap ∧ vx_Zq Bundle.tN "SUPPRESSED_SENTINEL" Bundle.listD (et_A w) w.1 w.1.heap ∧ et_Strs w
/-- a state of this run: the cells that were there at the law's entry are as they were -/
def et_U (w : et_W) (U : State) : Prop := w.1.WarmedH U.vm ∧ w.1.heap.size ≤ U.heap.size ∧ ∀ q : Nat, q < w.1.heap.size → U.heap[q]? = w.1.heap[q]?
theorem et_D {w : et_W} (h : et_Sane w) (g : et_G) : va_D (et_A w) (et_ws w g) := by
  have key : ∀ (i : Nat) (p : Nat × va_E), (et_ws w g)[i]? = some p → i < et_lay.length ∧ p.1 = et_ad w i := by
    intro i p hp
    simp only [et_ws, List.getElem?_mapIdx] at hp
    cases hq : et_lay[i]? with
    | none => rw [hq] at hp; cases hp
    | some sh =>
      rw [hq] at hp
      simp at hp
      exact ⟨(List.getElem?_eq_some_iff.mp hq).1, by rw [← hp]⟩
  refine ⟨fun i j p q hp hq e => ?_, fun k q hq => ?_⟩
  · obtain ⟨a1, a2⟩ := key i p hp
    obtain ⟨b1, b2⟩ := key j q hq
    exact h.2.2.1 i j a1 b1 (by rw [← a2, ← b2]; exact e)
  · obtain ⟨a1, a2⟩ := key k q hq
    show w.1.heap.size ≤ q.1
    rw [a2]
    exact h.2.2.2.1 k a1
theorem et_Kof {w : et_W} {U : State} (h : et_Sane w) (hU : et_U w U) : va_K w.2.1 vwCl (et_tys w) U := h.2.1.moved hU.1.alike
theorem et_U.next {w : et_W} {s U : State} {H : Heap} {locs : List Loc} (h : et_U w s) (hS : va_S (et_A w) s.heap H locs) (hH : U.heap = H) (hvm : s.WarmedH U.vm) : et_U w U := by
  refine ⟨State.WarmedH.trans h.1 hvm, by rw [hH]; exact Nat.le_trans h.2.1 hS.1, fun q hq => ?_⟩
  rw [hH, hS.2.1 q (Nat.lt_of_lt_of_le hq h.2.1) (fun z => Nat.not_le.mpr hq z)]
  exact h.2.2 q hq
theorem et_U.zq {w : et_W} {U : State} {n d : String} (h : vx_Zq Bundle.tN n d (et_A w) w.1 w.1.heap) (hU : et_U w U) : vx_Zq Bundle.tN n d (et_A w) U U.heap :=
  vx_Zq.moved hU.1.alike (vx_Zq.kept h (fun a h1 h2 => hU.2.2 a h1))
/-- locals: by their places -/
def et_L (lv : List (Option Value)) : List (Nat × Value) := lv.zipIdx.filterMap (fun q => q.1.map (fun v => (q.2, v)))
theorem et_L_mem {lv : List (Option Value)} {i : Nat} {v : Value} : (i, v) ∈ et_L lv ↔ lv[i]? = some (some v) := by
  simp only [et_L, List.mem_filterMap, Prod.exists, Option.map_eq_some_iff]
  constructor
  · rintro ⟨a, b, hm, v2, rfl, he⟩
    cases he
    exact List.mem_zipIdx_iff_getElem?.mp hm
  · intro h
    exact ⟨some v, i, List.mem_zipIdx_iff_getElem?.mpr h, v, rfl, rfl⟩
def et_c1 : Option Value → Bool
  | some (.long _) => false
  | some (.double _) => false
  | _ => true
theorem et_c1_cat {o : Option Value} {v : Value} (h : et_c1 o = true) (ho : o = some v) : v.category = 1 := by
  subst ho
  cases v <;> simp_all [et_c1, Value.category]
/-- the walk's context: program, launch, environment, room, entry state, method, arguments, frames below, method, code -/
abbrev et_X : Type := Program × Launch × Env × Room × State × MethodId × Array Value × List Frame × Method × Code
def et_V (X : et_X) (w : et_W) (u : Nat) (Q : State → Prop) (pc : Nat) (lv : List (Option Value)) (st : List Value) (g : et_G) : Prop := match X with
  | (p, l, e, R, s, m, args, below, meth, c) => ∀ (H : Heap) (locs : List Loc) (ls : Array Slot), et_R w g H → va_S (et_A w) s.heap H locs → lv_has ls c.maxLocals (et_L lv) → W p l e R s m args below meth c H locs u (6 * u) Q (F0 m pc ls st)
def et_Gd (X : et_X) (w : et_W) (b : ByteArray) (own : String) (nL : Nat) (ret : Option FieldType) (tb : List ExceptionTableEntry) (rm : Room) : Prop := match X with
  | (p, l, e, R, s, m, args, below, meth, c) => p.tables.exec = Jvm.exec ∧ c.code = b ∧ c.maxLocals = nL ∧ s.vm.findClass own = some m.cls ∧ (∀ q ∈ et_tb, q.before args s = true) ∧ meth.sig.returnType = ret ∧ meth.locks = false ∧ et_Sane w ∧ et_U w s ∧ c.exceptionTable.toList = tb ∧ l.stackTraces = false ∧ R = rm
/-- how a method ends: it returns, or throws an exception of a kind -/
abbrev et_O : Type := Option Value ⊕ Nat
def et_xn (k : Nat) : String := match k with
  | 0 => "java/util/NoSuchElementException"
  | _ => "java/lang/IllegalArgumentException"
def et_Qc (w : et_W) (o : et_O) (g : et_G) : Array Value → State → Outcome → State → Prop := fun _ st oc t => (∃ v, o = .inl v ∧ oc = .returned v) ∧ et_R w g t.heap ∧ va_F (et_A w) st t
def et_XC (w : et_W) (o : et_O) (g : et_G) : String → State → State → Prop := fun E st t => (∃ k, o = .inr k ∧ E = et_xn k) ∧ et_R w g t.heap ∧ va_F (et_A w) st t
def et_Q (X : et_X) (w : et_W) (o : et_O) (g : et_G) : State → Prop := match X with
  | (p, l, e, R, s, m, args, below, meth, c) => vx_MQ below (et_Qc w o g) (et_XC w o g) args s R.cells R.slots (et_A w)
/-- the walk from here ends as the function's value o says, if it says anything -/
def et_Z {α : Type} (X : et_X) (w : et_W) (u : Nat) (enc : α → et_O) (pc : Nat) (lv : List (Option Value)) (st : List Value) (g : et_G) (o : Option (α × et_G)) : Prop :=
  ∀ (a : α) (g2 : et_G), o = some (a, g2) → et_V X w u (et_Q X w (enc a) g2) pc lv st g
def et_eI (x : Int32) : et_O := .inl (some (.int x))
def et_eJ (x : Int64) : et_O := .inl (some (.long x))
def et_eU (_ : Unit) : et_O := .inl none
def et_tI (x : Nat ⊕ Int32) : et_O := match x with
  | .inl k => .inr k
  | .inr y => .inl (some (.int y))
def et_tU (x : Nat ⊕ Unit) : et_O := match x with
  | .inl k => .inr k
  | .inr _ => .inl none
/-- a value with a name -/
def et_b {α β : Type} (x : α) (k : α → β) : β := k x
/-- a loop: its body may go round -/
def et_lp {σ ρ : Type} (body : (σ → Option ρ) → σ → Option ρ) : Nat → σ → Option ρ
  | 0, _ => none
  | n + 1, s => body (et_lp body n) s
theorem et_words {w : et_W} {U : State} (h : et_Sane w) (hU : et_U w U) (a : Array Value) : ∀ q ∈ et_tb, q.before a U = true := by
  obtain ⟨⟨a0, h0⟩, -⟩ := h
  intro q hq
  obtain ⟨h1, h2⟩ := List.mem_filter.mp hq
  rcases (Bool.or_eq_true _ _).mp h2 with h3 | h3
  · exact word_at hU.1 (good_of_word h3) (h0 q h1)
  · obtain ⟨h4, h5⟩ := (Bool.and_eq_true _ _).mp h3
    exact va_tabs h4 (rfl : (w.1.setVm U.vm).vm = U.vm) (Cond.before_shiftedFace (State.Shifted.of_warmed hU.1) q h5 (h0 q h1))
/-- a check, a call, a call that may throw -/
def et_ib (i : Int32) (n : Nat) : Bool := !decide (i < 0 ∨ n ≤ i.toNatClampNeg)
theorem et_ib_in {i : Int32} {n : Nat} (h : et_ib i n = true) : vp_in i n := by simpa [et_ib, vp_in] using h
def et_ck {β : Type} (c : Bool) (o : Option β) : Option β := if c = true then o else none
def et_bd {β γ : Type} (F : Option (β × et_G)) (f : β → et_G → Option γ) : Option γ := match F with
  | none => none
  | some (x, g) => f x g
def et_bt {β γ : Type} (F : Option ((Nat ⊕ β) × et_G)) (f : β → et_G → Option ((Nat ⊕ γ) × et_G)) : Option ((Nat ⊕ γ) × et_G) := match F with
  | none => none
  | some (.inl k, g) => some (.inl k, g)
  | some (.inr x, g) => f x g
def et_us (x y : Int32) : Int32 := (x.toUInt32 >>> (y.toUInt32 &&& Int32.toUInt32 31)).toInt32
end
section
theorem et_st1 {ls : Array Slot} {n i : Nat} {lv lv2 : List (Option Value)} {v : Value} (h : lv_has ls n ((i, v) :: (et_L lv).filter (fun q => !(q.1 == i) && !(q.1 + 1 == i && q.2.category == 2)))) (hn : ∀ j v2, lv2[j]? = some (some v2) → (j = i ∧ v2 = v) ∨ (j ≠ i ∧ lv[j]? = some (some v2) ∧ (j + 1 = i → v2.category = 1))) : lv_has ls n (et_L lv2) := by
  refine ⟨h.1, h.2.1, fun q hq => h.2.2 q ?_⟩
  obtain ⟨j, v2⟩ := q
  rcases hn j v2 (et_L_mem.mp hq) with ⟨rfl, rfl⟩ | ⟨h1, h2, h3⟩
  · exact List.mem_cons_self
  · refine List.mem_cons_of_mem _ (List.mem_filter.mpr ⟨et_L_mem.mpr h2, ?_⟩)
    by_cases hj : j + 1 = i
    · simp [h1, hj, h3 hj]
    · simp [h1, hj]
theorem et_st2 {ls : Array Slot} {n i : Nat} {lv lv2 : List (Option Value)} {v : Value} (h : lv_has ls n ((i, v) :: (et_L lv).filter (fun q => !(q.1 == i) && (!(q.1 == i + 1) && !(q.1 + 1 == i && q.2.category == 2))))) (hn : ∀ j v2, lv2[j]? = some (some v2) → (j = i ∧ v2 = v) ∨ (j ≠ i ∧ j ≠ i + 1 ∧ lv[j]? = some (some v2) ∧ (j + 1 = i → v2.category = 1))) : lv_has ls n (et_L lv2) := by
  refine ⟨h.1, h.2.1, fun q hq => h.2.2 q ?_⟩
  obtain ⟨j, v2⟩ := q
  rcases hn j v2 (et_L_mem.mp hq) with ⟨rfl, rfl⟩ | ⟨h1, h0, h2, h3⟩
  · exact List.mem_cons_self
  · refine List.mem_cons_of_mem _ (List.mem_filter.mpr ⟨et_L_mem.mpr h2, ?_⟩)
    by_cases hj : j + 1 = i
    · simp [h1, h0, hj, h3 hj]
    · simp [h1, h0, hj]
section ZR
variable {α : Type} {X : et_X} {w : et_W} {u pc nL : Nat} {enc : α → et_O} {b : ByteArray} {own : String} {ret : Option FieldType} {tb : List ExceptionTableEntry} {rm : Room} {lv r : List (Option Value)} {st : List Value} {g : et_G} {o : Option (α × et_G)}
theorem zi_iconst {n : Int} {v : Int32} (hX : et_Gd X w b own nL ret tb rm) (hd : decode b pc = .ok (.iconst n, 1)) (hv : Int32.ofInt n = v) (k : et_Z X w u enc (pc + 1) lv (.int v :: st) g o) : et_Z X w u enc pc lv (st) g o := by
  obtain ⟨p, l, e, R, s, m, args, below, meth, c⟩ := X
  intro a1 g1 ho H locs ls hP hS hl
  exact lv_iconst hX.1 hX.2.1 hd hv (k a1 g1 ho H locs ls hP hS hl)
theorem zi_bipush {n : Int} {v : Int32} (hX : et_Gd X w b own nL ret tb rm) (hd : decode b pc = .ok (.bipush n, 2)) (hv : (Int8.ofInt n).toInt32 = v) (k : et_Z X w u enc (pc + 2) lv (.int v :: st) g o) : et_Z X w u enc pc lv (st) g o := by
  obtain ⟨p, l, e, R, s, m, args, below, meth, c⟩ := X
  intro a1 g1 ho H locs ls hP hS hl
  exact lv_bipush hX.1 hX.2.1 hd hv (k a1 g1 ho H locs ls hP hS hl)
theorem zi_sipush {n : Int} {v : Int32} (hX : et_Gd X w b own nL ret tb rm) (hd : decode b pc = .ok (.sipush n, 3)) (hv : (Int16.ofInt n).toInt32 = v) (k : et_Z X w u enc (pc + 3) lv (.int v :: st) g o) : et_Z X w u enc pc lv (st) g o := by
  obtain ⟨p, l, e, R, s, m, args, below, meth, c⟩ := X
  intro a1 g1 ho H locs ls hP hS hl
  exact lv_sipush hX.1 hX.2.1 hd hv (k a1 g1 ho H locs ls hP hS hl)
theorem zi_lconst {n : Fin 2} {v : Int64} (hX : et_Gd X w b own nL ret tb rm) (hd : decode b pc = .ok (.lconst n, 1)) (hv : Int64.ofNat (n : Nat) = v) (k : et_Z X w u enc (pc + 1) lv (.long v :: st) g o) : et_Z X w u enc pc lv (st) g o := by
  obtain ⟨p, l, e, R, s, m, args, below, meth, c⟩ := X
  intro a1 g1 ho H locs ls hP hS hl
  exact lv_lconst hX.1 hX.2.1 hd hv (k a1 g1 ho H locs ls hP hS hl)
theorem zi_ldc {idx : Nat} {v : Int32} (hX : et_Gd X w b own nL ret tb rm) (hd : decode b pc = .ok (.ldc idx, 2)) (hm : Cond.constant own idx v ∈ et_tb) (k : et_Z X w u enc (pc + 2) lv (.int v :: st) g o) : et_Z X w u enc pc lv (st) g o := by
  obtain ⟨p, l, e, R, s, m, args, below, meth, c⟩ := X
  intro a1 g1 ho H locs ls hP hS hl
  exact lv_ldc hX.1 hX.2.1 hX.2.2.2.1 (hX.2.2.2.2.1 _ hm) hd (k a1 g1 ho H locs ls hP hS hl)
theorem zi_ldcw {idx : Nat} {v : Int32} (hX : et_Gd X w b own nL ret tb rm) (hd : decode b pc = .ok (.ldc_w idx, 3)) (hm : Cond.constant own idx v ∈ et_tb) (k : et_Z X w u enc (pc + 3) lv (.int v :: st) g o) : et_Z X w u enc pc lv (st) g o := by
  obtain ⟨p, l, e, R, s, m, args, below, meth, c⟩ := X
  intro a1 g1 ho H locs ls hP hS hl
  exact lv_ldcw hX.1 hX.2.1 hX.2.2.2.1 (hX.2.2.2.2.1 _ hm) hd (k a1 g1 ho H locs ls hP hS hl)
theorem zi_ldc2 {idx : Nat} {v : Int64} (hX : et_Gd X w b own nL ret tb rm) (hd : decode b pc = .ok (.ldc2_w idx, 3)) (hm : Cond.constantLong own idx v ∈ et_tb) (k : et_Z X w u enc (pc + 3) lv (.long v :: st) g o) : et_Z X w u enc pc lv (st) g o := by
  obtain ⟨p, l, e, R, s, m, args, below, meth, c⟩ := X
  intro a1 g1 ho H locs ls hP hS hl
  exact lv_ldc2 hX.1 hX.2.1 hX.2.2.2.1 (hX.2.2.2.2.1 _ hm) hd (k a1 g1 ho H locs ls hP hS hl)
theorem zi_iadd {x y : Int32} (hX : et_Gd X w b own nL ret tb rm) (hd : decode b pc = .ok (.iadd, 1)) (k : et_Z X w u enc (pc + 1) lv (.int (x + y) :: st) g o) : et_Z X w u enc pc lv (.int y :: .int x :: st) g o := by
  obtain ⟨p, l, e, R, s, m, args, below, meth, c⟩ := X
  intro a1 g1 ho H locs ls hP hS hl
  exact lv_iadd hX.1 hX.2.1 hd (k a1 g1 ho H locs ls hP hS hl)
theorem zi_isub {x y : Int32} (hX : et_Gd X w b own nL ret tb rm) (hd : decode b pc = .ok (.isub, 1)) (k : et_Z X w u enc (pc + 1) lv (.int (x - y) :: st) g o) : et_Z X w u enc pc lv (.int y :: .int x :: st) g o := by
  obtain ⟨p, l, e, R, s, m, args, below, meth, c⟩ := X
  intro a1 g1 ho H locs ls hP hS hl
  exact lv_isub hX.1 hX.2.1 hd (k a1 g1 ho H locs ls hP hS hl)
theorem zi_imul {x y : Int32} (hX : et_Gd X w b own nL ret tb rm) (hd : decode b pc = .ok (.imul, 1)) (k : et_Z X w u enc (pc + 1) lv (.int (x * y) :: st) g o) : et_Z X w u enc pc lv (.int y :: .int x :: st) g o := by
  obtain ⟨p, l, e, R, s, m, args, below, meth, c⟩ := X
  intro a1 g1 ho H locs ls hP hS hl
  exact lv_imul hX.1 hX.2.1 hd (k a1 g1 ho H locs ls hP hS hl)
theorem zi_iand {x y : Int32} (hX : et_Gd X w b own nL ret tb rm) (hd : decode b pc = .ok (.iand, 1)) (k : et_Z X w u enc (pc + 1) lv (.int (x &&& y) :: st) g o) : et_Z X w u enc pc lv (.int y :: .int x :: st) g o := by
  obtain ⟨p, l, e, R, s, m, args, below, meth, c⟩ := X
  intro a1 g1 ho H locs ls hP hS hl
  exact lv_iand hX.1 hX.2.1 hd (k a1 g1 ho H locs ls hP hS hl)
theorem zi_ior {x y : Int32} (hX : et_Gd X w b own nL ret tb rm) (hd : decode b pc = .ok (.ior, 1)) (k : et_Z X w u enc (pc + 1) lv (.int (x ||| y) :: st) g o) : et_Z X w u enc pc lv (.int y :: .int x :: st) g o := by
  obtain ⟨p, l, e, R, s, m, args, below, meth, c⟩ := X
  intro a1 g1 ho H locs ls hP hS hl
  exact lv_ior hX.1 hX.2.1 hd (k a1 g1 ho H locs ls hP hS hl)
theorem zi_ixor {x y : Int32} (hX : et_Gd X w b own nL ret tb rm) (hd : decode b pc = .ok (.ixor, 1)) (k : et_Z X w u enc (pc + 1) lv (.int (x ^^^ y) :: st) g o) : et_Z X w u enc pc lv (.int y :: .int x :: st) g o := by
  obtain ⟨p, l, e, R, s, m, args, below, meth, c⟩ := X
  intro a1 g1 ho H locs ls hP hS hl
  exact lv_ixor hX.1 hX.2.1 hd (k a1 g1 ho H locs ls hP hS hl)
theorem zi_ishl {x y : Int32} (hX : et_Gd X w b own nL ret tb rm) (hd : decode b pc = .ok (.ishl, 1)) (k : et_Z X w u enc (pc + 1) lv (.int (x <<< (y &&& 31)) :: st) g o) : et_Z X w u enc pc lv (.int y :: .int x :: st) g o := by
  obtain ⟨p, l, e, R, s, m, args, below, meth, c⟩ := X
  intro a1 g1 ho H locs ls hP hS hl
  exact lv_ishl hX.1 hX.2.1 hd (k a1 g1 ho H locs ls hP hS hl)
theorem zi_ishr {x y : Int32} (hX : et_Gd X w b own nL ret tb rm) (hd : decode b pc = .ok (.ishr, 1)) (k : et_Z X w u enc (pc + 1) lv (.int (x >>> (y &&& 31)) :: st) g o) : et_Z X w u enc pc lv (.int y :: .int x :: st) g o := by
  obtain ⟨p, l, e, R, s, m, args, below, meth, c⟩ := X
  intro a1 g1 ho H locs ls hP hS hl
  exact lv_ishr hX.1 hX.2.1 hd (k a1 g1 ho H locs ls hP hS hl)
theorem zi_idiv {x y : Int32} (hX : et_Gd X w b own nL ret tb rm) (hd : decode b pc = .ok (.idiv, 1)) (hne : ¬ y = 0) (k : et_Z X w u enc (pc + 1) lv (.int (x / y) :: st) g o) : et_Z X w u enc pc lv (.int y :: .int x :: st) g o := by
  obtain ⟨p, l, e, R, s, m, args, below, meth, c⟩ := X
  intro a1 g1 ho H locs ls hP hS hl
  exact lv_idiv hX.1 hX.2.1 hd hne (k a1 g1 ho H locs ls hP hS hl)
theorem zi_irem {x y : Int32} (hX : et_Gd X w b own nL ret tb rm) (hd : decode b pc = .ok (.irem, 1)) (hne : ¬ y = 0) (k : et_Z X w u enc (pc + 1) lv (.int (x - x / y * y) :: st) g o) : et_Z X w u enc pc lv (.int y :: .int x :: st) g o := by
  obtain ⟨p, l, e, R, s, m, args, below, meth, c⟩ := X
  intro a1 g1 ho H locs ls hP hS hl
  exact lv_irem hX.1 hX.2.1 hd hne (k a1 g1 ho H locs ls hP hS hl)
theorem zi_ladd {x y : Int64} (hX : et_Gd X w b own nL ret tb rm) (hd : decode b pc = .ok (.ladd, 1)) (k : et_Z X w u enc (pc + 1) lv (.long (x + y) :: st) g o) : et_Z X w u enc pc lv (.long y :: .long x :: st) g o := by
  obtain ⟨p, l, e, R, s, m, args, below, meth, c⟩ := X
  intro a1 g1 ho H locs ls hP hS hl
  exact lv_ladd hX.1 hX.2.1 hd (k a1 g1 ho H locs ls hP hS hl)
theorem zi_lsub {x y : Int64} (hX : et_Gd X w b own nL ret tb rm) (hd : decode b pc = .ok (.lsub, 1)) (k : et_Z X w u enc (pc + 1) lv (.long (x - y) :: st) g o) : et_Z X w u enc pc lv (.long y :: .long x :: st) g o := by
  obtain ⟨p, l, e, R, s, m, args, below, meth, c⟩ := X
  intro a1 g1 ho H locs ls hP hS hl
  exact lv_lsub hX.1 hX.2.1 hd (k a1 g1 ho H locs ls hP hS hl)
theorem zi_lmul {x y : Int64} (hX : et_Gd X w b own nL ret tb rm) (hd : decode b pc = .ok (.lmul, 1)) (k : et_Z X w u enc (pc + 1) lv (.long (x * y) :: st) g o) : et_Z X w u enc pc lv (.long y :: .long x :: st) g o := by
  obtain ⟨p, l, e, R, s, m, args, below, meth, c⟩ := X
  intro a1 g1 ho H locs ls hP hS hl
  exact lv_lmul hX.1 hX.2.1 hd (k a1 g1 ho H locs ls hP hS hl)
theorem zi_lor {x y : Int64} (hX : et_Gd X w b own nL ret tb rm) (hd : decode b pc = .ok (.lor, 1)) (k : et_Z X w u enc (pc + 1) lv (.long (x ||| y) :: st) g o) : et_Z X w u enc pc lv (.long y :: .long x :: st) g o := by
  obtain ⟨p, l, e, R, s, m, args, below, meth, c⟩ := X
  intro a1 g1 ho H locs ls hP hS hl
  exact lv_lor hX.1 hX.2.1 hd (k a1 g1 ho H locs ls hP hS hl)
theorem zi_iushr {x y : Int32} (hX : et_Gd X w b own nL ret tb rm) (hd : decode b pc = .ok (.iushr, 1)) (k : et_Z X w u enc (pc + 1) lv (.int (et_us x y) :: st) g o) : et_Z X w u enc pc lv (.int y :: .int x :: st) g o := by
  obtain ⟨p, l, e, R, s, m, args, below, meth, c⟩ := X
  intro a1 g1 ho H locs ls hP hS hl
  exact lv_iushr hX.1 hX.2.1 hd rfl (k a1 g1 ho H locs ls hP hS hl)
theorem zi_lshl {x : Int64} {y : Int32} (hX : et_Gd X w b own nL ret tb rm) (hd : decode b pc = .ok (.lshl, 1)) (k : et_Z X w u enc (pc + 1) lv (.long (x <<< (y.toInt64 &&& 63)) :: st) g o) : et_Z X w u enc pc lv (.int y :: .long x :: st) g o := by
  obtain ⟨p, l, e, R, s, m, args, below, meth, c⟩ := X
  intro a1 g1 ho H locs ls hP hS hl
  exact lv_lshl hX.1 hX.2.1 hd rfl (k a1 g1 ho H locs ls hP hS hl)
theorem zi_lcmp {x y : Int64} (hX : et_Gd X w b own nL ret tb rm) (hd : decode b pc = .ok (.lcmp, 1)) (k : et_Z X w u enc (pc + 1) lv (.int (lg_cmp x y) :: st) g o) : et_Z X w u enc pc lv (.long y :: .long x :: st) g o := by
  obtain ⟨p, l, e, R, s, m, args, below, meth, c⟩ := X
  intro a1 g1 ho H locs ls hP hS hl
  exact W.lcmp hX.1 hX.2.1 hd (k a1 g1 ho H locs ls hP hS hl)
theorem zi_i2l {x : Int32} (hX : et_Gd X w b own nL ret tb rm) (hd : decode b pc = .ok (.i2l, 1)) (k : et_Z X w u enc (pc + 1) lv (.long x.toInt64 :: st) g o) : et_Z X w u enc pc lv (.int x :: st) g o := by
  obtain ⟨p, l, e, R, s, m, args, below, meth, c⟩ := X
  intro a1 g1 ho H locs ls hP hS hl
  exact lv_i2l hX.1 hX.2.1 hd rfl (k a1 g1 ho H locs ls hP hS hl)
theorem zi_l2i {x : Int64} (hX : et_Gd X w b own nL ret tb rm) (hd : decode b pc = .ok (.l2i, 1)) (k : et_Z X w u enc (pc + 1) lv (.int x.toInt32 :: st) g o) : et_Z X w u enc pc lv (.long x :: st) g o := by
  obtain ⟨p, l, e, R, s, m, args, below, meth, c⟩ := X
  intro a1 g1 ho H locs ls hP hS hl
  exact lv_l2i hX.1 hX.2.1 hd rfl (k a1 g1 ho H locs ls hP hS hl)
theorem zi_i2b {x : Int32} (hX : et_Gd X w b own nL ret tb rm) (hd : decode b pc = .ok (.i2b, 1)) (k : et_Z X w u enc (pc + 1) lv (.int x.toInt8.toInt32 :: st) g o) : et_Z X w u enc pc lv (.int x :: st) g o := by
  obtain ⟨p, l, e, R, s, m, args, below, meth, c⟩ := X
  intro a1 g1 ho H locs ls hP hS hl
  exact lv_i2b hX.1 hX.2.1 hd rfl (k a1 g1 ho H locs ls hP hS hl)
theorem zi_i2c {x : Int32} (hX : et_Gd X w b own nL ret tb rm) (hd : decode b pc = .ok (.i2c, 1)) (k : et_Z X w u enc (pc + 1) lv (.int (x.toUInt32 % 65536).toInt32 :: st) g o) : et_Z X w u enc pc lv (.int x :: st) g o := by
  obtain ⟨p, l, e, R, s, m, args, below, meth, c⟩ := X
  intro a1 g1 ho H locs ls hP hS hl
  exact lv_i2c hX.1 hX.2.1 hd rfl (k a1 g1 ho H locs ls hP hS hl)
theorem zi_dup {va : Value} (hX : et_Gd X w b own nL ret tb rm) (hd : decode b pc = .ok (.dup, 1)) (hc : va.category = 1) (k : et_Z X w u enc (pc + 1) lv (va :: va :: st) g o) : et_Z X w u enc pc lv (va :: st) g o := by
  obtain ⟨p, l, e, R, s, m, args, below, meth, c⟩ := X
  intro a1 g1 ho H locs ls hP hS hl
  exact lv_dup hX.1 hX.2.1 hd hc (k a1 g1 ho H locs ls hP hS hl)
theorem zi_pop {va : Value} (hX : et_Gd X w b own nL ret tb rm) (hd : decode b pc = .ok (.pop, 1)) (hc : va.category = 1) (k : et_Z X w u enc (pc + 1) lv (st) g o) : et_Z X w u enc pc lv (va :: st) g o := by
  obtain ⟨p, l, e, R, s, m, args, below, meth, c⟩ := X
  intro a1 g1 ho H locs ls hP hS hl
  exact lv_pop hX.1 hX.2.1 hd hc (k a1 g1 ho H locs ls hP hS hl)
theorem zi_dup2 {va vb : Value} (hX : et_Gd X w b own nL ret tb rm) (hd : decode b pc = .ok (.dup2, 1)) (hc : va.category = 1) (hc2 : vb.category = 1) (k : et_Z X w u enc (pc + 1) lv (va :: vb :: va :: vb :: st) g o) : et_Z X w u enc pc lv (va :: vb :: st) g o := by
  obtain ⟨p, l, e, R, s, m, args, below, meth, c⟩ := X
  intro a1 g1 ho H locs ls hP hS hl
  exact lv_dup2_11 hX.1 hX.2.1 hd hc hc2 (k a1 g1 ho H locs ls hP hS hl)
theorem zi_goto {off : Int} (tgt : Nat) (hX : et_Gd X w b own nL ret tb rm) (hd : decode b pc = .ok (.goto off, 3)) (ht : (pc : Int) + off = (tgt : Int)) (k : et_Z X w u enc tgt lv st g o) : et_Z X w u enc pc lv st g o := by
  obtain ⟨p, l, e, R, s, m, args, below, meth, c⟩ := X
  intro a1 g1 ho H locs ls hP hS hl
  exact lv_goto hX.1 hX.2.1 hd ht (k a1 g1 ho H locs ls hP hS hl)
/-- a case without a step -/
theorem zi_ite {c : Prop} {i1 : Decidable c} {o1 o2 : Option (α × et_G)} (h1 : c → et_Z X w u enc pc lv st g o1) (h2 : ¬ c → et_Z X w u enc pc lv st g o2) : et_Z X w u enc pc lv st g (if c then o1 else o2) := by
  by_cases h : c
  · rw [if_pos h]; exact h1 h
  · rw [if_neg h]; exact h2 h
theorem zi_if_eq {x : Int32} {off : Int} {i1 : Decidable (x = 0)} {o1 o2 : Option (α × et_G)} (tgt : Nat) (hX : et_Gd X w b own nL ret tb rm) (hd : decode b pc = .ok (.ifCond .eq off, 3)) (ht : (pc : Int) + off = (tgt : Int)) (kt : x = 0 → et_Z X w u enc tgt lv st g o1) (kf : ¬ (x = 0) → et_Z X w u enc (pc + 3) lv st g o2) : et_Z X w u enc pc lv (.int x :: st) g (if x = 0 then o1 else o2) := by
  refine zi_ite (fun h => ?_) (fun h => ?_)
  · obtain ⟨p, l, e, R, s, m, args, below, meth, c⟩ := X
    intro a1 g1 ho H locs ls hP hS hl
    exact lv_if_eq hX.1 hX.2.1 hd ht (fun _ => kt h a1 g1 ho H locs ls hP hS hl) (fun h2 => absurd h h2)
  · obtain ⟨p, l, e, R, s, m, args, below, meth, c⟩ := X
    intro a1 g1 ho H locs ls hP hS hl
    exact lv_if_eq hX.1 hX.2.1 hd ht (fun h2 => absurd h2 h) (fun _ => kf h a1 g1 ho H locs ls hP hS hl)
theorem zi_if_ne {x : Int32} {off : Int} {i1 : Decidable (x = 0)} {o1 o2 : Option (α × et_G)} (tgt : Nat) (hX : et_Gd X w b own nL ret tb rm) (hd : decode b pc = .ok (.ifCond .ne off, 3)) (ht : (pc : Int) + off = (tgt : Int)) (kf : x = 0 → et_Z X w u enc (pc + 3) lv st g o1) (kt : ¬ (x = 0) → et_Z X w u enc tgt lv st g o2) : et_Z X w u enc pc lv (.int x :: st) g (if x = 0 then o1 else o2) := by
  refine zi_ite (fun h => ?_) (fun h => ?_)
  · obtain ⟨p, l, e, R, s, m, args, below, meth, c⟩ := X
    intro a1 g1 ho H locs ls hP hS hl
    exact lv_if_ne hX.1 hX.2.1 hd ht (fun h2 => absurd h h2) (fun _ => kf h a1 g1 ho H locs ls hP hS hl)
  · obtain ⟨p, l, e, R, s, m, args, below, meth, c⟩ := X
    intro a1 g1 ho H locs ls hP hS hl
    exact lv_if_ne hX.1 hX.2.1 hd ht (fun _ => kt h a1 g1 ho H locs ls hP hS hl) (fun h2 => absurd h2 h)
theorem zi_if_lt {x : Int32} {off : Int} {i1 : Decidable (x < 0)} {o1 o2 : Option (α × et_G)} (tgt : Nat) (hX : et_Gd X w b own nL ret tb rm) (hd : decode b pc = .ok (.ifCond .lt off, 3)) (ht : (pc : Int) + off = (tgt : Int)) (kt : x < 0 → et_Z X w u enc tgt lv st g o1) (kf : ¬ (x < 0) → et_Z X w u enc (pc + 3) lv st g o2) : et_Z X w u enc pc lv (.int x :: st) g (if x < 0 then o1 else o2) := by
  refine zi_ite (fun h => ?_) (fun h => ?_)
  · obtain ⟨p, l, e, R, s, m, args, below, meth, c⟩ := X
    intro a1 g1 ho H locs ls hP hS hl
    exact lv_if_lt hX.1 hX.2.1 hd ht (fun _ => kt h a1 g1 ho H locs ls hP hS hl) (fun h2 => absurd h h2)
  · obtain ⟨p, l, e, R, s, m, args, below, meth, c⟩ := X
    intro a1 g1 ho H locs ls hP hS hl
    exact lv_if_lt hX.1 hX.2.1 hd ht (fun h2 => absurd h2 h) (fun _ => kf h a1 g1 ho H locs ls hP hS hl)
theorem zi_if_ge {x : Int32} {off : Int} {i1 : Decidable (0 ≤ x)} {o1 o2 : Option (α × et_G)} (tgt : Nat) (hX : et_Gd X w b own nL ret tb rm) (hd : decode b pc = .ok (.ifCond .ge off, 3)) (ht : (pc : Int) + off = (tgt : Int)) (kt : 0 ≤ x → et_Z X w u enc tgt lv st g o1) (kf : ¬ (0 ≤ x) → et_Z X w u enc (pc + 3) lv st g o2) : et_Z X w u enc pc lv (.int x :: st) g (if 0 ≤ x then o1 else o2) := by
  refine zi_ite (fun h => ?_) (fun h => ?_)
  · obtain ⟨p, l, e, R, s, m, args, below, meth, c⟩ := X
    intro a1 g1 ho H locs ls hP hS hl
    exact lv_if_ge hX.1 hX.2.1 hd ht (fun _ => kt h a1 g1 ho H locs ls hP hS hl) (fun h2 => absurd h h2)
  · obtain ⟨p, l, e, R, s, m, args, below, meth, c⟩ := X
    intro a1 g1 ho H locs ls hP hS hl
    exact lv_if_ge hX.1 hX.2.1 hd ht (fun h2 => absurd h2 h) (fun _ => kf h a1 g1 ho H locs ls hP hS hl)
theorem zi_if_gt {x : Int32} {off : Int} {i1 : Decidable (0 < x)} {o1 o2 : Option (α × et_G)} (tgt : Nat) (hX : et_Gd X w b own nL ret tb rm) (hd : decode b pc = .ok (.ifCond .gt off, 3)) (ht : (pc : Int) + off = (tgt : Int)) (kt : 0 < x → et_Z X w u enc tgt lv st g o1) (kf : ¬ (0 < x) → et_Z X w u enc (pc + 3) lv st g o2) : et_Z X w u enc pc lv (.int x :: st) g (if 0 < x then o1 else o2) := by
  refine zi_ite (fun h => ?_) (fun h => ?_)
  · obtain ⟨p, l, e, R, s, m, args, below, meth, c⟩ := X
    intro a1 g1 ho H locs ls hP hS hl
    exact lv_if_gt hX.1 hX.2.1 hd ht (fun _ => kt h a1 g1 ho H locs ls hP hS hl) (fun h2 => absurd h h2)
  · obtain ⟨p, l, e, R, s, m, args, below, meth, c⟩ := X
    intro a1 g1 ho H locs ls hP hS hl
    exact lv_if_gt hX.1 hX.2.1 hd ht (fun h2 => absurd h2 h) (fun _ => kf h a1 g1 ho H locs ls hP hS hl)
theorem zi_if_le {x : Int32} {off : Int} {i1 : Decidable (x ≤ 0)} {o1 o2 : Option (α × et_G)} (tgt : Nat) (hX : et_Gd X w b own nL ret tb rm) (hd : decode b pc = .ok (.ifCond .le off, 3)) (ht : (pc : Int) + off = (tgt : Int)) (kt : x ≤ 0 → et_Z X w u enc tgt lv st g o1) (kf : ¬ (x ≤ 0) → et_Z X w u enc (pc + 3) lv st g o2) : et_Z X w u enc pc lv (.int x :: st) g (if x ≤ 0 then o1 else o2) := by
  refine zi_ite (fun h => ?_) (fun h => ?_)
  · obtain ⟨p, l, e, R, s, m, args, below, meth, c⟩ := X
    intro a1 g1 ho H locs ls hP hS hl
    exact lv_if_le hX.1 hX.2.1 hd ht (fun _ => kt h a1 g1 ho H locs ls hP hS hl) (fun h2 => absurd h h2)
  · obtain ⟨p, l, e, R, s, m, args, below, meth, c⟩ := X
    intro a1 g1 ho H locs ls hP hS hl
    exact lv_if_le hX.1 hX.2.1 hd ht (fun h2 => absurd h2 h) (fun _ => kf h a1 g1 ho H locs ls hP hS hl)
theorem zi_icmp_eq {x y : Int32} {off : Int} {i1 : Decidable (x = y)} {o1 o2 : Option (α × et_G)} (tgt : Nat) (hX : et_Gd X w b own nL ret tb rm) (hd : decode b pc = .ok (.if_icmp .eq off, 3)) (ht : (pc : Int) + off = (tgt : Int)) (kt : x = y → et_Z X w u enc tgt lv st g o1) (kf : ¬ (x = y) → et_Z X w u enc (pc + 3) lv st g o2) : et_Z X w u enc pc lv (.int y :: .int x :: st) g (if x = y then o1 else o2) := by
  refine zi_ite (fun h => ?_) (fun h => ?_)
  · obtain ⟨p, l, e, R, s, m, args, below, meth, c⟩ := X
    intro a1 g1 ho H locs ls hP hS hl
    exact lv_icmp_eq hX.1 hX.2.1 hd ht (fun _ => kt h a1 g1 ho H locs ls hP hS hl) (fun h2 => absurd h h2)
  · obtain ⟨p, l, e, R, s, m, args, below, meth, c⟩ := X
    intro a1 g1 ho H locs ls hP hS hl
    exact lv_icmp_eq hX.1 hX.2.1 hd ht (fun h2 => absurd h2 h) (fun _ => kf h a1 g1 ho H locs ls hP hS hl)
theorem zi_icmp_ne {x y : Int32} {off : Int} {i1 : Decidable (x = y)} {o1 o2 : Option (α × et_G)} (tgt : Nat) (hX : et_Gd X w b own nL ret tb rm) (hd : decode b pc = .ok (.if_icmp .ne off, 3)) (ht : (pc : Int) + off = (tgt : Int)) (kf : x = y → et_Z X w u enc (pc + 3) lv st g o1) (kt : ¬ (x = y) → et_Z X w u enc tgt lv st g o2) : et_Z X w u enc pc lv (.int y :: .int x :: st) g (if x = y then o1 else o2) := by
  refine zi_ite (fun h => ?_) (fun h => ?_)
  · obtain ⟨p, l, e, R, s, m, args, below, meth, c⟩ := X
    intro a1 g1 ho H locs ls hP hS hl
    exact lv_icmp_ne hX.1 hX.2.1 hd ht (fun h2 => absurd h h2) (fun _ => kf h a1 g1 ho H locs ls hP hS hl)
  · obtain ⟨p, l, e, R, s, m, args, below, meth, c⟩ := X
    intro a1 g1 ho H locs ls hP hS hl
    exact lv_icmp_ne hX.1 hX.2.1 hd ht (fun _ => kt h a1 g1 ho H locs ls hP hS hl) (fun h2 => absurd h2 h)
theorem zi_icmp_lt {x y : Int32} {off : Int} {i1 : Decidable (x < y)} {o1 o2 : Option (α × et_G)} (tgt : Nat) (hX : et_Gd X w b own nL ret tb rm) (hd : decode b pc = .ok (.if_icmp .lt off, 3)) (ht : (pc : Int) + off = (tgt : Int)) (kt : x < y → et_Z X w u enc tgt lv st g o1) (kf : ¬ (x < y) → et_Z X w u enc (pc + 3) lv st g o2) : et_Z X w u enc pc lv (.int y :: .int x :: st) g (if x < y then o1 else o2) := by
  refine zi_ite (fun h => ?_) (fun h => ?_)
  · obtain ⟨p, l, e, R, s, m, args, below, meth, c⟩ := X
    intro a1 g1 ho H locs ls hP hS hl
    exact lv_icmp_lt hX.1 hX.2.1 hd ht (fun _ => kt h a1 g1 ho H locs ls hP hS hl) (fun h2 => absurd h h2)
  · obtain ⟨p, l, e, R, s, m, args, below, meth, c⟩ := X
    intro a1 g1 ho H locs ls hP hS hl
    exact lv_icmp_lt hX.1 hX.2.1 hd ht (fun h2 => absurd h2 h) (fun _ => kf h a1 g1 ho H locs ls hP hS hl)
theorem zi_icmp_ge {x y : Int32} {off : Int} {i1 : Decidable (y ≤ x)} {o1 o2 : Option (α × et_G)} (tgt : Nat) (hX : et_Gd X w b own nL ret tb rm) (hd : decode b pc = .ok (.if_icmp .ge off, 3)) (ht : (pc : Int) + off = (tgt : Int)) (kt : y ≤ x → et_Z X w u enc tgt lv st g o1) (kf : ¬ (y ≤ x) → et_Z X w u enc (pc + 3) lv st g o2) : et_Z X w u enc pc lv (.int y :: .int x :: st) g (if y ≤ x then o1 else o2) := by
  refine zi_ite (fun h => ?_) (fun h => ?_)
  · obtain ⟨p, l, e, R, s, m, args, below, meth, c⟩ := X
    intro a1 g1 ho H locs ls hP hS hl
    exact lv_icmp_ge hX.1 hX.2.1 hd ht (fun _ => kt h a1 g1 ho H locs ls hP hS hl) (fun h2 => absurd h h2)
  · obtain ⟨p, l, e, R, s, m, args, below, meth, c⟩ := X
    intro a1 g1 ho H locs ls hP hS hl
    exact lv_icmp_ge hX.1 hX.2.1 hd ht (fun h2 => absurd h2 h) (fun _ => kf h a1 g1 ho H locs ls hP hS hl)
theorem zi_icmp_gt {x y : Int32} {off : Int} {i1 : Decidable (y < x)} {o1 o2 : Option (α × et_G)} (tgt : Nat) (hX : et_Gd X w b own nL ret tb rm) (hd : decode b pc = .ok (.if_icmp .gt off, 3)) (ht : (pc : Int) + off = (tgt : Int)) (kt : y < x → et_Z X w u enc tgt lv st g o1) (kf : ¬ (y < x) → et_Z X w u enc (pc + 3) lv st g o2) : et_Z X w u enc pc lv (.int y :: .int x :: st) g (if y < x then o1 else o2) := by
  refine zi_ite (fun h => ?_) (fun h => ?_)
  · obtain ⟨p, l, e, R, s, m, args, below, meth, c⟩ := X
    intro a1 g1 ho H locs ls hP hS hl
    exact lv_icmp_gt hX.1 hX.2.1 hd ht (fun _ => kt h a1 g1 ho H locs ls hP hS hl) (fun h2 => absurd h h2)
  · obtain ⟨p, l, e, R, s, m, args, below, meth, c⟩ := X
    intro a1 g1 ho H locs ls hP hS hl
    exact lv_icmp_gt hX.1 hX.2.1 hd ht (fun h2 => absurd h2 h) (fun _ => kf h a1 g1 ho H locs ls hP hS hl)
theorem zi_icmp_le {x y : Int32} {off : Int} {i1 : Decidable (x ≤ y)} {o1 o2 : Option (α × et_G)} (tgt : Nat) (hX : et_Gd X w b own nL ret tb rm) (hd : decode b pc = .ok (.if_icmp .le off, 3)) (ht : (pc : Int) + off = (tgt : Int)) (kt : x ≤ y → et_Z X w u enc tgt lv st g o1) (kf : ¬ (x ≤ y) → et_Z X w u enc (pc + 3) lv st g o2) : et_Z X w u enc pc lv (.int y :: .int x :: st) g (if x ≤ y then o1 else o2) := by
  refine zi_ite (fun h => ?_) (fun h => ?_)
  · obtain ⟨p, l, e, R, s, m, args, below, meth, c⟩ := X
    intro a1 g1 ho H locs ls hP hS hl
    exact lv_icmp_le hX.1 hX.2.1 hd ht (fun _ => kt h a1 g1 ho H locs ls hP hS hl) (fun h2 => absurd h h2)
  · obtain ⟨p, l, e, R, s, m, args, below, meth, c⟩ := X
    intro a1 g1 ho H locs ls hP hS hl
    exact lv_icmp_le hX.1 hX.2.1 hd ht (fun h2 => absurd h2 h) (fun _ => kf h a1 g1 ho H locs ls hP hS hl)
theorem zi_iload0 {x : Int32} (hX : et_Gd X w b own nL ret tb rm) (hd : decode b pc = .ok (.iload_n 0, 1)) (k : et_Z X w u enc (pc + 1) (some (.int x) :: r) (.int x :: st) g o) : et_Z X w u enc pc (some (.int x) :: r) st g o := by
  obtain ⟨p, l, e, R, s, m, args, below, meth, c⟩ := X
  intro a1 g1 ho H locs ls hP hS hl
  exact lv_iload_n hX.1 hX.2.1 hd rfl (hl.2.2 (0, _) (et_L_mem.mpr rfl)) (k a1 g1 ho H locs ls hP hS hl)
theorem zi_lload0 {x : Int64} (hX : et_Gd X w b own nL ret tb rm) (hd : decode b pc = .ok (.lload_n 0, 1)) (k : et_Z X w u enc (pc + 1) (some (.long x) :: r) (.long x :: st) g o) : et_Z X w u enc pc (some (.long x) :: r) st g o := by
  obtain ⟨p, l, e, R, s, m, args, below, meth, c⟩ := X
  intro a1 g1 ho H locs ls hP hS hl
  exact lv_lload_n hX.1 hX.2.1 hd rfl (hl.2.2 (0, _) (et_L_mem.mpr rfl)) (k a1 g1 ho H locs ls hP hS hl)
theorem zi_aload0 {x : Nat} (hX : et_Gd X w b own nL ret tb rm) (hd : decode b pc = .ok (.aload_n 0, 1)) (k : et_Z X w u enc (pc + 1) (some (.ref x) :: r) (.ref x :: st) g o) : et_Z X w u enc pc (some (.ref x) :: r) st g o := by
  obtain ⟨p, l, e, R, s, m, args, below, meth, c⟩ := X
  intro a1 g1 ho H locs ls hP hS hl
  exact lv_aload_n hX.1 hX.2.1 hd rfl (hl.2.2 (0, _) (et_L_mem.mpr rfl)) (k a1 g1 ho H locs ls hP hS hl)
theorem zi_istore0 {z : Option Value} {x : Int32} (hX : et_Gd X w b own nL ret tb rm) (hd : decode b pc = .ok (.istore_n 0, 1)) (hn : Nat.ble 1 nL = true) (k : et_Z X w u enc (pc + 1) (some (.int x) :: r) st g o) : et_Z X w u enc pc (z :: r) (.int x :: st) g o := by
  obtain ⟨p, l, e, R, s, m, args, below, meth, c⟩ := X
  intro az g1 ho H locs ls hP hS hl
  refine lv_istore_n hX.1 hX.2.1 hd rfl hl (by rw [hX.2.2.1]; exact Nat.le_of_ble_eq_true hn) rfl (fun ls2 h2 => k az g1 ho H locs ls2 hP hS (et_st1 h2 fun j v2 hj => ?_))
  match j with
    | 0 => exact Or.inl ⟨rfl, (Option.some.inj (Option.some.inj hj)).symm⟩
    | j + 1 => exact Or.inr ⟨by omega, hj, fun h => by omega⟩
theorem zi_astore0 {z : Option Value} {x : Nat} (hX : et_Gd X w b own nL ret tb rm) (hd : decode b pc = .ok (.astore_n 0, 1)) (hn : Nat.ble 1 nL = true) (k : et_Z X w u enc (pc + 1) (some (.ref x) :: r) st g o) : et_Z X w u enc pc (z :: r) (.ref x :: st) g o := by
  obtain ⟨p, l, e, R, s, m, args, below, meth, c⟩ := X
  intro az g1 ho H locs ls hP hS hl
  refine lv_astore_n hX.1 hX.2.1 hd rfl hl (by rw [hX.2.2.1]; exact Nat.le_of_ble_eq_true hn) rfl (fun ls2 h2 => k az g1 ho H locs ls2 hP hS (et_st1 h2 fun j v2 hj => ?_))
  match j with
    | 0 => exact Or.inl ⟨rfl, (Option.some.inj (Option.some.inj hj)).symm⟩
    | j + 1 => exact Or.inr ⟨by omega, hj, fun h => by omega⟩
theorem zi_iinc0 {x v : Int32} {n : Int} (hX : et_Gd X w b own nL ret tb rm) (hd : decode b pc = .ok (.iinc 0 n, 3)) (hv : x + Int32.ofInt n = v) (hn : Nat.ble 1 nL = true) (k : et_Z X w u enc (pc + 3) (some (.int v) :: r) st g o) : et_Z X w u enc pc (some (.int x) :: r) st g o := by
  obtain ⟨p, l, e, R, s, m, args, below, meth, c⟩ := X
  intro az g1 ho H locs ls hP hS hl
  obtain ⟨q, hq⟩ := List.getElem?_of_mem (et_L_mem.mpr (rfl : (some (.int x) :: r)[0]? = some (some (Value.int x))))
  refine lv_iinc hX.1 hX.2.1 hd hl hq hv (by rw [hX.2.2.1]; exact Nat.le_of_ble_eq_true hn) rfl (fun ls2 h2 => k az g1 ho H locs ls2 hP hS (et_st1 h2 fun j v2 hj => ?_))
  match j with
    | 0 => exact Or.inl ⟨rfl, (Option.some.inj (Option.some.inj hj)).symm⟩
    | j + 1 => exact Or.inr ⟨by omega, hj, fun h => by omega⟩
theorem zi_lstore0 {z z2 : Option Value} {x : Int64} (hX : et_Gd X w b own nL ret tb rm) (hd : decode b pc = .ok (.lstore_n 0, 1)) (hn : Nat.ble 2 nL = true) (k : et_Z X w u enc (pc + 1) (some (.long x) :: none :: r) st g o) : et_Z X w u enc pc (z :: z2 :: r) (.long x :: st) g o := by
  obtain ⟨p, l, e, R, s, m, args, below, meth, c⟩ := X
  intro az g1 ho H locs ls hP hS hl
  refine lv_lstore_n hX.1 hX.2.1 hd rfl hl (by rw [hX.2.2.1]; exact Nat.le_of_ble_eq_true hn) rfl (fun ls2 h2 => k az g1 ho H locs ls2 hP hS (et_st2 h2 fun j v2 hj => ?_))
  match j with
    | 0 => exact Or.inl ⟨rfl, (Option.some.inj (Option.some.inj hj)).symm⟩
    | 1 => cases hj
    | j + 2 => exact Or.inr ⟨by omega, by omega, hj, fun h => by omega⟩
theorem zi_iload1 {a0 : Option Value} {x : Int32} (hX : et_Gd X w b own nL ret tb rm) (hd : decode b pc = .ok (.iload_n 1, 1)) (k : et_Z X w u enc (pc + 1) (a0 :: some (.int x) :: r) (.int x :: st) g o) : et_Z X w u enc pc (a0 :: some (.int x) :: r) st g o := by
  obtain ⟨p, l, e, R, s, m, args, below, meth, c⟩ := X
  intro a1 g1 ho H locs ls hP hS hl
  exact lv_iload_n hX.1 hX.2.1 hd rfl (hl.2.2 (1, _) (et_L_mem.mpr rfl)) (k a1 g1 ho H locs ls hP hS hl)
theorem zi_lload1 {a0 : Option Value} {x : Int64} (hX : et_Gd X w b own nL ret tb rm) (hd : decode b pc = .ok (.lload_n 1, 1)) (k : et_Z X w u enc (pc + 1) (a0 :: some (.long x) :: r) (.long x :: st) g o) : et_Z X w u enc pc (a0 :: some (.long x) :: r) st g o := by
  obtain ⟨p, l, e, R, s, m, args, below, meth, c⟩ := X
  intro a1 g1 ho H locs ls hP hS hl
  exact lv_lload_n hX.1 hX.2.1 hd rfl (hl.2.2 (1, _) (et_L_mem.mpr rfl)) (k a1 g1 ho H locs ls hP hS hl)
theorem zi_aload1 {a0 : Option Value} {x : Nat} (hX : et_Gd X w b own nL ret tb rm) (hd : decode b pc = .ok (.aload_n 1, 1)) (k : et_Z X w u enc (pc + 1) (a0 :: some (.ref x) :: r) (.ref x :: st) g o) : et_Z X w u enc pc (a0 :: some (.ref x) :: r) st g o := by
  obtain ⟨p, l, e, R, s, m, args, below, meth, c⟩ := X
  intro a1 g1 ho H locs ls hP hS hl
  exact lv_aload_n hX.1 hX.2.1 hd rfl (hl.2.2 (1, _) (et_L_mem.mpr rfl)) (k a1 g1 ho H locs ls hP hS hl)
theorem zi_istore1 {a0 : Option Value} {z : Option Value} {x : Int32} (hX : et_Gd X w b own nL ret tb rm) (hd : decode b pc = .ok (.istore_n 1, 1)) (hn : Nat.ble 2 nL = true) (hc : et_c1 a0 = true) (k : et_Z X w u enc (pc + 1) (a0 :: some (.int x) :: r) st g o) : et_Z X w u enc pc (a0 :: z :: r) (.int x :: st) g o := by
  obtain ⟨p, l, e, R, s, m, args, below, meth, c⟩ := X
  intro az g1 ho H locs ls hP hS hl
  refine lv_istore_n hX.1 hX.2.1 hd rfl hl (by rw [hX.2.2.1]; exact Nat.le_of_ble_eq_true hn) rfl (fun ls2 h2 => k az g1 ho H locs ls2 hP hS (et_st1 h2 fun j v2 hj => ?_))
  match j with
    | 0 => exact Or.inr ⟨by decide, hj, fun h => by exact et_c1_cat hc (Option.some.inj hj)⟩
    | 1 => exact Or.inl ⟨rfl, (Option.some.inj (Option.some.inj hj)).symm⟩
    | j + 2 => exact Or.inr ⟨by omega, hj, fun h => by omega⟩
theorem zi_astore1 {a0 : Option Value} {z : Option Value} {x : Nat} (hX : et_Gd X w b own nL ret tb rm) (hd : decode b pc = .ok (.astore_n 1, 1)) (hn : Nat.ble 2 nL = true) (hc : et_c1 a0 = true) (k : et_Z X w u enc (pc + 1) (a0 :: some (.ref x) :: r) st g o) : et_Z X w u enc pc (a0 :: z :: r) (.ref x :: st) g o := by
  obtain ⟨p, l, e, R, s, m, args, below, meth, c⟩ := X
  intro az g1 ho H locs ls hP hS hl
  refine lv_astore_n hX.1 hX.2.1 hd rfl hl (by rw [hX.2.2.1]; exact Nat.le_of_ble_eq_true hn) rfl (fun ls2 h2 => k az g1 ho H locs ls2 hP hS (et_st1 h2 fun j v2 hj => ?_))
  match j with
    | 0 => exact Or.inr ⟨by decide, hj, fun h => by exact et_c1_cat hc (Option.some.inj hj)⟩
    | 1 => exact Or.inl ⟨rfl, (Option.some.inj (Option.some.inj hj)).symm⟩
    | j + 2 => exact Or.inr ⟨by omega, hj, fun h => by omega⟩
theorem zi_iinc1 {a0 : Option Value} {x v : Int32} {n : Int} (hX : et_Gd X w b own nL ret tb rm) (hd : decode b pc = .ok (.iinc 1 n, 3)) (hv : x + Int32.ofInt n = v) (hn : Nat.ble 2 nL = true) (hc : et_c1 a0 = true) (k : et_Z X w u enc (pc + 3) (a0 :: some (.int v) :: r) st g o) : et_Z X w u enc pc (a0 :: some (.int x) :: r) st g o := by
  obtain ⟨p, l, e, R, s, m, args, below, meth, c⟩ := X
  intro az g1 ho H locs ls hP hS hl
  obtain ⟨q, hq⟩ := List.getElem?_of_mem (et_L_mem.mpr (rfl : (a0 :: some (.int x) :: r)[1]? = some (some (Value.int x))))
  refine lv_iinc hX.1 hX.2.1 hd hl hq hv (by rw [hX.2.2.1]; exact Nat.le_of_ble_eq_true hn) rfl (fun ls2 h2 => k az g1 ho H locs ls2 hP hS (et_st1 h2 fun j v2 hj => ?_))
  match j with
    | 0 => exact Or.inr ⟨by decide, hj, fun h => by exact et_c1_cat hc (Option.some.inj hj)⟩
    | 1 => exact Or.inl ⟨rfl, (Option.some.inj (Option.some.inj hj)).symm⟩
    | j + 2 => exact Or.inr ⟨by omega, hj, fun h => by omega⟩
theorem zi_lstore1 {a0 : Option Value} {z z2 : Option Value} {x : Int64} (hX : et_Gd X w b own nL ret tb rm) (hd : decode b pc = .ok (.lstore_n 1, 1)) (hn : Nat.ble 3 nL = true) (hc : et_c1 a0 = true) (k : et_Z X w u enc (pc + 1) (a0 :: some (.long x) :: none :: r) st g o) : et_Z X w u enc pc (a0 :: z :: z2 :: r) (.long x :: st) g o := by
  obtain ⟨p, l, e, R, s, m, args, below, meth, c⟩ := X
  intro az g1 ho H locs ls hP hS hl
  refine lv_lstore_n hX.1 hX.2.1 hd rfl hl (by rw [hX.2.2.1]; exact Nat.le_of_ble_eq_true hn) rfl (fun ls2 h2 => k az g1 ho H locs ls2 hP hS (et_st2 h2 fun j v2 hj => ?_))
  match j with
    | 0 => exact Or.inr ⟨by decide, by decide, hj, fun h => by exact et_c1_cat hc (Option.some.inj hj)⟩
    | 1 => exact Or.inl ⟨rfl, (Option.some.inj (Option.some.inj hj)).symm⟩
    | 2 => cases hj
    | j + 3 => exact Or.inr ⟨by omega, by omega, hj, fun h => by omega⟩
theorem zi_iload2 {a0 a1 : Option Value} {x : Int32} (hX : et_Gd X w b own nL ret tb rm) (hd : decode b pc = .ok (.iload_n 2, 1)) (k : et_Z X w u enc (pc + 1) (a0 :: a1 :: some (.int x) :: r) (.int x :: st) g o) : et_Z X w u enc pc (a0 :: a1 :: some (.int x) :: r) st g o := by
  obtain ⟨p, l, e, R, s, m, args, below, meth, c⟩ := X
  intro a1 g1 ho H locs ls hP hS hl
  exact lv_iload_n hX.1 hX.2.1 hd rfl (hl.2.2 (2, _) (et_L_mem.mpr rfl)) (k a1 g1 ho H locs ls hP hS hl)
theorem zi_lload2 {a0 a1 : Option Value} {x : Int64} (hX : et_Gd X w b own nL ret tb rm) (hd : decode b pc = .ok (.lload_n 2, 1)) (k : et_Z X w u enc (pc + 1) (a0 :: a1 :: some (.long x) :: r) (.long x :: st) g o) : et_Z X w u enc pc (a0 :: a1 :: some (.long x) :: r) st g o := by
  obtain ⟨p, l, e, R, s, m, args, below, meth, c⟩ := X
  intro a1 g1 ho H locs ls hP hS hl
  exact lv_lload_n hX.1 hX.2.1 hd rfl (hl.2.2 (2, _) (et_L_mem.mpr rfl)) (k a1 g1 ho H locs ls hP hS hl)
theorem zi_aload2 {a0 a1 : Option Value} {x : Nat} (hX : et_Gd X w b own nL ret tb rm) (hd : decode b pc = .ok (.aload_n 2, 1)) (k : et_Z X w u enc (pc + 1) (a0 :: a1 :: some (.ref x) :: r) (.ref x :: st) g o) : et_Z X w u enc pc (a0 :: a1 :: some (.ref x) :: r) st g o := by
  obtain ⟨p, l, e, R, s, m, args, below, meth, c⟩ := X
  intro a1 g1 ho H locs ls hP hS hl
  exact lv_aload_n hX.1 hX.2.1 hd rfl (hl.2.2 (2, _) (et_L_mem.mpr rfl)) (k a1 g1 ho H locs ls hP hS hl)
theorem zi_istore2 {a0 a1 : Option Value} {z : Option Value} {x : Int32} (hX : et_Gd X w b own nL ret tb rm) (hd : decode b pc = .ok (.istore_n 2, 1)) (hn : Nat.ble 3 nL = true) (hc : et_c1 a1 = true) (k : et_Z X w u enc (pc + 1) (a0 :: a1 :: some (.int x) :: r) st g o) : et_Z X w u enc pc (a0 :: a1 :: z :: r) (.int x :: st) g o := by
  obtain ⟨p, l, e, R, s, m, args, below, meth, c⟩ := X
  intro az g1 ho H locs ls hP hS hl
  refine lv_istore_n hX.1 hX.2.1 hd rfl hl (by rw [hX.2.2.1]; exact Nat.le_of_ble_eq_true hn) rfl (fun ls2 h2 => k az g1 ho H locs ls2 hP hS (et_st1 h2 fun j v2 hj => ?_))
  match j with
    | 0 => exact Or.inr ⟨by decide, hj, fun h => by omega⟩
    | 1 => exact Or.inr ⟨by decide, hj, fun h => by exact et_c1_cat hc (Option.some.inj hj)⟩
    | 2 => exact Or.inl ⟨rfl, (Option.some.inj (Option.some.inj hj)).symm⟩
    | j + 3 => exact Or.inr ⟨by omega, hj, fun h => by omega⟩
theorem zi_astore2 {a0 a1 : Option Value} {z : Option Value} {x : Nat} (hX : et_Gd X w b own nL ret tb rm) (hd : decode b pc = .ok (.astore_n 2, 1)) (hn : Nat.ble 3 nL = true) (hc : et_c1 a1 = true) (k : et_Z X w u enc (pc + 1) (a0 :: a1 :: some (.ref x) :: r) st g o) : et_Z X w u enc pc (a0 :: a1 :: z :: r) (.ref x :: st) g o := by
  obtain ⟨p, l, e, R, s, m, args, below, meth, c⟩ := X
  intro az g1 ho H locs ls hP hS hl
  refine lv_astore_n hX.1 hX.2.1 hd rfl hl (by rw [hX.2.2.1]; exact Nat.le_of_ble_eq_true hn) rfl (fun ls2 h2 => k az g1 ho H locs ls2 hP hS (et_st1 h2 fun j v2 hj => ?_))
  match j with
    | 0 => exact Or.inr ⟨by decide, hj, fun h => by omega⟩
    | 1 => exact Or.inr ⟨by decide, hj, fun h => by exact et_c1_cat hc (Option.some.inj hj)⟩
    | 2 => exact Or.inl ⟨rfl, (Option.some.inj (Option.some.inj hj)).symm⟩
    | j + 3 => exact Or.inr ⟨by omega, hj, fun h => by omega⟩
theorem zi_iinc2 {a0 a1 : Option Value} {x v : Int32} {n : Int} (hX : et_Gd X w b own nL ret tb rm) (hd : decode b pc = .ok (.iinc 2 n, 3)) (hv : x + Int32.ofInt n = v) (hn : Nat.ble 3 nL = true) (hc : et_c1 a1 = true) (k : et_Z X w u enc (pc + 3) (a0 :: a1 :: some (.int v) :: r) st g o) : et_Z X w u enc pc (a0 :: a1 :: some (.int x) :: r) st g o := by
  obtain ⟨p, l, e, R, s, m, args, below, meth, c⟩ := X
  intro az g1 ho H locs ls hP hS hl
  obtain ⟨q, hq⟩ := List.getElem?_of_mem (et_L_mem.mpr (rfl : (a0 :: a1 :: some (.int x) :: r)[2]? = some (some (Value.int x))))
  refine lv_iinc hX.1 hX.2.1 hd hl hq hv (by rw [hX.2.2.1]; exact Nat.le_of_ble_eq_true hn) rfl (fun ls2 h2 => k az g1 ho H locs ls2 hP hS (et_st1 h2 fun j v2 hj => ?_))
  match j with
    | 0 => exact Or.inr ⟨by decide, hj, fun h => by omega⟩
    | 1 => exact Or.inr ⟨by decide, hj, fun h => by exact et_c1_cat hc (Option.some.inj hj)⟩
    | 2 => exact Or.inl ⟨rfl, (Option.some.inj (Option.some.inj hj)).symm⟩
    | j + 3 => exact Or.inr ⟨by omega, hj, fun h => by omega⟩
theorem zi_lstore2 {a0 a1 : Option Value} {z z2 : Option Value} {x : Int64} (hX : et_Gd X w b own nL ret tb rm) (hd : decode b pc = .ok (.lstore_n 2, 1)) (hn : Nat.ble 4 nL = true) (hc : et_c1 a1 = true) (k : et_Z X w u enc (pc + 1) (a0 :: a1 :: some (.long x) :: none :: r) st g o) : et_Z X w u enc pc (a0 :: a1 :: z :: z2 :: r) (.long x :: st) g o := by
  obtain ⟨p, l, e, R, s, m, args, below, meth, c⟩ := X
  intro az g1 ho H locs ls hP hS hl
  refine lv_lstore_n hX.1 hX.2.1 hd rfl hl (by rw [hX.2.2.1]; exact Nat.le_of_ble_eq_true hn) rfl (fun ls2 h2 => k az g1 ho H locs ls2 hP hS (et_st2 h2 fun j v2 hj => ?_))
  match j with
    | 0 => exact Or.inr ⟨by decide, by decide, hj, fun h => by omega⟩
    | 1 => exact Or.inr ⟨by decide, by decide, hj, fun h => by exact et_c1_cat hc (Option.some.inj hj)⟩
    | 2 => exact Or.inl ⟨rfl, (Option.some.inj (Option.some.inj hj)).symm⟩
    | 3 => cases hj
    | j + 4 => exact Or.inr ⟨by omega, by omega, hj, fun h => by omega⟩
theorem zi_iload3 {a0 a1 a2 : Option Value} {x : Int32} (hX : et_Gd X w b own nL ret tb rm) (hd : decode b pc = .ok (.iload_n 3, 1)) (k : et_Z X w u enc (pc + 1) (a0 :: a1 :: a2 :: some (.int x) :: r) (.int x :: st) g o) : et_Z X w u enc pc (a0 :: a1 :: a2 :: some (.int x) :: r) st g o := by
  obtain ⟨p, l, e, R, s, m, args, below, meth, c⟩ := X
  intro a1 g1 ho H locs ls hP hS hl
  exact lv_iload_n hX.1 hX.2.1 hd rfl (hl.2.2 (3, _) (et_L_mem.mpr rfl)) (k a1 g1 ho H locs ls hP hS hl)
theorem zi_lload3 {a0 a1 a2 : Option Value} {x : Int64} (hX : et_Gd X w b own nL ret tb rm) (hd : decode b pc = .ok (.lload_n 3, 1)) (k : et_Z X w u enc (pc + 1) (a0 :: a1 :: a2 :: some (.long x) :: r) (.long x :: st) g o) : et_Z X w u enc pc (a0 :: a1 :: a2 :: some (.long x) :: r) st g o := by
  obtain ⟨p, l, e, R, s, m, args, below, meth, c⟩ := X
  intro a1 g1 ho H locs ls hP hS hl
  exact lv_lload_n hX.1 hX.2.1 hd rfl (hl.2.2 (3, _) (et_L_mem.mpr rfl)) (k a1 g1 ho H locs ls hP hS hl)
theorem zi_aload3 {a0 a1 a2 : Option Value} {x : Nat} (hX : et_Gd X w b own nL ret tb rm) (hd : decode b pc = .ok (.aload_n 3, 1)) (k : et_Z X w u enc (pc + 1) (a0 :: a1 :: a2 :: some (.ref x) :: r) (.ref x :: st) g o) : et_Z X w u enc pc (a0 :: a1 :: a2 :: some (.ref x) :: r) st g o := by
  obtain ⟨p, l, e, R, s, m, args, below, meth, c⟩ := X
  intro a1 g1 ho H locs ls hP hS hl
  exact lv_aload_n hX.1 hX.2.1 hd rfl (hl.2.2 (3, _) (et_L_mem.mpr rfl)) (k a1 g1 ho H locs ls hP hS hl)
theorem zi_istore3 {a0 a1 a2 : Option Value} {z : Option Value} {x : Int32} (hX : et_Gd X w b own nL ret tb rm) (hd : decode b pc = .ok (.istore_n 3, 1)) (hn : Nat.ble 4 nL = true) (hc : et_c1 a2 = true) (k : et_Z X w u enc (pc + 1) (a0 :: a1 :: a2 :: some (.int x) :: r) st g o) : et_Z X w u enc pc (a0 :: a1 :: a2 :: z :: r) (.int x :: st) g o := by
  obtain ⟨p, l, e, R, s, m, args, below, meth, c⟩ := X
  intro az g1 ho H locs ls hP hS hl
  refine lv_istore_n hX.1 hX.2.1 hd rfl hl (by rw [hX.2.2.1]; exact Nat.le_of_ble_eq_true hn) rfl (fun ls2 h2 => k az g1 ho H locs ls2 hP hS (et_st1 h2 fun j v2 hj => ?_))
  match j with
    | 0 => exact Or.inr ⟨by decide, hj, fun h => by omega⟩
    | 1 => exact Or.inr ⟨by decide, hj, fun h => by omega⟩
    | 2 => exact Or.inr ⟨by decide, hj, fun h => by exact et_c1_cat hc (Option.some.inj hj)⟩
    | 3 => exact Or.inl ⟨rfl, (Option.some.inj (Option.some.inj hj)).symm⟩
    | j + 4 => exact Or.inr ⟨by omega, hj, fun h => by omega⟩
theorem zi_astore3 {a0 a1 a2 : Option Value} {z : Option Value} {x : Nat} (hX : et_Gd X w b own nL ret tb rm) (hd : decode b pc = .ok (.astore_n 3, 1)) (hn : Nat.ble 4 nL = true) (hc : et_c1 a2 = true) (k : et_Z X w u enc (pc + 1) (a0 :: a1 :: a2 :: some (.ref x) :: r) st g o) : et_Z X w u enc pc (a0 :: a1 :: a2 :: z :: r) (.ref x :: st) g o := by
  obtain ⟨p, l, e, R, s, m, args, below, meth, c⟩ := X
  intro az g1 ho H locs ls hP hS hl
  refine lv_astore_n hX.1 hX.2.1 hd rfl hl (by rw [hX.2.2.1]; exact Nat.le_of_ble_eq_true hn) rfl (fun ls2 h2 => k az g1 ho H locs ls2 hP hS (et_st1 h2 fun j v2 hj => ?_))
  match j with
    | 0 => exact Or.inr ⟨by decide, hj, fun h => by omega⟩
    | 1 => exact Or.inr ⟨by decide, hj, fun h => by omega⟩
    | 2 => exact Or.inr ⟨by decide, hj, fun h => by exact et_c1_cat hc (Option.some.inj hj)⟩
    | 3 => exact Or.inl ⟨rfl, (Option.some.inj (Option.some.inj hj)).symm⟩
    | j + 4 => exact Or.inr ⟨by omega, hj, fun h => by omega⟩
theorem zi_iinc3 {a0 a1 a2 : Option Value} {x v : Int32} {n : Int} (hX : et_Gd X w b own nL ret tb rm) (hd : decode b pc = .ok (.iinc 3 n, 3)) (hv : x + Int32.ofInt n = v) (hn : Nat.ble 4 nL = true) (hc : et_c1 a2 = true) (k : et_Z X w u enc (pc + 3) (a0 :: a1 :: a2 :: some (.int v) :: r) st g o) : et_Z X w u enc pc (a0 :: a1 :: a2 :: some (.int x) :: r) st g o := by
  obtain ⟨p, l, e, R, s, m, args, below, meth, c⟩ := X
  intro az g1 ho H locs ls hP hS hl
  obtain ⟨q, hq⟩ := List.getElem?_of_mem (et_L_mem.mpr (rfl : (a0 :: a1 :: a2 :: some (.int x) :: r)[3]? = some (some (Value.int x))))
  refine lv_iinc hX.1 hX.2.1 hd hl hq hv (by rw [hX.2.2.1]; exact Nat.le_of_ble_eq_true hn) rfl (fun ls2 h2 => k az g1 ho H locs ls2 hP hS (et_st1 h2 fun j v2 hj => ?_))
  match j with
    | 0 => exact Or.inr ⟨by decide, hj, fun h => by omega⟩
    | 1 => exact Or.inr ⟨by decide, hj, fun h => by omega⟩
    | 2 => exact Or.inr ⟨by decide, hj, fun h => by exact et_c1_cat hc (Option.some.inj hj)⟩
    | 3 => exact Or.inl ⟨rfl, (Option.some.inj (Option.some.inj hj)).symm⟩
    | j + 4 => exact Or.inr ⟨by omega, hj, fun h => by omega⟩
theorem zi_lstore3 {a0 a1 a2 : Option Value} {z z2 : Option Value} {x : Int64} (hX : et_Gd X w b own nL ret tb rm) (hd : decode b pc = .ok (.lstore_n 3, 1)) (hn : Nat.ble 5 nL = true) (hc : et_c1 a2 = true) (k : et_Z X w u enc (pc + 1) (a0 :: a1 :: a2 :: some (.long x) :: none :: r) st g o) : et_Z X w u enc pc (a0 :: a1 :: a2 :: z :: z2 :: r) (.long x :: st) g o := by
  obtain ⟨p, l, e, R, s, m, args, below, meth, c⟩ := X
  intro az g1 ho H locs ls hP hS hl
  refine lv_lstore_n hX.1 hX.2.1 hd rfl hl (by rw [hX.2.2.1]; exact Nat.le_of_ble_eq_true hn) rfl (fun ls2 h2 => k az g1 ho H locs ls2 hP hS (et_st2 h2 fun j v2 hj => ?_))
  match j with
    | 0 => exact Or.inr ⟨by decide, by decide, hj, fun h => by omega⟩
    | 1 => exact Or.inr ⟨by decide, by decide, hj, fun h => by omega⟩
    | 2 => exact Or.inr ⟨by decide, by decide, hj, fun h => by exact et_c1_cat hc (Option.some.inj hj)⟩
    | 3 => exact Or.inl ⟨rfl, (Option.some.inj (Option.some.inj hj)).symm⟩
    | 4 => cases hj
    | j + 5 => exact Or.inr ⟨by omega, by omega, hj, fun h => by omega⟩
theorem zi_iload4 {a0 a1 a2 a3 : Option Value} {x : Int32} (hX : et_Gd X w b own nL ret tb rm) (hd : decode b pc = .ok (.iload 4, 2)) (k : et_Z X w u enc (pc + 2) (a0 :: a1 :: a2 :: a3 :: some (.int x) :: r) (.int x :: st) g o) : et_Z X w u enc pc (a0 :: a1 :: a2 :: a3 :: some (.int x) :: r) st g o := by
  obtain ⟨p, l, e, R, s, m, args, below, meth, c⟩ := X
  intro a1 g1 ho H locs ls hP hS hl
  exact lv_iload hX.1 hX.2.1 hd (hl.2.2 (4, _) (et_L_mem.mpr rfl)) (k a1 g1 ho H locs ls hP hS hl)
theorem zi_lload4 {a0 a1 a2 a3 : Option Value} {x : Int64} (hX : et_Gd X w b own nL ret tb rm) (hd : decode b pc = .ok (.lload 4, 2)) (k : et_Z X w u enc (pc + 2) (a0 :: a1 :: a2 :: a3 :: some (.long x) :: r) (.long x :: st) g o) : et_Z X w u enc pc (a0 :: a1 :: a2 :: a3 :: some (.long x) :: r) st g o := by
  obtain ⟨p, l, e, R, s, m, args, below, meth, c⟩ := X
  intro a1 g1 ho H locs ls hP hS hl
  exact lv_lload hX.1 hX.2.1 hd (hl.2.2 (4, _) (et_L_mem.mpr rfl)) (k a1 g1 ho H locs ls hP hS hl)
theorem zi_aload4 {a0 a1 a2 a3 : Option Value} {x : Nat} (hX : et_Gd X w b own nL ret tb rm) (hd : decode b pc = .ok (.aload 4, 2)) (k : et_Z X w u enc (pc + 2) (a0 :: a1 :: a2 :: a3 :: some (.ref x) :: r) (.ref x :: st) g o) : et_Z X w u enc pc (a0 :: a1 :: a2 :: a3 :: some (.ref x) :: r) st g o := by
  obtain ⟨p, l, e, R, s, m, args, below, meth, c⟩ := X
  intro a1 g1 ho H locs ls hP hS hl
  exact lv_aload hX.1 hX.2.1 hd (hl.2.2 (4, _) (et_L_mem.mpr rfl)) (k a1 g1 ho H locs ls hP hS hl)
theorem zi_istore4 {a0 a1 a2 a3 : Option Value} {z : Option Value} {x : Int32} (hX : et_Gd X w b own nL ret tb rm) (hd : decode b pc = .ok (.istore 4, 2)) (hn : Nat.ble 5 nL = true) (hc : et_c1 a3 = true) (k : et_Z X w u enc (pc + 2) (a0 :: a1 :: a2 :: a3 :: some (.int x) :: r) st g o) : et_Z X w u enc pc (a0 :: a1 :: a2 :: a3 :: z :: r) (.int x :: st) g o := by
  obtain ⟨p, l, e, R, s, m, args, below, meth, c⟩ := X
  intro az g1 ho H locs ls hP hS hl
  refine lv_istore hX.1 hX.2.1 hd hl (by rw [hX.2.2.1]; exact Nat.le_of_ble_eq_true hn) rfl (fun ls2 h2 => k az g1 ho H locs ls2 hP hS (et_st1 h2 fun j v2 hj => ?_))
  match j with
    | 0 => exact Or.inr ⟨by decide, hj, fun h => by omega⟩
    | 1 => exact Or.inr ⟨by decide, hj, fun h => by omega⟩
    | 2 => exact Or.inr ⟨by decide, hj, fun h => by omega⟩
    | 3 => exact Or.inr ⟨by decide, hj, fun h => by exact et_c1_cat hc (Option.some.inj hj)⟩
    | 4 => exact Or.inl ⟨rfl, (Option.some.inj (Option.some.inj hj)).symm⟩
    | j + 5 => exact Or.inr ⟨by omega, hj, fun h => by omega⟩
theorem zi_astore4 {a0 a1 a2 a3 : Option Value} {z : Option Value} {x : Nat} (hX : et_Gd X w b own nL ret tb rm) (hd : decode b pc = .ok (.astore 4, 2)) (hn : Nat.ble 5 nL = true) (hc : et_c1 a3 = true) (k : et_Z X w u enc (pc + 2) (a0 :: a1 :: a2 :: a3 :: some (.ref x) :: r) st g o) : et_Z X w u enc pc (a0 :: a1 :: a2 :: a3 :: z :: r) (.ref x :: st) g o := by
  obtain ⟨p, l, e, R, s, m, args, below, meth, c⟩ := X
  intro az g1 ho H locs ls hP hS hl
  refine lv_astore hX.1 hX.2.1 hd hl (by rw [hX.2.2.1]; exact Nat.le_of_ble_eq_true hn) rfl (fun ls2 h2 => k az g1 ho H locs ls2 hP hS (et_st1 h2 fun j v2 hj => ?_))
  match j with
    | 0 => exact Or.inr ⟨by decide, hj, fun h => by omega⟩
    | 1 => exact Or.inr ⟨by decide, hj, fun h => by omega⟩
    | 2 => exact Or.inr ⟨by decide, hj, fun h => by omega⟩
    | 3 => exact Or.inr ⟨by decide, hj, fun h => by exact et_c1_cat hc (Option.some.inj hj)⟩
    | 4 => exact Or.inl ⟨rfl, (Option.some.inj (Option.some.inj hj)).symm⟩
    | j + 5 => exact Or.inr ⟨by omega, hj, fun h => by omega⟩
theorem zi_iinc4 {a0 a1 a2 a3 : Option Value} {x v : Int32} {n : Int} (hX : et_Gd X w b own nL ret tb rm) (hd : decode b pc = .ok (.iinc 4 n, 3)) (hv : x + Int32.ofInt n = v) (hn : Nat.ble 5 nL = true) (hc : et_c1 a3 = true) (k : et_Z X w u enc (pc + 3) (a0 :: a1 :: a2 :: a3 :: some (.int v) :: r) st g o) : et_Z X w u enc pc (a0 :: a1 :: a2 :: a3 :: some (.int x) :: r) st g o := by
  obtain ⟨p, l, e, R, s, m, args, below, meth, c⟩ := X
  intro az g1 ho H locs ls hP hS hl
  obtain ⟨q, hq⟩ := List.getElem?_of_mem (et_L_mem.mpr (rfl : (a0 :: a1 :: a2 :: a3 :: some (.int x) :: r)[4]? = some (some (Value.int x))))
  refine lv_iinc hX.1 hX.2.1 hd hl hq hv (by rw [hX.2.2.1]; exact Nat.le_of_ble_eq_true hn) rfl (fun ls2 h2 => k az g1 ho H locs ls2 hP hS (et_st1 h2 fun j v2 hj => ?_))
  match j with
    | 0 => exact Or.inr ⟨by decide, hj, fun h => by omega⟩
    | 1 => exact Or.inr ⟨by decide, hj, fun h => by omega⟩
    | 2 => exact Or.inr ⟨by decide, hj, fun h => by omega⟩
    | 3 => exact Or.inr ⟨by decide, hj, fun h => by exact et_c1_cat hc (Option.some.inj hj)⟩
    | 4 => exact Or.inl ⟨rfl, (Option.some.inj (Option.some.inj hj)).symm⟩
    | j + 5 => exact Or.inr ⟨by omega, hj, fun h => by omega⟩
theorem zi_lstore4 {a0 a1 a2 a3 : Option Value} {z z2 : Option Value} {x : Int64} (hX : et_Gd X w b own nL ret tb rm) (hd : decode b pc = .ok (.lstore 4, 2)) (hn : Nat.ble 6 nL = true) (hc : et_c1 a3 = true) (k : et_Z X w u enc (pc + 2) (a0 :: a1 :: a2 :: a3 :: some (.long x) :: none :: r) st g o) : et_Z X w u enc pc (a0 :: a1 :: a2 :: a3 :: z :: z2 :: r) (.long x :: st) g o := by
  obtain ⟨p, l, e, R, s, m, args, below, meth, c⟩ := X
  intro az g1 ho H locs ls hP hS hl
  refine lv_lstore hX.1 hX.2.1 hd hl (by rw [hX.2.2.1]; exact Nat.le_of_ble_eq_true hn) rfl (fun ls2 h2 => k az g1 ho H locs ls2 hP hS (et_st2 h2 fun j v2 hj => ?_))
  match j with
    | 0 => exact Or.inr ⟨by decide, by decide, hj, fun h => by omega⟩
    | 1 => exact Or.inr ⟨by decide, by decide, hj, fun h => by omega⟩
    | 2 => exact Or.inr ⟨by decide, by decide, hj, fun h => by omega⟩
    | 3 => exact Or.inr ⟨by decide, by decide, hj, fun h => by exact et_c1_cat hc (Option.some.inj hj)⟩
    | 4 => exact Or.inl ⟨rfl, (Option.some.inj (Option.some.inj hj)).symm⟩
    | 5 => cases hj
    | j + 6 => exact Or.inr ⟨by omega, by omega, hj, fun h => by omega⟩
theorem zi_iload5 {a0 a1 a2 a3 a4 : Option Value} {x : Int32} (hX : et_Gd X w b own nL ret tb rm) (hd : decode b pc = .ok (.iload 5, 2)) (k : et_Z X w u enc (pc + 2) (a0 :: a1 :: a2 :: a3 :: a4 :: some (.int x) :: r) (.int x :: st) g o) : et_Z X w u enc pc (a0 :: a1 :: a2 :: a3 :: a4 :: some (.int x) :: r) st g o := by
  obtain ⟨p, l, e, R, s, m, args, below, meth, c⟩ := X
  intro a1 g1 ho H locs ls hP hS hl
  exact lv_iload hX.1 hX.2.1 hd (hl.2.2 (5, _) (et_L_mem.mpr rfl)) (k a1 g1 ho H locs ls hP hS hl)
theorem zi_lload5 {a0 a1 a2 a3 a4 : Option Value} {x : Int64} (hX : et_Gd X w b own nL ret tb rm) (hd : decode b pc = .ok (.lload 5, 2)) (k : et_Z X w u enc (pc + 2) (a0 :: a1 :: a2 :: a3 :: a4 :: some (.long x) :: r) (.long x :: st) g o) : et_Z X w u enc pc (a0 :: a1 :: a2 :: a3 :: a4 :: some (.long x) :: r) st g o := by
  obtain ⟨p, l, e, R, s, m, args, below, meth, c⟩ := X
  intro a1 g1 ho H locs ls hP hS hl
  exact lv_lload hX.1 hX.2.1 hd (hl.2.2 (5, _) (et_L_mem.mpr rfl)) (k a1 g1 ho H locs ls hP hS hl)
theorem zi_aload5 {a0 a1 a2 a3 a4 : Option Value} {x : Nat} (hX : et_Gd X w b own nL ret tb rm) (hd : decode b pc = .ok (.aload 5, 2)) (k : et_Z X w u enc (pc + 2) (a0 :: a1 :: a2 :: a3 :: a4 :: some (.ref x) :: r) (.ref x :: st) g o) : et_Z X w u enc pc (a0 :: a1 :: a2 :: a3 :: a4 :: some (.ref x) :: r) st g o := by
  obtain ⟨p, l, e, R, s, m, args, below, meth, c⟩ := X
  intro a1 g1 ho H locs ls hP hS hl
  exact lv_aload hX.1 hX.2.1 hd (hl.2.2 (5, _) (et_L_mem.mpr rfl)) (k a1 g1 ho H locs ls hP hS hl)
theorem zi_istore5 {a0 a1 a2 a3 a4 : Option Value} {z : Option Value} {x : Int32} (hX : et_Gd X w b own nL ret tb rm) (hd : decode b pc = .ok (.istore 5, 2)) (hn : Nat.ble 6 nL = true) (hc : et_c1 a4 = true) (k : et_Z X w u enc (pc + 2) (a0 :: a1 :: a2 :: a3 :: a4 :: some (.int x) :: r) st g o) : et_Z X w u enc pc (a0 :: a1 :: a2 :: a3 :: a4 :: z :: r) (.int x :: st) g o := by
  obtain ⟨p, l, e, R, s, m, args, below, meth, c⟩ := X
  intro az g1 ho H locs ls hP hS hl
  refine lv_istore hX.1 hX.2.1 hd hl (by rw [hX.2.2.1]; exact Nat.le_of_ble_eq_true hn) rfl (fun ls2 h2 => k az g1 ho H locs ls2 hP hS (et_st1 h2 fun j v2 hj => ?_))
  match j with
    | 0 => exact Or.inr ⟨by decide, hj, fun h => by omega⟩
    | 1 => exact Or.inr ⟨by decide, hj, fun h => by omega⟩
    | 2 => exact Or.inr ⟨by decide, hj, fun h => by omega⟩
    | 3 => exact Or.inr ⟨by decide, hj, fun h => by omega⟩
    | 4 => exact Or.inr ⟨by decide, hj, fun h => by exact et_c1_cat hc (Option.some.inj hj)⟩
    | 5 => exact Or.inl ⟨rfl, (Option.some.inj (Option.some.inj hj)).symm⟩
    | j + 6 => exact Or.inr ⟨by omega, hj, fun h => by omega⟩
theorem zi_astore5 {a0 a1 a2 a3 a4 : Option Value} {z : Option Value} {x : Nat} (hX : et_Gd X w b own nL ret tb rm) (hd : decode b pc = .ok (.astore 5, 2)) (hn : Nat.ble 6 nL = true) (hc : et_c1 a4 = true) (k : et_Z X w u enc (pc + 2) (a0 :: a1 :: a2 :: a3 :: a4 :: some (.ref x) :: r) st g o) : et_Z X w u enc pc (a0 :: a1 :: a2 :: a3 :: a4 :: z :: r) (.ref x :: st) g o := by
  obtain ⟨p, l, e, R, s, m, args, below, meth, c⟩ := X
  intro az g1 ho H locs ls hP hS hl
  refine lv_astore hX.1 hX.2.1 hd hl (by rw [hX.2.2.1]; exact Nat.le_of_ble_eq_true hn) rfl (fun ls2 h2 => k az g1 ho H locs ls2 hP hS (et_st1 h2 fun j v2 hj => ?_))
  match j with
    | 0 => exact Or.inr ⟨by decide, hj, fun h => by omega⟩
    | 1 => exact Or.inr ⟨by decide, hj, fun h => by omega⟩
    | 2 => exact Or.inr ⟨by decide, hj, fun h => by omega⟩
    | 3 => exact Or.inr ⟨by decide, hj, fun h => by omega⟩
    | 4 => exact Or.inr ⟨by decide, hj, fun h => by exact et_c1_cat hc (Option.some.inj hj)⟩
    | 5 => exact Or.inl ⟨rfl, (Option.some.inj (Option.some.inj hj)).symm⟩
    | j + 6 => exact Or.inr ⟨by omega, hj, fun h => by omega⟩
theorem zi_iinc5 {a0 a1 a2 a3 a4 : Option Value} {x v : Int32} {n : Int} (hX : et_Gd X w b own nL ret tb rm) (hd : decode b pc = .ok (.iinc 5 n, 3)) (hv : x + Int32.ofInt n = v) (hn : Nat.ble 6 nL = true) (hc : et_c1 a4 = true) (k : et_Z X w u enc (pc + 3) (a0 :: a1 :: a2 :: a3 :: a4 :: some (.int v) :: r) st g o) : et_Z X w u enc pc (a0 :: a1 :: a2 :: a3 :: a4 :: some (.int x) :: r) st g o := by
  obtain ⟨p, l, e, R, s, m, args, below, meth, c⟩ := X
  intro az g1 ho H locs ls hP hS hl
  obtain ⟨q, hq⟩ := List.getElem?_of_mem (et_L_mem.mpr (rfl : (a0 :: a1 :: a2 :: a3 :: a4 :: some (.int x) :: r)[5]? = some (some (Value.int x))))
  refine lv_iinc hX.1 hX.2.1 hd hl hq hv (by rw [hX.2.2.1]; exact Nat.le_of_ble_eq_true hn) rfl (fun ls2 h2 => k az g1 ho H locs ls2 hP hS (et_st1 h2 fun j v2 hj => ?_))
  match j with
    | 0 => exact Or.inr ⟨by decide, hj, fun h => by omega⟩
    | 1 => exact Or.inr ⟨by decide, hj, fun h => by omega⟩
    | 2 => exact Or.inr ⟨by decide, hj, fun h => by omega⟩
    | 3 => exact Or.inr ⟨by decide, hj, fun h => by omega⟩
    | 4 => exact Or.inr ⟨by decide, hj, fun h => by exact et_c1_cat hc (Option.some.inj hj)⟩
    | 5 => exact Or.inl ⟨rfl, (Option.some.inj (Option.some.inj hj)).symm⟩
    | j + 6 => exact Or.inr ⟨by omega, hj, fun h => by omega⟩
theorem zi_lstore5 {a0 a1 a2 a3 a4 : Option Value} {z z2 : Option Value} {x : Int64} (hX : et_Gd X w b own nL ret tb rm) (hd : decode b pc = .ok (.lstore 5, 2)) (hn : Nat.ble 7 nL = true) (hc : et_c1 a4 = true) (k : et_Z X w u enc (pc + 2) (a0 :: a1 :: a2 :: a3 :: a4 :: some (.long x) :: none :: r) st g o) : et_Z X w u enc pc (a0 :: a1 :: a2 :: a3 :: a4 :: z :: z2 :: r) (.long x :: st) g o := by
  obtain ⟨p, l, e, R, s, m, args, below, meth, c⟩ := X
  intro az g1 ho H locs ls hP hS hl
  refine lv_lstore hX.1 hX.2.1 hd hl (by rw [hX.2.2.1]; exact Nat.le_of_ble_eq_true hn) rfl (fun ls2 h2 => k az g1 ho H locs ls2 hP hS (et_st2 h2 fun j v2 hj => ?_))
  match j with
    | 0 => exact Or.inr ⟨by decide, by decide, hj, fun h => by omega⟩
    | 1 => exact Or.inr ⟨by decide, by decide, hj, fun h => by omega⟩
    | 2 => exact Or.inr ⟨by decide, by decide, hj, fun h => by omega⟩
    | 3 => exact Or.inr ⟨by decide, by decide, hj, fun h => by omega⟩
    | 4 => exact Or.inr ⟨by decide, by decide, hj, fun h => by exact et_c1_cat hc (Option.some.inj hj)⟩
    | 5 => exact Or.inl ⟨rfl, (Option.some.inj (Option.some.inj hj)).symm⟩
    | 6 => cases hj
    | j + 7 => exact Or.inr ⟨by omega, by omega, hj, fun h => by omega⟩
theorem zi_iload6 {a0 a1 a2 a3 a4 a5 : Option Value} {x : Int32} (hX : et_Gd X w b own nL ret tb rm) (hd : decode b pc = .ok (.iload 6, 2)) (k : et_Z X w u enc (pc + 2) (a0 :: a1 :: a2 :: a3 :: a4 :: a5 :: some (.int x) :: r) (.int x :: st) g o) : et_Z X w u enc pc (a0 :: a1 :: a2 :: a3 :: a4 :: a5 :: some (.int x) :: r) st g o := by
  obtain ⟨p, l, e, R, s, m, args, below, meth, c⟩ := X
  intro a1 g1 ho H locs ls hP hS hl
  exact lv_iload hX.1 hX.2.1 hd (hl.2.2 (6, _) (et_L_mem.mpr rfl)) (k a1 g1 ho H locs ls hP hS hl)
theorem zi_lload6 {a0 a1 a2 a3 a4 a5 : Option Value} {x : Int64} (hX : et_Gd X w b own nL ret tb rm) (hd : decode b pc = .ok (.lload 6, 2)) (k : et_Z X w u enc (pc + 2) (a0 :: a1 :: a2 :: a3 :: a4 :: a5 :: some (.long x) :: r) (.long x :: st) g o) : et_Z X w u enc pc (a0 :: a1 :: a2 :: a3 :: a4 :: a5 :: some (.long x) :: r) st g o := by
  obtain ⟨p, l, e, R, s, m, args, below, meth, c⟩ := X
  intro a1 g1 ho H locs ls hP hS hl
  exact lv_lload hX.1 hX.2.1 hd (hl.2.2 (6, _) (et_L_mem.mpr rfl)) (k a1 g1 ho H locs ls hP hS hl)
theorem zi_aload6 {a0 a1 a2 a3 a4 a5 : Option Value} {x : Nat} (hX : et_Gd X w b own nL ret tb rm) (hd : decode b pc = .ok (.aload 6, 2)) (k : et_Z X w u enc (pc + 2) (a0 :: a1 :: a2 :: a3 :: a4 :: a5 :: some (.ref x) :: r) (.ref x :: st) g o) : et_Z X w u enc pc (a0 :: a1 :: a2 :: a3 :: a4 :: a5 :: some (.ref x) :: r) st g o := by
  obtain ⟨p, l, e, R, s, m, args, below, meth, c⟩ := X
  intro a1 g1 ho H locs ls hP hS hl
  exact lv_aload hX.1 hX.2.1 hd (hl.2.2 (6, _) (et_L_mem.mpr rfl)) (k a1 g1 ho H locs ls hP hS hl)
theorem zi_istore6 {a0 a1 a2 a3 a4 a5 : Option Value} {z : Option Value} {x : Int32} (hX : et_Gd X w b own nL ret tb rm) (hd : decode b pc = .ok (.istore 6, 2)) (hn : Nat.ble 7 nL = true) (hc : et_c1 a5 = true) (k : et_Z X w u enc (pc + 2) (a0 :: a1 :: a2 :: a3 :: a4 :: a5 :: some (.int x) :: r) st g o) : et_Z X w u enc pc (a0 :: a1 :: a2 :: a3 :: a4 :: a5 :: z :: r) (.int x :: st) g o := by
  obtain ⟨p, l, e, R, s, m, args, below, meth, c⟩ := X
  intro az g1 ho H locs ls hP hS hl
  refine lv_istore hX.1 hX.2.1 hd hl (by rw [hX.2.2.1]; exact Nat.le_of_ble_eq_true hn) rfl (fun ls2 h2 => k az g1 ho H locs ls2 hP hS (et_st1 h2 fun j v2 hj => ?_))
  match j with
    | 0 => exact Or.inr ⟨by decide, hj, fun h => by omega⟩
    | 1 => exact Or.inr ⟨by decide, hj, fun h => by omega⟩
    | 2 => exact Or.inr ⟨by decide, hj, fun h => by omega⟩
    | 3 => exact Or.inr ⟨by decide, hj, fun h => by omega⟩
    | 4 => exact Or.inr ⟨by decide, hj, fun h => by omega⟩
    | 5 => exact Or.inr ⟨by decide, hj, fun h => by exact et_c1_cat hc (Option.some.inj hj)⟩
    | 6 => exact Or.inl ⟨rfl, (Option.some.inj (Option.some.inj hj)).symm⟩
    | j + 7 => exact Or.inr ⟨by omega, hj, fun h => by omega⟩
theorem zi_astore6 {a0 a1 a2 a3 a4 a5 : Option Value} {z : Option Value} {x : Nat} (hX : et_Gd X w b own nL ret tb rm) (hd : decode b pc = .ok (.astore 6, 2)) (hn : Nat.ble 7 nL = true) (hc : et_c1 a5 = true) (k : et_Z X w u enc (pc + 2) (a0 :: a1 :: a2 :: a3 :: a4 :: a5 :: some (.ref x) :: r) st g o) : et_Z X w u enc pc (a0 :: a1 :: a2 :: a3 :: a4 :: a5 :: z :: r) (.ref x :: st) g o := by
  obtain ⟨p, l, e, R, s, m, args, below, meth, c⟩ := X
  intro az g1 ho H locs ls hP hS hl
  refine lv_astore hX.1 hX.2.1 hd hl (by rw [hX.2.2.1]; exact Nat.le_of_ble_eq_true hn) rfl (fun ls2 h2 => k az g1 ho H locs ls2 hP hS (et_st1 h2 fun j v2 hj => ?_))
  match j with
    | 0 => exact Or.inr ⟨by decide, hj, fun h => by omega⟩
    | 1 => exact Or.inr ⟨by decide, hj, fun h => by omega⟩
    | 2 => exact Or.inr ⟨by decide, hj, fun h => by omega⟩
    | 3 => exact Or.inr ⟨by decide, hj, fun h => by omega⟩
    | 4 => exact Or.inr ⟨by decide, hj, fun h => by omega⟩
    | 5 => exact Or.inr ⟨by decide, hj, fun h => by exact et_c1_cat hc (Option.some.inj hj)⟩
    | 6 => exact Or.inl ⟨rfl, (Option.some.inj (Option.some.inj hj)).symm⟩
    | j + 7 => exact Or.inr ⟨by omega, hj, fun h => by omega⟩
theorem zi_iinc6 {a0 a1 a2 a3 a4 a5 : Option Value} {x v : Int32} {n : Int} (hX : et_Gd X w b own nL ret tb rm) (hd : decode b pc = .ok (.iinc 6 n, 3)) (hv : x + Int32.ofInt n = v) (hn : Nat.ble 7 nL = true) (hc : et_c1 a5 = true) (k : et_Z X w u enc (pc + 3) (a0 :: a1 :: a2 :: a3 :: a4 :: a5 :: some (.int v) :: r) st g o) : et_Z X w u enc pc (a0 :: a1 :: a2 :: a3 :: a4 :: a5 :: some (.int x) :: r) st g o := by
  obtain ⟨p, l, e, R, s, m, args, below, meth, c⟩ := X
  intro az g1 ho H locs ls hP hS hl
  obtain ⟨q, hq⟩ := List.getElem?_of_mem (et_L_mem.mpr (rfl : (a0 :: a1 :: a2 :: a3 :: a4 :: a5 :: some (.int x) :: r)[6]? = some (some (Value.int x))))
  refine lv_iinc hX.1 hX.2.1 hd hl hq hv (by rw [hX.2.2.1]; exact Nat.le_of_ble_eq_true hn) rfl (fun ls2 h2 => k az g1 ho H locs ls2 hP hS (et_st1 h2 fun j v2 hj => ?_))
  match j with
    | 0 => exact Or.inr ⟨by decide, hj, fun h => by omega⟩
    | 1 => exact Or.inr ⟨by decide, hj, fun h => by omega⟩
    | 2 => exact Or.inr ⟨by decide, hj, fun h => by omega⟩
    | 3 => exact Or.inr ⟨by decide, hj, fun h => by omega⟩
    | 4 => exact Or.inr ⟨by decide, hj, fun h => by omega⟩
    | 5 => exact Or.inr ⟨by decide, hj, fun h => by exact et_c1_cat hc (Option.some.inj hj)⟩
    | 6 => exact Or.inl ⟨rfl, (Option.some.inj (Option.some.inj hj)).symm⟩
    | j + 7 => exact Or.inr ⟨by omega, hj, fun h => by omega⟩
theorem zi_lstore6 {a0 a1 a2 a3 a4 a5 : Option Value} {z z2 : Option Value} {x : Int64} (hX : et_Gd X w b own nL ret tb rm) (hd : decode b pc = .ok (.lstore 6, 2)) (hn : Nat.ble 8 nL = true) (hc : et_c1 a5 = true) (k : et_Z X w u enc (pc + 2) (a0 :: a1 :: a2 :: a3 :: a4 :: a5 :: some (.long x) :: none :: r) st g o) : et_Z X w u enc pc (a0 :: a1 :: a2 :: a3 :: a4 :: a5 :: z :: z2 :: r) (.long x :: st) g o := by
  obtain ⟨p, l, e, R, s, m, args, below, meth, c⟩ := X
  intro az g1 ho H locs ls hP hS hl
  refine lv_lstore hX.1 hX.2.1 hd hl (by rw [hX.2.2.1]; exact Nat.le_of_ble_eq_true hn) rfl (fun ls2 h2 => k az g1 ho H locs ls2 hP hS (et_st2 h2 fun j v2 hj => ?_))
  match j with
    | 0 => exact Or.inr ⟨by decide, by decide, hj, fun h => by omega⟩
    | 1 => exact Or.inr ⟨by decide, by decide, hj, fun h => by omega⟩
    | 2 => exact Or.inr ⟨by decide, by decide, hj, fun h => by omega⟩
    | 3 => exact Or.inr ⟨by decide, by decide, hj, fun h => by omega⟩
    | 4 => exact Or.inr ⟨by decide, by decide, hj, fun h => by omega⟩
    | 5 => exact Or.inr ⟨by decide, by decide, hj, fun h => by exact et_c1_cat hc (Option.some.inj hj)⟩
    | 6 => exact Or.inl ⟨rfl, (Option.some.inj (Option.some.inj hj)).symm⟩
    | 7 => cases hj
    | j + 8 => exact Or.inr ⟨by omega, by omega, hj, fun h => by omega⟩
theorem zi_iload7 {a0 a1 a2 a3 a4 a5 a6 : Option Value} {x : Int32} (hX : et_Gd X w b own nL ret tb rm) (hd : decode b pc = .ok (.iload 7, 2)) (k : et_Z X w u enc (pc + 2) (a0 :: a1 :: a2 :: a3 :: a4 :: a5 :: a6 :: some (.int x) :: r) (.int x :: st) g o) : et_Z X w u enc pc (a0 :: a1 :: a2 :: a3 :: a4 :: a5 :: a6 :: some (.int x) :: r) st g o := by
  obtain ⟨p, l, e, R, s, m, args, below, meth, c⟩ := X
  intro a1 g1 ho H locs ls hP hS hl
  exact lv_iload hX.1 hX.2.1 hd (hl.2.2 (7, _) (et_L_mem.mpr rfl)) (k a1 g1 ho H locs ls hP hS hl)
theorem zi_lload7 {a0 a1 a2 a3 a4 a5 a6 : Option Value} {x : Int64} (hX : et_Gd X w b own nL ret tb rm) (hd : decode b pc = .ok (.lload 7, 2)) (k : et_Z X w u enc (pc + 2) (a0 :: a1 :: a2 :: a3 :: a4 :: a5 :: a6 :: some (.long x) :: r) (.long x :: st) g o) : et_Z X w u enc pc (a0 :: a1 :: a2 :: a3 :: a4 :: a5 :: a6 :: some (.long x) :: r) st g o := by
  obtain ⟨p, l, e, R, s, m, args, below, meth, c⟩ := X
  intro a1 g1 ho H locs ls hP hS hl
  exact lv_lload hX.1 hX.2.1 hd (hl.2.2 (7, _) (et_L_mem.mpr rfl)) (k a1 g1 ho H locs ls hP hS hl)
theorem zi_aload7 {a0 a1 a2 a3 a4 a5 a6 : Option Value} {x : Nat} (hX : et_Gd X w b own nL ret tb rm) (hd : decode b pc = .ok (.aload 7, 2)) (k : et_Z X w u enc (pc + 2) (a0 :: a1 :: a2 :: a3 :: a4 :: a5 :: a6 :: some (.ref x) :: r) (.ref x :: st) g o) : et_Z X w u enc pc (a0 :: a1 :: a2 :: a3 :: a4 :: a5 :: a6 :: some (.ref x) :: r) st g o := by
  obtain ⟨p, l, e, R, s, m, args, below, meth, c⟩ := X
  intro a1 g1 ho H locs ls hP hS hl
  exact lv_aload hX.1 hX.2.1 hd (hl.2.2 (7, _) (et_L_mem.mpr rfl)) (k a1 g1 ho H locs ls hP hS hl)
theorem zi_istore7 {a0 a1 a2 a3 a4 a5 a6 : Option Value} {z : Option Value} {x : Int32} (hX : et_Gd X w b own nL ret tb rm) (hd : decode b pc = .ok (.istore 7, 2)) (hn : Nat.ble 8 nL = true) (hc : et_c1 a6 = true) (k : et_Z X w u enc (pc + 2) (a0 :: a1 :: a2 :: a3 :: a4 :: a5 :: a6 :: some (.int x) :: r) st g o) : et_Z X w u enc pc (a0 :: a1 :: a2 :: a3 :: a4 :: a5 :: a6 :: z :: r) (.int x :: st) g o := by
  obtain ⟨p, l, e, R, s, m, args, below, meth, c⟩ := X
  intro az g1 ho H locs ls hP hS hl
  refine lv_istore hX.1 hX.2.1 hd hl (by rw [hX.2.2.1]; exact Nat.le_of_ble_eq_true hn) rfl (fun ls2 h2 => k az g1 ho H locs ls2 hP hS (et_st1 h2 fun j v2 hj => ?_))
  match j with
    | 0 => exact Or.inr ⟨by decide, hj, fun h => by omega⟩
    | 1 => exact Or.inr ⟨by decide, hj, fun h => by omega⟩
    | 2 => exact Or.inr ⟨by decide, hj, fun h => by omega⟩
    | 3 => exact Or.inr ⟨by decide, hj, fun h => by omega⟩
    | 4 => exact Or.inr ⟨by decide, hj, fun h => by omega⟩
    | 5 => exact Or.inr ⟨by decide, hj, fun h => by omega⟩
    | 6 => exact Or.inr ⟨by decide, hj, fun h => by exact et_c1_cat hc (Option.some.inj hj)⟩
    | 7 => exact Or.inl ⟨rfl, (Option.some.inj (Option.some.inj hj)).symm⟩
    | j + 8 => exact Or.inr ⟨by omega, hj, fun h => by omega⟩
theorem zi_astore7 {a0 a1 a2 a3 a4 a5 a6 : Option Value} {z : Option Value} {x : Nat} (hX : et_Gd X w b own nL ret tb rm) (hd : decode b pc = .ok (.astore 7, 2)) (hn : Nat.ble 8 nL = true) (hc : et_c1 a6 = true) (k : et_Z X w u enc (pc + 2) (a0 :: a1 :: a2 :: a3 :: a4 :: a5 :: a6 :: some (.ref x) :: r) st g o) : et_Z X w u enc pc (a0 :: a1 :: a2 :: a3 :: a4 :: a5 :: a6 :: z :: r) (.ref x :: st) g o := by
  obtain ⟨p, l, e, R, s, m, args, below, meth, c⟩ := X
  intro az g1 ho H locs ls hP hS hl
  refine lv_astore hX.1 hX.2.1 hd hl (by rw [hX.2.2.1]; exact Nat.le_of_ble_eq_true hn) rfl (fun ls2 h2 => k az g1 ho H locs ls2 hP hS (et_st1 h2 fun j v2 hj => ?_))
  match j with
    | 0 => exact Or.inr ⟨by decide, hj, fun h => by omega⟩
    | 1 => exact Or.inr ⟨by decide, hj, fun h => by omega⟩
    | 2 => exact Or.inr ⟨by decide, hj, fun h => by omega⟩
    | 3 => exact Or.inr ⟨by decide, hj, fun h => by omega⟩
    | 4 => exact Or.inr ⟨by decide, hj, fun h => by omega⟩
    | 5 => exact Or.inr ⟨by decide, hj, fun h => by omega⟩
    | 6 => exact Or.inr ⟨by decide, hj, fun h => by exact et_c1_cat hc (Option.some.inj hj)⟩
    | 7 => exact Or.inl ⟨rfl, (Option.some.inj (Option.some.inj hj)).symm⟩
    | j + 8 => exact Or.inr ⟨by omega, hj, fun h => by omega⟩
theorem zi_iinc7 {a0 a1 a2 a3 a4 a5 a6 : Option Value} {x v : Int32} {n : Int} (hX : et_Gd X w b own nL ret tb rm) (hd : decode b pc = .ok (.iinc 7 n, 3)) (hv : x + Int32.ofInt n = v) (hn : Nat.ble 8 nL = true) (hc : et_c1 a6 = true) (k : et_Z X w u enc (pc + 3) (a0 :: a1 :: a2 :: a3 :: a4 :: a5 :: a6 :: some (.int v) :: r) st g o) : et_Z X w u enc pc (a0 :: a1 :: a2 :: a3 :: a4 :: a5 :: a6 :: some (.int x) :: r) st g o := by
  obtain ⟨p, l, e, R, s, m, args, below, meth, c⟩ := X
  intro az g1 ho H locs ls hP hS hl
  obtain ⟨q, hq⟩ := List.getElem?_of_mem (et_L_mem.mpr (rfl : (a0 :: a1 :: a2 :: a3 :: a4 :: a5 :: a6 :: some (.int x) :: r)[7]? = some (some (Value.int x))))
  refine lv_iinc hX.1 hX.2.1 hd hl hq hv (by rw [hX.2.2.1]; exact Nat.le_of_ble_eq_true hn) rfl (fun ls2 h2 => k az g1 ho H locs ls2 hP hS (et_st1 h2 fun j v2 hj => ?_))
  match j with
    | 0 => exact Or.inr ⟨by decide, hj, fun h => by omega⟩
    | 1 => exact Or.inr ⟨by decide, hj, fun h => by omega⟩
    | 2 => exact Or.inr ⟨by decide, hj, fun h => by omega⟩
    | 3 => exact Or.inr ⟨by decide, hj, fun h => by omega⟩
    | 4 => exact Or.inr ⟨by decide, hj, fun h => by omega⟩
    | 5 => exact Or.inr ⟨by decide, hj, fun h => by omega⟩
    | 6 => exact Or.inr ⟨by decide, hj, fun h => by exact et_c1_cat hc (Option.some.inj hj)⟩
    | 7 => exact Or.inl ⟨rfl, (Option.some.inj (Option.some.inj hj)).symm⟩
    | j + 8 => exact Or.inr ⟨by omega, hj, fun h => by omega⟩
theorem zi_lstore7 {a0 a1 a2 a3 a4 a5 a6 : Option Value} {z z2 : Option Value} {x : Int64} (hX : et_Gd X w b own nL ret tb rm) (hd : decode b pc = .ok (.lstore 7, 2)) (hn : Nat.ble 9 nL = true) (hc : et_c1 a6 = true) (k : et_Z X w u enc (pc + 2) (a0 :: a1 :: a2 :: a3 :: a4 :: a5 :: a6 :: some (.long x) :: none :: r) st g o) : et_Z X w u enc pc (a0 :: a1 :: a2 :: a3 :: a4 :: a5 :: a6 :: z :: z2 :: r) (.long x :: st) g o := by
  obtain ⟨p, l, e, R, s, m, args, below, meth, c⟩ := X
  intro az g1 ho H locs ls hP hS hl
  refine lv_lstore hX.1 hX.2.1 hd hl (by rw [hX.2.2.1]; exact Nat.le_of_ble_eq_true hn) rfl (fun ls2 h2 => k az g1 ho H locs ls2 hP hS (et_st2 h2 fun j v2 hj => ?_))
  match j with
    | 0 => exact Or.inr ⟨by decide, by decide, hj, fun h => by omega⟩
    | 1 => exact Or.inr ⟨by decide, by decide, hj, fun h => by omega⟩
    | 2 => exact Or.inr ⟨by decide, by decide, hj, fun h => by omega⟩
    | 3 => exact Or.inr ⟨by decide, by decide, hj, fun h => by omega⟩
    | 4 => exact Or.inr ⟨by decide, by decide, hj, fun h => by omega⟩
    | 5 => exact Or.inr ⟨by decide, by decide, hj, fun h => by omega⟩
    | 6 => exact Or.inr ⟨by decide, by decide, hj, fun h => by exact et_c1_cat hc (Option.some.inj hj)⟩
    | 7 => exact Or.inl ⟨rfl, (Option.some.inj (Option.some.inj hj)).symm⟩
    | 8 => cases hj
    | j + 9 => exact Or.inr ⟨by omega, by omega, hj, fun h => by omega⟩
theorem zi_iload8 {a0 a1 a2 a3 a4 a5 a6 a7 : Option Value} {x : Int32} (hX : et_Gd X w b own nL ret tb rm) (hd : decode b pc = .ok (.iload 8, 2)) (k : et_Z X w u enc (pc + 2) (a0 :: a1 :: a2 :: a3 :: a4 :: a5 :: a6 :: a7 :: some (.int x) :: r) (.int x :: st) g o) : et_Z X w u enc pc (a0 :: a1 :: a2 :: a3 :: a4 :: a5 :: a6 :: a7 :: some (.int x) :: r) st g o := by
  obtain ⟨p, l, e, R, s, m, args, below, meth, c⟩ := X
  intro a1 g1 ho H locs ls hP hS hl
  exact lv_iload hX.1 hX.2.1 hd (hl.2.2 (8, _) (et_L_mem.mpr rfl)) (k a1 g1 ho H locs ls hP hS hl)
theorem zi_lload8 {a0 a1 a2 a3 a4 a5 a6 a7 : Option Value} {x : Int64} (hX : et_Gd X w b own nL ret tb rm) (hd : decode b pc = .ok (.lload 8, 2)) (k : et_Z X w u enc (pc + 2) (a0 :: a1 :: a2 :: a3 :: a4 :: a5 :: a6 :: a7 :: some (.long x) :: r) (.long x :: st) g o) : et_Z X w u enc pc (a0 :: a1 :: a2 :: a3 :: a4 :: a5 :: a6 :: a7 :: some (.long x) :: r) st g o := by
  obtain ⟨p, l, e, R, s, m, args, below, meth, c⟩ := X
  intro a1 g1 ho H locs ls hP hS hl
  exact lv_lload hX.1 hX.2.1 hd (hl.2.2 (8, _) (et_L_mem.mpr rfl)) (k a1 g1 ho H locs ls hP hS hl)
theorem zi_aload8 {a0 a1 a2 a3 a4 a5 a6 a7 : Option Value} {x : Nat} (hX : et_Gd X w b own nL ret tb rm) (hd : decode b pc = .ok (.aload 8, 2)) (k : et_Z X w u enc (pc + 2) (a0 :: a1 :: a2 :: a3 :: a4 :: a5 :: a6 :: a7 :: some (.ref x) :: r) (.ref x :: st) g o) : et_Z X w u enc pc (a0 :: a1 :: a2 :: a3 :: a4 :: a5 :: a6 :: a7 :: some (.ref x) :: r) st g o := by
  obtain ⟨p, l, e, R, s, m, args, below, meth, c⟩ := X
  intro a1 g1 ho H locs ls hP hS hl
  exact lv_aload hX.1 hX.2.1 hd (hl.2.2 (8, _) (et_L_mem.mpr rfl)) (k a1 g1 ho H locs ls hP hS hl)
theorem zi_istore8 {a0 a1 a2 a3 a4 a5 a6 a7 : Option Value} {z : Option Value} {x : Int32} (hX : et_Gd X w b own nL ret tb rm) (hd : decode b pc = .ok (.istore 8, 2)) (hn : Nat.ble 9 nL = true) (hc : et_c1 a7 = true) (k : et_Z X w u enc (pc + 2) (a0 :: a1 :: a2 :: a3 :: a4 :: a5 :: a6 :: a7 :: some (.int x) :: r) st g o) : et_Z X w u enc pc (a0 :: a1 :: a2 :: a3 :: a4 :: a5 :: a6 :: a7 :: z :: r) (.int x :: st) g o := by
  obtain ⟨p, l, e, R, s, m, args, below, meth, c⟩ := X
  intro az g1 ho H locs ls hP hS hl
  refine lv_istore hX.1 hX.2.1 hd hl (by rw [hX.2.2.1]; exact Nat.le_of_ble_eq_true hn) rfl (fun ls2 h2 => k az g1 ho H locs ls2 hP hS (et_st1 h2 fun j v2 hj => ?_))
  match j with
    | 0 => exact Or.inr ⟨by decide, hj, fun h => by omega⟩
    | 1 => exact Or.inr ⟨by decide, hj, fun h => by omega⟩
    | 2 => exact Or.inr ⟨by decide, hj, fun h => by omega⟩
    | 3 => exact Or.inr ⟨by decide, hj, fun h => by omega⟩
    | 4 => exact Or.inr ⟨by decide, hj, fun h => by omega⟩
    | 5 => exact Or.inr ⟨by decide, hj, fun h => by omega⟩
    | 6 => exact Or.inr ⟨by decide, hj, fun h => by omega⟩
    | 7 => exact Or.inr ⟨by decide, hj, fun h => by exact et_c1_cat hc (Option.some.inj hj)⟩
    | 8 => exact Or.inl ⟨rfl, (Option.some.inj (Option.some.inj hj)).symm⟩
    | j + 9 => exact Or.inr ⟨by omega, hj, fun h => by omega⟩
theorem zi_astore8 {a0 a1 a2 a3 a4 a5 a6 a7 : Option Value} {z : Option Value} {x : Nat} (hX : et_Gd X w b own nL ret tb rm) (hd : decode b pc = .ok (.astore 8, 2)) (hn : Nat.ble 9 nL = true) (hc : et_c1 a7 = true) (k : et_Z X w u enc (pc + 2) (a0 :: a1 :: a2 :: a3 :: a4 :: a5 :: a6 :: a7 :: some (.ref x) :: r) st g o) : et_Z X w u enc pc (a0 :: a1 :: a2 :: a3 :: a4 :: a5 :: a6 :: a7 :: z :: r) (.ref x :: st) g o := by
  obtain ⟨p, l, e, R, s, m, args, below, meth, c⟩ := X
  intro az g1 ho H locs ls hP hS hl
  refine lv_astore hX.1 hX.2.1 hd hl (by rw [hX.2.2.1]; exact Nat.le_of_ble_eq_true hn) rfl (fun ls2 h2 => k az g1 ho H locs ls2 hP hS (et_st1 h2 fun j v2 hj => ?_))
  match j with
    | 0 => exact Or.inr ⟨by decide, hj, fun h => by omega⟩
    | 1 => exact Or.inr ⟨by decide, hj, fun h => by omega⟩
    | 2 => exact Or.inr ⟨by decide, hj, fun h => by omega⟩
    | 3 => exact Or.inr ⟨by decide, hj, fun h => by omega⟩
    | 4 => exact Or.inr ⟨by decide, hj, fun h => by omega⟩
    | 5 => exact Or.inr ⟨by decide, hj, fun h => by omega⟩
    | 6 => exact Or.inr ⟨by decide, hj, fun h => by omega⟩
    | 7 => exact Or.inr ⟨by decide, hj, fun h => by exact et_c1_cat hc (Option.some.inj hj)⟩
    | 8 => exact Or.inl ⟨rfl, (Option.some.inj (Option.some.inj hj)).symm⟩
    | j + 9 => exact Or.inr ⟨by omega, hj, fun h => by omega⟩
theorem zi_iinc8 {a0 a1 a2 a3 a4 a5 a6 a7 : Option Value} {x v : Int32} {n : Int} (hX : et_Gd X w b own nL ret tb rm) (hd : decode b pc = .ok (.iinc 8 n, 3)) (hv : x + Int32.ofInt n = v) (hn : Nat.ble 9 nL = true) (hc : et_c1 a7 = true) (k : et_Z X w u enc (pc + 3) (a0 :: a1 :: a2 :: a3 :: a4 :: a5 :: a6 :: a7 :: some (.int v) :: r) st g o) : et_Z X w u enc pc (a0 :: a1 :: a2 :: a3 :: a4 :: a5 :: a6 :: a7 :: some (.int x) :: r) st g o := by
  obtain ⟨p, l, e, R, s, m, args, below, meth, c⟩ := X
  intro az g1 ho H locs ls hP hS hl
  obtain ⟨q, hq⟩ := List.getElem?_of_mem (et_L_mem.mpr (rfl : (a0 :: a1 :: a2 :: a3 :: a4 :: a5 :: a6 :: a7 :: some (.int x) :: r)[8]? = some (some (Value.int x))))
  refine lv_iinc hX.1 hX.2.1 hd hl hq hv (by rw [hX.2.2.1]; exact Nat.le_of_ble_eq_true hn) rfl (fun ls2 h2 => k az g1 ho H locs ls2 hP hS (et_st1 h2 fun j v2 hj => ?_))
  match j with
    | 0 => exact Or.inr ⟨by decide, hj, fun h => by omega⟩
    | 1 => exact Or.inr ⟨by decide, hj, fun h => by omega⟩
    | 2 => exact Or.inr ⟨by decide, hj, fun h => by omega⟩
    | 3 => exact Or.inr ⟨by decide, hj, fun h => by omega⟩
    | 4 => exact Or.inr ⟨by decide, hj, fun h => by omega⟩
    | 5 => exact Or.inr ⟨by decide, hj, fun h => by omega⟩
    | 6 => exact Or.inr ⟨by decide, hj, fun h => by omega⟩
    | 7 => exact Or.inr ⟨by decide, hj, fun h => by exact et_c1_cat hc (Option.some.inj hj)⟩
    | 8 => exact Or.inl ⟨rfl, (Option.some.inj (Option.some.inj hj)).symm⟩
    | j + 9 => exact Or.inr ⟨by omega, hj, fun h => by omega⟩
theorem zi_lstore8 {a0 a1 a2 a3 a4 a5 a6 a7 : Option Value} {z z2 : Option Value} {x : Int64} (hX : et_Gd X w b own nL ret tb rm) (hd : decode b pc = .ok (.lstore 8, 2)) (hn : Nat.ble 10 nL = true) (hc : et_c1 a7 = true) (k : et_Z X w u enc (pc + 2) (a0 :: a1 :: a2 :: a3 :: a4 :: a5 :: a6 :: a7 :: some (.long x) :: none :: r) st g o) : et_Z X w u enc pc (a0 :: a1 :: a2 :: a3 :: a4 :: a5 :: a6 :: a7 :: z :: z2 :: r) (.long x :: st) g o := by
  obtain ⟨p, l, e, R, s, m, args, below, meth, c⟩ := X
  intro az g1 ho H locs ls hP hS hl
  refine lv_lstore hX.1 hX.2.1 hd hl (by rw [hX.2.2.1]; exact Nat.le_of_ble_eq_true hn) rfl (fun ls2 h2 => k az g1 ho H locs ls2 hP hS (et_st2 h2 fun j v2 hj => ?_))
  match j with
    | 0 => exact Or.inr ⟨by decide, by decide, hj, fun h => by omega⟩
    | 1 => exact Or.inr ⟨by decide, by decide, hj, fun h => by omega⟩
    | 2 => exact Or.inr ⟨by decide, by decide, hj, fun h => by omega⟩
    | 3 => exact Or.inr ⟨by decide, by decide, hj, fun h => by omega⟩
    | 4 => exact Or.inr ⟨by decide, by decide, hj, fun h => by omega⟩
    | 5 => exact Or.inr ⟨by decide, by decide, hj, fun h => by omega⟩
    | 6 => exact Or.inr ⟨by decide, by decide, hj, fun h => by omega⟩
    | 7 => exact Or.inr ⟨by decide, by decide, hj, fun h => by exact et_c1_cat hc (Option.some.inj hj)⟩
    | 8 => exact Or.inl ⟨rfl, (Option.some.inj (Option.some.inj hj)).symm⟩
    | 9 => cases hj
    | j + 10 => exact Or.inr ⟨by omega, by omega, hj, fun h => by omega⟩
theorem zi_iload9 {a0 a1 a2 a3 a4 a5 a6 a7 a8 : Option Value} {x : Int32} (hX : et_Gd X w b own nL ret tb rm) (hd : decode b pc = .ok (.iload 9, 2)) (k : et_Z X w u enc (pc + 2) (a0 :: a1 :: a2 :: a3 :: a4 :: a5 :: a6 :: a7 :: a8 :: some (.int x) :: r) (.int x :: st) g o) : et_Z X w u enc pc (a0 :: a1 :: a2 :: a3 :: a4 :: a5 :: a6 :: a7 :: a8 :: some (.int x) :: r) st g o := by
  obtain ⟨p, l, e, R, s, m, args, below, meth, c⟩ := X
  intro a1 g1 ho H locs ls hP hS hl
  exact lv_iload hX.1 hX.2.1 hd (hl.2.2 (9, _) (et_L_mem.mpr rfl)) (k a1 g1 ho H locs ls hP hS hl)
theorem zi_lload9 {a0 a1 a2 a3 a4 a5 a6 a7 a8 : Option Value} {x : Int64} (hX : et_Gd X w b own nL ret tb rm) (hd : decode b pc = .ok (.lload 9, 2)) (k : et_Z X w u enc (pc + 2) (a0 :: a1 :: a2 :: a3 :: a4 :: a5 :: a6 :: a7 :: a8 :: some (.long x) :: r) (.long x :: st) g o) : et_Z X w u enc pc (a0 :: a1 :: a2 :: a3 :: a4 :: a5 :: a6 :: a7 :: a8 :: some (.long x) :: r) st g o := by
  obtain ⟨p, l, e, R, s, m, args, below, meth, c⟩ := X
  intro a1 g1 ho H locs ls hP hS hl
  exact lv_lload hX.1 hX.2.1 hd (hl.2.2 (9, _) (et_L_mem.mpr rfl)) (k a1 g1 ho H locs ls hP hS hl)
theorem zi_aload9 {a0 a1 a2 a3 a4 a5 a6 a7 a8 : Option Value} {x : Nat} (hX : et_Gd X w b own nL ret tb rm) (hd : decode b pc = .ok (.aload 9, 2)) (k : et_Z X w u enc (pc + 2) (a0 :: a1 :: a2 :: a3 :: a4 :: a5 :: a6 :: a7 :: a8 :: some (.ref x) :: r) (.ref x :: st) g o) : et_Z X w u enc pc (a0 :: a1 :: a2 :: a3 :: a4 :: a5 :: a6 :: a7 :: a8 :: some (.ref x) :: r) st g o := by
  obtain ⟨p, l, e, R, s, m, args, below, meth, c⟩ := X
  intro a1 g1 ho H locs ls hP hS hl
  exact lv_aload hX.1 hX.2.1 hd (hl.2.2 (9, _) (et_L_mem.mpr rfl)) (k a1 g1 ho H locs ls hP hS hl)
theorem zi_istore9 {a0 a1 a2 a3 a4 a5 a6 a7 a8 : Option Value} {z : Option Value} {x : Int32} (hX : et_Gd X w b own nL ret tb rm) (hd : decode b pc = .ok (.istore 9, 2)) (hn : Nat.ble 10 nL = true) (hc : et_c1 a8 = true) (k : et_Z X w u enc (pc + 2) (a0 :: a1 :: a2 :: a3 :: a4 :: a5 :: a6 :: a7 :: a8 :: some (.int x) :: r) st g o) : et_Z X w u enc pc (a0 :: a1 :: a2 :: a3 :: a4 :: a5 :: a6 :: a7 :: a8 :: z :: r) (.int x :: st) g o := by
  obtain ⟨p, l, e, R, s, m, args, below, meth, c⟩ := X
  intro az g1 ho H locs ls hP hS hl
  refine lv_istore hX.1 hX.2.1 hd hl (by rw [hX.2.2.1]; exact Nat.le_of_ble_eq_true hn) rfl (fun ls2 h2 => k az g1 ho H locs ls2 hP hS (et_st1 h2 fun j v2 hj => ?_))
  match j with
    | 0 => exact Or.inr ⟨by decide, hj, fun h => by omega⟩
    | 1 => exact Or.inr ⟨by decide, hj, fun h => by omega⟩
    | 2 => exact Or.inr ⟨by decide, hj, fun h => by omega⟩
    | 3 => exact Or.inr ⟨by decide, hj, fun h => by omega⟩
    | 4 => exact Or.inr ⟨by decide, hj, fun h => by omega⟩
    | 5 => exact Or.inr ⟨by decide, hj, fun h => by omega⟩
    | 6 => exact Or.inr ⟨by decide, hj, fun h => by omega⟩
    | 7 => exact Or.inr ⟨by decide, hj, fun h => by omega⟩
    | 8 => exact Or.inr ⟨by decide, hj, fun h => by exact et_c1_cat hc (Option.some.inj hj)⟩
    | 9 => exact Or.inl ⟨rfl, (Option.some.inj (Option.some.inj hj)).symm⟩
    | j + 10 => exact Or.inr ⟨by omega, hj, fun h => by omega⟩
theorem zi_astore9 {a0 a1 a2 a3 a4 a5 a6 a7 a8 : Option Value} {z : Option Value} {x : Nat} (hX : et_Gd X w b own nL ret tb rm) (hd : decode b pc = .ok (.astore 9, 2)) (hn : Nat.ble 10 nL = true) (hc : et_c1 a8 = true) (k : et_Z X w u enc (pc + 2) (a0 :: a1 :: a2 :: a3 :: a4 :: a5 :: a6 :: a7 :: a8 :: some (.ref x) :: r) st g o) : et_Z X w u enc pc (a0 :: a1 :: a2 :: a3 :: a4 :: a5 :: a6 :: a7 :: a8 :: z :: r) (.ref x :: st) g o := by
  obtain ⟨p, l, e, R, s, m, args, below, meth, c⟩ := X
  intro az g1 ho H locs ls hP hS hl
  refine lv_astore hX.1 hX.2.1 hd hl (by rw [hX.2.2.1]; exact Nat.le_of_ble_eq_true hn) rfl (fun ls2 h2 => k az g1 ho H locs ls2 hP hS (et_st1 h2 fun j v2 hj => ?_))
  match j with
    | 0 => exact Or.inr ⟨by decide, hj, fun h => by omega⟩
    | 1 => exact Or.inr ⟨by decide, hj, fun h => by omega⟩
    | 2 => exact Or.inr ⟨by decide, hj, fun h => by omega⟩
    | 3 => exact Or.inr ⟨by decide, hj, fun h => by omega⟩
    | 4 => exact Or.inr ⟨by decide, hj, fun h => by omega⟩
    | 5 => exact Or.inr ⟨by decide, hj, fun h => by omega⟩
    | 6 => exact Or.inr ⟨by decide, hj, fun h => by omega⟩
    | 7 => exact Or.inr ⟨by decide, hj, fun h => by omega⟩
    | 8 => exact Or.inr ⟨by decide, hj, fun h => by exact et_c1_cat hc (Option.some.inj hj)⟩
    | 9 => exact Or.inl ⟨rfl, (Option.some.inj (Option.some.inj hj)).symm⟩
    | j + 10 => exact Or.inr ⟨by omega, hj, fun h => by omega⟩
theorem zi_iinc9 {a0 a1 a2 a3 a4 a5 a6 a7 a8 : Option Value} {x v : Int32} {n : Int} (hX : et_Gd X w b own nL ret tb rm) (hd : decode b pc = .ok (.iinc 9 n, 3)) (hv : x + Int32.ofInt n = v) (hn : Nat.ble 10 nL = true) (hc : et_c1 a8 = true) (k : et_Z X w u enc (pc + 3) (a0 :: a1 :: a2 :: a3 :: a4 :: a5 :: a6 :: a7 :: a8 :: some (.int v) :: r) st g o) : et_Z X w u enc pc (a0 :: a1 :: a2 :: a3 :: a4 :: a5 :: a6 :: a7 :: a8 :: some (.int x) :: r) st g o := by
  obtain ⟨p, l, e, R, s, m, args, below, meth, c⟩ := X
  intro az g1 ho H locs ls hP hS hl
  obtain ⟨q, hq⟩ := List.getElem?_of_mem (et_L_mem.mpr (rfl : (a0 :: a1 :: a2 :: a3 :: a4 :: a5 :: a6 :: a7 :: a8 :: some (.int x) :: r)[9]? = some (some (Value.int x))))
  refine lv_iinc hX.1 hX.2.1 hd hl hq hv (by rw [hX.2.2.1]; exact Nat.le_of_ble_eq_true hn) rfl (fun ls2 h2 => k az g1 ho H locs ls2 hP hS (et_st1 h2 fun j v2 hj => ?_))
  match j with
    | 0 => exact Or.inr ⟨by decide, hj, fun h => by omega⟩
    | 1 => exact Or.inr ⟨by decide, hj, fun h => by omega⟩
    | 2 => exact Or.inr ⟨by decide, hj, fun h => by omega⟩
    | 3 => exact Or.inr ⟨by decide, hj, fun h => by omega⟩
    | 4 => exact Or.inr ⟨by decide, hj, fun h => by omega⟩
    | 5 => exact Or.inr ⟨by decide, hj, fun h => by omega⟩
    | 6 => exact Or.inr ⟨by decide, hj, fun h => by omega⟩
    | 7 => exact Or.inr ⟨by decide, hj, fun h => by omega⟩
    | 8 => exact Or.inr ⟨by decide, hj, fun h => by exact et_c1_cat hc (Option.some.inj hj)⟩
    | 9 => exact Or.inl ⟨rfl, (Option.some.inj (Option.some.inj hj)).symm⟩
    | j + 10 => exact Or.inr ⟨by omega, hj, fun h => by omega⟩
theorem zi_lstore9 {a0 a1 a2 a3 a4 a5 a6 a7 a8 : Option Value} {z z2 : Option Value} {x : Int64} (hX : et_Gd X w b own nL ret tb rm) (hd : decode b pc = .ok (.lstore 9, 2)) (hn : Nat.ble 11 nL = true) (hc : et_c1 a8 = true) (k : et_Z X w u enc (pc + 2) (a0 :: a1 :: a2 :: a3 :: a4 :: a5 :: a6 :: a7 :: a8 :: some (.long x) :: none :: r) st g o) : et_Z X w u enc pc (a0 :: a1 :: a2 :: a3 :: a4 :: a5 :: a6 :: a7 :: a8 :: z :: z2 :: r) (.long x :: st) g o := by
  obtain ⟨p, l, e, R, s, m, args, below, meth, c⟩ := X
  intro az g1 ho H locs ls hP hS hl
  refine lv_lstore hX.1 hX.2.1 hd hl (by rw [hX.2.2.1]; exact Nat.le_of_ble_eq_true hn) rfl (fun ls2 h2 => k az g1 ho H locs ls2 hP hS (et_st2 h2 fun j v2 hj => ?_))
  match j with
    | 0 => exact Or.inr ⟨by decide, by decide, hj, fun h => by omega⟩
    | 1 => exact Or.inr ⟨by decide, by decide, hj, fun h => by omega⟩
    | 2 => exact Or.inr ⟨by decide, by decide, hj, fun h => by omega⟩
    | 3 => exact Or.inr ⟨by decide, by decide, hj, fun h => by omega⟩
    | 4 => exact Or.inr ⟨by decide, by decide, hj, fun h => by omega⟩
    | 5 => exact Or.inr ⟨by decide, by decide, hj, fun h => by omega⟩
    | 6 => exact Or.inr ⟨by decide, by decide, hj, fun h => by omega⟩
    | 7 => exact Or.inr ⟨by decide, by decide, hj, fun h => by omega⟩
    | 8 => exact Or.inr ⟨by decide, by decide, hj, fun h => by exact et_c1_cat hc (Option.some.inj hj)⟩
    | 9 => exact Or.inl ⟨rfl, (Option.some.inj (Option.some.inj hj)).symm⟩
    | 10 => cases hj
    | j + 11 => exact Or.inr ⟨by omega, by omega, hj, fun h => by omega⟩
theorem zi_iload10 {a0 a1 a2 a3 a4 a5 a6 a7 a8 a9 : Option Value} {x : Int32} (hX : et_Gd X w b own nL ret tb rm) (hd : decode b pc = .ok (.iload 10, 2)) (k : et_Z X w u enc (pc + 2) (a0 :: a1 :: a2 :: a3 :: a4 :: a5 :: a6 :: a7 :: a8 :: a9 :: some (.int x) :: r) (.int x :: st) g o) : et_Z X w u enc pc (a0 :: a1 :: a2 :: a3 :: a4 :: a5 :: a6 :: a7 :: a8 :: a9 :: some (.int x) :: r) st g o := by
  obtain ⟨p, l, e, R, s, m, args, below, meth, c⟩ := X
  intro a1 g1 ho H locs ls hP hS hl
  exact lv_iload hX.1 hX.2.1 hd (hl.2.2 (10, _) (et_L_mem.mpr rfl)) (k a1 g1 ho H locs ls hP hS hl)
theorem zi_lload10 {a0 a1 a2 a3 a4 a5 a6 a7 a8 a9 : Option Value} {x : Int64} (hX : et_Gd X w b own nL ret tb rm) (hd : decode b pc = .ok (.lload 10, 2)) (k : et_Z X w u enc (pc + 2) (a0 :: a1 :: a2 :: a3 :: a4 :: a5 :: a6 :: a7 :: a8 :: a9 :: some (.long x) :: r) (.long x :: st) g o) : et_Z X w u enc pc (a0 :: a1 :: a2 :: a3 :: a4 :: a5 :: a6 :: a7 :: a8 :: a9 :: some (.long x) :: r) st g o := by
  obtain ⟨p, l, e, R, s, m, args, below, meth, c⟩ := X
  intro a1 g1 ho H locs ls hP hS hl
  exact lv_lload hX.1 hX.2.1 hd (hl.2.2 (10, _) (et_L_mem.mpr rfl)) (k a1 g1 ho H locs ls hP hS hl)
theorem zi_aload10 {a0 a1 a2 a3 a4 a5 a6 a7 a8 a9 : Option Value} {x : Nat} (hX : et_Gd X w b own nL ret tb rm) (hd : decode b pc = .ok (.aload 10, 2)) (k : et_Z X w u enc (pc + 2) (a0 :: a1 :: a2 :: a3 :: a4 :: a5 :: a6 :: a7 :: a8 :: a9 :: some (.ref x) :: r) (.ref x :: st) g o) : et_Z X w u enc pc (a0 :: a1 :: a2 :: a3 :: a4 :: a5 :: a6 :: a7 :: a8 :: a9 :: some (.ref x) :: r) st g o := by
  obtain ⟨p, l, e, R, s, m, args, below, meth, c⟩ := X
  intro a1 g1 ho H locs ls hP hS hl
  exact lv_aload hX.1 hX.2.1 hd (hl.2.2 (10, _) (et_L_mem.mpr rfl)) (k a1 g1 ho H locs ls hP hS hl)
theorem zi_istore10 {a0 a1 a2 a3 a4 a5 a6 a7 a8 a9 : Option Value} {z : Option Value} {x : Int32} (hX : et_Gd X w b own nL ret tb rm) (hd : decode b pc = .ok (.istore 10, 2)) (hn : Nat.ble 11 nL = true) (hc : et_c1 a9 = true) (k : et_Z X w u enc (pc + 2) (a0 :: a1 :: a2 :: a3 :: a4 :: a5 :: a6 :: a7 :: a8 :: a9 :: some (.int x) :: r) st g o) : et_Z X w u enc pc (a0 :: a1 :: a2 :: a3 :: a4 :: a5 :: a6 :: a7 :: a8 :: a9 :: z :: r) (.int x :: st) g o := by
  obtain ⟨p, l, e, R, s, m, args, below, meth, c⟩ := X
  intro az g1 ho H locs ls hP hS hl
  refine lv_istore hX.1 hX.2.1 hd hl (by rw [hX.2.2.1]; exact Nat.le_of_ble_eq_true hn) rfl (fun ls2 h2 => k az g1 ho H locs ls2 hP hS (et_st1 h2 fun j v2 hj => ?_))
  match j with
    | 0 => exact Or.inr ⟨by decide, hj, fun h => by omega⟩
    | 1 => exact Or.inr ⟨by decide, hj, fun h => by omega⟩
    | 2 => exact Or.inr ⟨by decide, hj, fun h => by omega⟩
    | 3 => exact Or.inr ⟨by decide, hj, fun h => by omega⟩
    | 4 => exact Or.inr ⟨by decide, hj, fun h => by omega⟩
    | 5 => exact Or.inr ⟨by decide, hj, fun h => by omega⟩
    | 6 => exact Or.inr ⟨by decide, hj, fun h => by omega⟩
    | 7 => exact Or.inr ⟨by decide, hj, fun h => by omega⟩
    | 8 => exact Or.inr ⟨by decide, hj, fun h => by omega⟩
    | 9 => exact Or.inr ⟨by decide, hj, fun h => by exact et_c1_cat hc (Option.some.inj hj)⟩
    | 10 => exact Or.inl ⟨rfl, (Option.some.inj (Option.some.inj hj)).symm⟩
    | j + 11 => exact Or.inr ⟨by omega, hj, fun h => by omega⟩
theorem zi_astore10 {a0 a1 a2 a3 a4 a5 a6 a7 a8 a9 : Option Value} {z : Option Value} {x : Nat} (hX : et_Gd X w b own nL ret tb rm) (hd : decode b pc = .ok (.astore 10, 2)) (hn : Nat.ble 11 nL = true) (hc : et_c1 a9 = true) (k : et_Z X w u enc (pc + 2) (a0 :: a1 :: a2 :: a3 :: a4 :: a5 :: a6 :: a7 :: a8 :: a9 :: some (.ref x) :: r) st g o) : et_Z X w u enc pc (a0 :: a1 :: a2 :: a3 :: a4 :: a5 :: a6 :: a7 :: a8 :: a9 :: z :: r) (.ref x :: st) g o := by
  obtain ⟨p, l, e, R, s, m, args, below, meth, c⟩ := X
  intro az g1 ho H locs ls hP hS hl
  refine lv_astore hX.1 hX.2.1 hd hl (by rw [hX.2.2.1]; exact Nat.le_of_ble_eq_true hn) rfl (fun ls2 h2 => k az g1 ho H locs ls2 hP hS (et_st1 h2 fun j v2 hj => ?_))
  match j with
    | 0 => exact Or.inr ⟨by decide, hj, fun h => by omega⟩
    | 1 => exact Or.inr ⟨by decide, hj, fun h => by omega⟩
    | 2 => exact Or.inr ⟨by decide, hj, fun h => by omega⟩
    | 3 => exact Or.inr ⟨by decide, hj, fun h => by omega⟩
    | 4 => exact Or.inr ⟨by decide, hj, fun h => by omega⟩
    | 5 => exact Or.inr ⟨by decide, hj, fun h => by omega⟩
    | 6 => exact Or.inr ⟨by decide, hj, fun h => by omega⟩
    | 7 => exact Or.inr ⟨by decide, hj, fun h => by omega⟩
    | 8 => exact Or.inr ⟨by decide, hj, fun h => by omega⟩
    | 9 => exact Or.inr ⟨by decide, hj, fun h => by exact et_c1_cat hc (Option.some.inj hj)⟩
    | 10 => exact Or.inl ⟨rfl, (Option.some.inj (Option.some.inj hj)).symm⟩
    | j + 11 => exact Or.inr ⟨by omega, hj, fun h => by omega⟩
theorem zi_iinc10 {a0 a1 a2 a3 a4 a5 a6 a7 a8 a9 : Option Value} {x v : Int32} {n : Int} (hX : et_Gd X w b own nL ret tb rm) (hd : decode b pc = .ok (.iinc 10 n, 3)) (hv : x + Int32.ofInt n = v) (hn : Nat.ble 11 nL = true) (hc : et_c1 a9 = true) (k : et_Z X w u enc (pc + 3) (a0 :: a1 :: a2 :: a3 :: a4 :: a5 :: a6 :: a7 :: a8 :: a9 :: some (.int v) :: r) st g o) : et_Z X w u enc pc (a0 :: a1 :: a2 :: a3 :: a4 :: a5 :: a6 :: a7 :: a8 :: a9 :: some (.int x) :: r) st g o := by
  obtain ⟨p, l, e, R, s, m, args, below, meth, c⟩ := X
  intro az g1 ho H locs ls hP hS hl
  obtain ⟨q, hq⟩ := List.getElem?_of_mem (et_L_mem.mpr (rfl : (a0 :: a1 :: a2 :: a3 :: a4 :: a5 :: a6 :: a7 :: a8 :: a9 :: some (.int x) :: r)[10]? = some (some (Value.int x))))
  refine lv_iinc hX.1 hX.2.1 hd hl hq hv (by rw [hX.2.2.1]; exact Nat.le_of_ble_eq_true hn) rfl (fun ls2 h2 => k az g1 ho H locs ls2 hP hS (et_st1 h2 fun j v2 hj => ?_))
  match j with
    | 0 => exact Or.inr ⟨by decide, hj, fun h => by omega⟩
    | 1 => exact Or.inr ⟨by decide, hj, fun h => by omega⟩
    | 2 => exact Or.inr ⟨by decide, hj, fun h => by omega⟩
    | 3 => exact Or.inr ⟨by decide, hj, fun h => by omega⟩
    | 4 => exact Or.inr ⟨by decide, hj, fun h => by omega⟩
    | 5 => exact Or.inr ⟨by decide, hj, fun h => by omega⟩
    | 6 => exact Or.inr ⟨by decide, hj, fun h => by omega⟩
    | 7 => exact Or.inr ⟨by decide, hj, fun h => by omega⟩
    | 8 => exact Or.inr ⟨by decide, hj, fun h => by omega⟩
    | 9 => exact Or.inr ⟨by decide, hj, fun h => by exact et_c1_cat hc (Option.some.inj hj)⟩
    | 10 => exact Or.inl ⟨rfl, (Option.some.inj (Option.some.inj hj)).symm⟩
    | j + 11 => exact Or.inr ⟨by omega, hj, fun h => by omega⟩
theorem zi_lstore10 {a0 a1 a2 a3 a4 a5 a6 a7 a8 a9 : Option Value} {z z2 : Option Value} {x : Int64} (hX : et_Gd X w b own nL ret tb rm) (hd : decode b pc = .ok (.lstore 10, 2)) (hn : Nat.ble 12 nL = true) (hc : et_c1 a9 = true) (k : et_Z X w u enc (pc + 2) (a0 :: a1 :: a2 :: a3 :: a4 :: a5 :: a6 :: a7 :: a8 :: a9 :: some (.long x) :: none :: r) st g o) : et_Z X w u enc pc (a0 :: a1 :: a2 :: a3 :: a4 :: a5 :: a6 :: a7 :: a8 :: a9 :: z :: z2 :: r) (.long x :: st) g o := by
  obtain ⟨p, l, e, R, s, m, args, below, meth, c⟩ := X
  intro az g1 ho H locs ls hP hS hl
  refine lv_lstore hX.1 hX.2.1 hd hl (by rw [hX.2.2.1]; exact Nat.le_of_ble_eq_true hn) rfl (fun ls2 h2 => k az g1 ho H locs ls2 hP hS (et_st2 h2 fun j v2 hj => ?_))
  match j with
    | 0 => exact Or.inr ⟨by decide, by decide, hj, fun h => by omega⟩
    | 1 => exact Or.inr ⟨by decide, by decide, hj, fun h => by omega⟩
    | 2 => exact Or.inr ⟨by decide, by decide, hj, fun h => by omega⟩
    | 3 => exact Or.inr ⟨by decide, by decide, hj, fun h => by omega⟩
    | 4 => exact Or.inr ⟨by decide, by decide, hj, fun h => by omega⟩
    | 5 => exact Or.inr ⟨by decide, by decide, hj, fun h => by omega⟩
    | 6 => exact Or.inr ⟨by decide, by decide, hj, fun h => by omega⟩
    | 7 => exact Or.inr ⟨by decide, by decide, hj, fun h => by omega⟩
    | 8 => exact Or.inr ⟨by decide, by decide, hj, fun h => by omega⟩
    | 9 => exact Or.inr ⟨by decide, by decide, hj, fun h => by exact et_c1_cat hc (Option.some.inj hj)⟩
    | 10 => exact Or.inl ⟨rfl, (Option.some.inj (Option.some.inj hj)).symm⟩
    | 11 => cases hj
    | j + 12 => exact Or.inr ⟨by omega, by omega, hj, fun h => by omega⟩
theorem zi_iload11 {a0 a1 a2 a3 a4 a5 a6 a7 a8 a9 a10 : Option Value} {x : Int32} (hX : et_Gd X w b own nL ret tb rm) (hd : decode b pc = .ok (.iload 11, 2)) (k : et_Z X w u enc (pc + 2) (a0 :: a1 :: a2 :: a3 :: a4 :: a5 :: a6 :: a7 :: a8 :: a9 :: a10 :: some (.int x) :: r) (.int x :: st) g o) : et_Z X w u enc pc (a0 :: a1 :: a2 :: a3 :: a4 :: a5 :: a6 :: a7 :: a8 :: a9 :: a10 :: some (.int x) :: r) st g o := by
  obtain ⟨p, l, e, R, s, m, args, below, meth, c⟩ := X
  intro a1 g1 ho H locs ls hP hS hl
  exact lv_iload hX.1 hX.2.1 hd (hl.2.2 (11, _) (et_L_mem.mpr rfl)) (k a1 g1 ho H locs ls hP hS hl)
theorem zi_lload11 {a0 a1 a2 a3 a4 a5 a6 a7 a8 a9 a10 : Option Value} {x : Int64} (hX : et_Gd X w b own nL ret tb rm) (hd : decode b pc = .ok (.lload 11, 2)) (k : et_Z X w u enc (pc + 2) (a0 :: a1 :: a2 :: a3 :: a4 :: a5 :: a6 :: a7 :: a8 :: a9 :: a10 :: some (.long x) :: r) (.long x :: st) g o) : et_Z X w u enc pc (a0 :: a1 :: a2 :: a3 :: a4 :: a5 :: a6 :: a7 :: a8 :: a9 :: a10 :: some (.long x) :: r) st g o := by
  obtain ⟨p, l, e, R, s, m, args, below, meth, c⟩ := X
  intro a1 g1 ho H locs ls hP hS hl
  exact lv_lload hX.1 hX.2.1 hd (hl.2.2 (11, _) (et_L_mem.mpr rfl)) (k a1 g1 ho H locs ls hP hS hl)
theorem zi_aload11 {a0 a1 a2 a3 a4 a5 a6 a7 a8 a9 a10 : Option Value} {x : Nat} (hX : et_Gd X w b own nL ret tb rm) (hd : decode b pc = .ok (.aload 11, 2)) (k : et_Z X w u enc (pc + 2) (a0 :: a1 :: a2 :: a3 :: a4 :: a5 :: a6 :: a7 :: a8 :: a9 :: a10 :: some (.ref x) :: r) (.ref x :: st) g o) : et_Z X w u enc pc (a0 :: a1 :: a2 :: a3 :: a4 :: a5 :: a6 :: a7 :: a8 :: a9 :: a10 :: some (.ref x) :: r) st g o := by
  obtain ⟨p, l, e, R, s, m, args, below, meth, c⟩ := X
  intro a1 g1 ho H locs ls hP hS hl
  exact lv_aload hX.1 hX.2.1 hd (hl.2.2 (11, _) (et_L_mem.mpr rfl)) (k a1 g1 ho H locs ls hP hS hl)
theorem zi_istore11 {a0 a1 a2 a3 a4 a5 a6 a7 a8 a9 a10 : Option Value} {z : Option Value} {x : Int32} (hX : et_Gd X w b own nL ret tb rm) (hd : decode b pc = .ok (.istore 11, 2)) (hn : Nat.ble 12 nL = true) (hc : et_c1 a10 = true) (k : et_Z X w u enc (pc + 2) (a0 :: a1 :: a2 :: a3 :: a4 :: a5 :: a6 :: a7 :: a8 :: a9 :: a10 :: some (.int x) :: r) st g o) : et_Z X w u enc pc (a0 :: a1 :: a2 :: a3 :: a4 :: a5 :: a6 :: a7 :: a8 :: a9 :: a10 :: z :: r) (.int x :: st) g o := by
  obtain ⟨p, l, e, R, s, m, args, below, meth, c⟩ := X
  intro az g1 ho H locs ls hP hS hl
  refine lv_istore hX.1 hX.2.1 hd hl (by rw [hX.2.2.1]; exact Nat.le_of_ble_eq_true hn) rfl (fun ls2 h2 => k az g1 ho H locs ls2 hP hS (et_st1 h2 fun j v2 hj => ?_))
  match j with
    | 0 => exact Or.inr ⟨by decide, hj, fun h => by omega⟩
    | 1 => exact Or.inr ⟨by decide, hj, fun h => by omega⟩
    | 2 => exact Or.inr ⟨by decide, hj, fun h => by omega⟩
    | 3 => exact Or.inr ⟨by decide, hj, fun h => by omega⟩
    | 4 => exact Or.inr ⟨by decide, hj, fun h => by omega⟩
    | 5 => exact Or.inr ⟨by decide, hj, fun h => by omega⟩
    | 6 => exact Or.inr ⟨by decide, hj, fun h => by omega⟩
    | 7 => exact Or.inr ⟨by decide, hj, fun h => by omega⟩
    | 8 => exact Or.inr ⟨by decide, hj, fun h => by omega⟩
    | 9 => exact Or.inr ⟨by decide, hj, fun h => by omega⟩
    | 10 => exact Or.inr ⟨by decide, hj, fun h => by exact et_c1_cat hc (Option.some.inj hj)⟩
    | 11 => exact Or.inl ⟨rfl, (Option.some.inj (Option.some.inj hj)).symm⟩
    | j + 12 => exact Or.inr ⟨by omega, hj, fun h => by omega⟩
theorem zi_astore11 {a0 a1 a2 a3 a4 a5 a6 a7 a8 a9 a10 : Option Value} {z : Option Value} {x : Nat} (hX : et_Gd X w b own nL ret tb rm) (hd : decode b pc = .ok (.astore 11, 2)) (hn : Nat.ble 12 nL = true) (hc : et_c1 a10 = true) (k : et_Z X w u enc (pc + 2) (a0 :: a1 :: a2 :: a3 :: a4 :: a5 :: a6 :: a7 :: a8 :: a9 :: a10 :: some (.ref x) :: r) st g o) : et_Z X w u enc pc (a0 :: a1 :: a2 :: a3 :: a4 :: a5 :: a6 :: a7 :: a8 :: a9 :: a10 :: z :: r) (.ref x :: st) g o := by
  obtain ⟨p, l, e, R, s, m, args, below, meth, c⟩ := X
  intro az g1 ho H locs ls hP hS hl
  refine lv_astore hX.1 hX.2.1 hd hl (by rw [hX.2.2.1]; exact Nat.le_of_ble_eq_true hn) rfl (fun ls2 h2 => k az g1 ho H locs ls2 hP hS (et_st1 h2 fun j v2 hj => ?_))
  match j with
    | 0 => exact Or.inr ⟨by decide, hj, fun h => by omega⟩
    | 1 => exact Or.inr ⟨by decide, hj, fun h => by omega⟩
    | 2 => exact Or.inr ⟨by decide, hj, fun h => by omega⟩
    | 3 => exact Or.inr ⟨by decide, hj, fun h => by omega⟩
    | 4 => exact Or.inr ⟨by decide, hj, fun h => by omega⟩
    | 5 => exact Or.inr ⟨by decide, hj, fun h => by omega⟩
    | 6 => exact Or.inr ⟨by decide, hj, fun h => by omega⟩
    | 7 => exact Or.inr ⟨by decide, hj, fun h => by omega⟩
    | 8 => exact Or.inr ⟨by decide, hj, fun h => by omega⟩
    | 9 => exact Or.inr ⟨by decide, hj, fun h => by omega⟩
    | 10 => exact Or.inr ⟨by decide, hj, fun h => by exact et_c1_cat hc (Option.some.inj hj)⟩
    | 11 => exact Or.inl ⟨rfl, (Option.some.inj (Option.some.inj hj)).symm⟩
    | j + 12 => exact Or.inr ⟨by omega, hj, fun h => by omega⟩
theorem zi_iinc11 {a0 a1 a2 a3 a4 a5 a6 a7 a8 a9 a10 : Option Value} {x v : Int32} {n : Int} (hX : et_Gd X w b own nL ret tb rm) (hd : decode b pc = .ok (.iinc 11 n, 3)) (hv : x + Int32.ofInt n = v) (hn : Nat.ble 12 nL = true) (hc : et_c1 a10 = true) (k : et_Z X w u enc (pc + 3) (a0 :: a1 :: a2 :: a3 :: a4 :: a5 :: a6 :: a7 :: a8 :: a9 :: a10 :: some (.int v) :: r) st g o) : et_Z X w u enc pc (a0 :: a1 :: a2 :: a3 :: a4 :: a5 :: a6 :: a7 :: a8 :: a9 :: a10 :: some (.int x) :: r) st g o := by
  obtain ⟨p, l, e, R, s, m, args, below, meth, c⟩ := X
  intro az g1 ho H locs ls hP hS hl
  obtain ⟨q, hq⟩ := List.getElem?_of_mem (et_L_mem.mpr (rfl : (a0 :: a1 :: a2 :: a3 :: a4 :: a5 :: a6 :: a7 :: a8 :: a9 :: a10 :: some (.int x) :: r)[11]? = some (some (Value.int x))))
  refine lv_iinc hX.1 hX.2.1 hd hl hq hv (by rw [hX.2.2.1]; exact Nat.le_of_ble_eq_true hn) rfl (fun ls2 h2 => k az g1 ho H locs ls2 hP hS (et_st1 h2 fun j v2 hj => ?_))
  match j with
    | 0 => exact Or.inr ⟨by decide, hj, fun h => by omega⟩
    | 1 => exact Or.inr ⟨by decide, hj, fun h => by omega⟩
    | 2 => exact Or.inr ⟨by decide, hj, fun h => by omega⟩
    | 3 => exact Or.inr ⟨by decide, hj, fun h => by omega⟩
    | 4 => exact Or.inr ⟨by decide, hj, fun h => by omega⟩
    | 5 => exact Or.inr ⟨by decide, hj, fun h => by omega⟩
    | 6 => exact Or.inr ⟨by decide, hj, fun h => by omega⟩
    | 7 => exact Or.inr ⟨by decide, hj, fun h => by omega⟩
    | 8 => exact Or.inr ⟨by decide, hj, fun h => by omega⟩
    | 9 => exact Or.inr ⟨by decide, hj, fun h => by omega⟩
    | 10 => exact Or.inr ⟨by decide, hj, fun h => by exact et_c1_cat hc (Option.some.inj hj)⟩
    | 11 => exact Or.inl ⟨rfl, (Option.some.inj (Option.some.inj hj)).symm⟩
    | j + 12 => exact Or.inr ⟨by omega, hj, fun h => by omega⟩
theorem zi_lstore11 {a0 a1 a2 a3 a4 a5 a6 a7 a8 a9 a10 : Option Value} {z z2 : Option Value} {x : Int64} (hX : et_Gd X w b own nL ret tb rm) (hd : decode b pc = .ok (.lstore 11, 2)) (hn : Nat.ble 13 nL = true) (hc : et_c1 a10 = true) (k : et_Z X w u enc (pc + 2) (a0 :: a1 :: a2 :: a3 :: a4 :: a5 :: a6 :: a7 :: a8 :: a9 :: a10 :: some (.long x) :: none :: r) st g o) : et_Z X w u enc pc (a0 :: a1 :: a2 :: a3 :: a4 :: a5 :: a6 :: a7 :: a8 :: a9 :: a10 :: z :: z2 :: r) (.long x :: st) g o := by
  obtain ⟨p, l, e, R, s, m, args, below, meth, c⟩ := X
  intro az g1 ho H locs ls hP hS hl
  refine lv_lstore hX.1 hX.2.1 hd hl (by rw [hX.2.2.1]; exact Nat.le_of_ble_eq_true hn) rfl (fun ls2 h2 => k az g1 ho H locs ls2 hP hS (et_st2 h2 fun j v2 hj => ?_))
  match j with
    | 0 => exact Or.inr ⟨by decide, by decide, hj, fun h => by omega⟩
    | 1 => exact Or.inr ⟨by decide, by decide, hj, fun h => by omega⟩
    | 2 => exact Or.inr ⟨by decide, by decide, hj, fun h => by omega⟩
    | 3 => exact Or.inr ⟨by decide, by decide, hj, fun h => by omega⟩
    | 4 => exact Or.inr ⟨by decide, by decide, hj, fun h => by omega⟩
    | 5 => exact Or.inr ⟨by decide, by decide, hj, fun h => by omega⟩
    | 6 => exact Or.inr ⟨by decide, by decide, hj, fun h => by omega⟩
    | 7 => exact Or.inr ⟨by decide, by decide, hj, fun h => by omega⟩
    | 8 => exact Or.inr ⟨by decide, by decide, hj, fun h => by omega⟩
    | 9 => exact Or.inr ⟨by decide, by decide, hj, fun h => by omega⟩
    | 10 => exact Or.inr ⟨by decide, by decide, hj, fun h => by exact et_c1_cat hc (Option.some.inj hj)⟩
    | 11 => exact Or.inl ⟨rfl, (Option.some.inj (Option.some.inj hj)).symm⟩
    | 12 => cases hj
    | j + 13 => exact Or.inr ⟨by omega, by omega, hj, fun h => by omega⟩
theorem zi_iload12 {a0 a1 a2 a3 a4 a5 a6 a7 a8 a9 a10 a11 : Option Value} {x : Int32} (hX : et_Gd X w b own nL ret tb rm) (hd : decode b pc = .ok (.iload 12, 2)) (k : et_Z X w u enc (pc + 2) (a0 :: a1 :: a2 :: a3 :: a4 :: a5 :: a6 :: a7 :: a8 :: a9 :: a10 :: a11 :: some (.int x) :: r) (.int x :: st) g o) : et_Z X w u enc pc (a0 :: a1 :: a2 :: a3 :: a4 :: a5 :: a6 :: a7 :: a8 :: a9 :: a10 :: a11 :: some (.int x) :: r) st g o := by
  obtain ⟨p, l, e, R, s, m, args, below, meth, c⟩ := X
  intro a1 g1 ho H locs ls hP hS hl
  exact lv_iload hX.1 hX.2.1 hd (hl.2.2 (12, _) (et_L_mem.mpr rfl)) (k a1 g1 ho H locs ls hP hS hl)
theorem zi_lload12 {a0 a1 a2 a3 a4 a5 a6 a7 a8 a9 a10 a11 : Option Value} {x : Int64} (hX : et_Gd X w b own nL ret tb rm) (hd : decode b pc = .ok (.lload 12, 2)) (k : et_Z X w u enc (pc + 2) (a0 :: a1 :: a2 :: a3 :: a4 :: a5 :: a6 :: a7 :: a8 :: a9 :: a10 :: a11 :: some (.long x) :: r) (.long x :: st) g o) : et_Z X w u enc pc (a0 :: a1 :: a2 :: a3 :: a4 :: a5 :: a6 :: a7 :: a8 :: a9 :: a10 :: a11 :: some (.long x) :: r) st g o := by
  obtain ⟨p, l, e, R, s, m, args, below, meth, c⟩ := X
  intro a1 g1 ho H locs ls hP hS hl
  exact lv_lload hX.1 hX.2.1 hd (hl.2.2 (12, _) (et_L_mem.mpr rfl)) (k a1 g1 ho H locs ls hP hS hl)
theorem zi_aload12 {a0 a1 a2 a3 a4 a5 a6 a7 a8 a9 a10 a11 : Option Value} {x : Nat} (hX : et_Gd X w b own nL ret tb rm) (hd : decode b pc = .ok (.aload 12, 2)) (k : et_Z X w u enc (pc + 2) (a0 :: a1 :: a2 :: a3 :: a4 :: a5 :: a6 :: a7 :: a8 :: a9 :: a10 :: a11 :: some (.ref x) :: r) (.ref x :: st) g o) : et_Z X w u enc pc (a0 :: a1 :: a2 :: a3 :: a4 :: a5 :: a6 :: a7 :: a8 :: a9 :: a10 :: a11 :: some (.ref x) :: r) st g o := by
  obtain ⟨p, l, e, R, s, m, args, below, meth, c⟩ := X
  intro a1 g1 ho H locs ls hP hS hl
  exact lv_aload hX.1 hX.2.1 hd (hl.2.2 (12, _) (et_L_mem.mpr rfl)) (k a1 g1 ho H locs ls hP hS hl)
theorem zi_istore12 {a0 a1 a2 a3 a4 a5 a6 a7 a8 a9 a10 a11 : Option Value} {z : Option Value} {x : Int32} (hX : et_Gd X w b own nL ret tb rm) (hd : decode b pc = .ok (.istore 12, 2)) (hn : Nat.ble 13 nL = true) (hc : et_c1 a11 = true) (k : et_Z X w u enc (pc + 2) (a0 :: a1 :: a2 :: a3 :: a4 :: a5 :: a6 :: a7 :: a8 :: a9 :: a10 :: a11 :: some (.int x) :: r) st g o) : et_Z X w u enc pc (a0 :: a1 :: a2 :: a3 :: a4 :: a5 :: a6 :: a7 :: a8 :: a9 :: a10 :: a11 :: z :: r) (.int x :: st) g o := by
  obtain ⟨p, l, e, R, s, m, args, below, meth, c⟩ := X
  intro az g1 ho H locs ls hP hS hl
  refine lv_istore hX.1 hX.2.1 hd hl (by rw [hX.2.2.1]; exact Nat.le_of_ble_eq_true hn) rfl (fun ls2 h2 => k az g1 ho H locs ls2 hP hS (et_st1 h2 fun j v2 hj => ?_))
  match j with
    | 0 => exact Or.inr ⟨by decide, hj, fun h => by omega⟩
    | 1 => exact Or.inr ⟨by decide, hj, fun h => by omega⟩
    | 2 => exact Or.inr ⟨by decide, hj, fun h => by omega⟩
    | 3 => exact Or.inr ⟨by decide, hj, fun h => by omega⟩
    | 4 => exact Or.inr ⟨by decide, hj, fun h => by omega⟩
    | 5 => exact Or.inr ⟨by decide, hj, fun h => by omega⟩
    | 6 => exact Or.inr ⟨by decide, hj, fun h => by omega⟩
    | 7 => exact Or.inr ⟨by decide, hj, fun h => by omega⟩
    | 8 => exact Or.inr ⟨by decide, hj, fun h => by omega⟩
    | 9 => exact Or.inr ⟨by decide, hj, fun h => by omega⟩
    | 10 => exact Or.inr ⟨by decide, hj, fun h => by omega⟩
    | 11 => exact Or.inr ⟨by decide, hj, fun h => by exact et_c1_cat hc (Option.some.inj hj)⟩
    | 12 => exact Or.inl ⟨rfl, (Option.some.inj (Option.some.inj hj)).symm⟩
    | j + 13 => exact Or.inr ⟨by omega, hj, fun h => by omega⟩
theorem zi_astore12 {a0 a1 a2 a3 a4 a5 a6 a7 a8 a9 a10 a11 : Option Value} {z : Option Value} {x : Nat} (hX : et_Gd X w b own nL ret tb rm) (hd : decode b pc = .ok (.astore 12, 2)) (hn : Nat.ble 13 nL = true) (hc : et_c1 a11 = true) (k : et_Z X w u enc (pc + 2) (a0 :: a1 :: a2 :: a3 :: a4 :: a5 :: a6 :: a7 :: a8 :: a9 :: a10 :: a11 :: some (.ref x) :: r) st g o) : et_Z X w u enc pc (a0 :: a1 :: a2 :: a3 :: a4 :: a5 :: a6 :: a7 :: a8 :: a9 :: a10 :: a11 :: z :: r) (.ref x :: st) g o := by
  obtain ⟨p, l, e, R, s, m, args, below, meth, c⟩ := X
  intro az g1 ho H locs ls hP hS hl
  refine lv_astore hX.1 hX.2.1 hd hl (by rw [hX.2.2.1]; exact Nat.le_of_ble_eq_true hn) rfl (fun ls2 h2 => k az g1 ho H locs ls2 hP hS (et_st1 h2 fun j v2 hj => ?_))
  match j with
    | 0 => exact Or.inr ⟨by decide, hj, fun h => by omega⟩
    | 1 => exact Or.inr ⟨by decide, hj, fun h => by omega⟩
    | 2 => exact Or.inr ⟨by decide, hj, fun h => by omega⟩
    | 3 => exact Or.inr ⟨by decide, hj, fun h => by omega⟩
    | 4 => exact Or.inr ⟨by decide, hj, fun h => by omega⟩
    | 5 => exact Or.inr ⟨by decide, hj, fun h => by omega⟩
    | 6 => exact Or.inr ⟨by decide, hj, fun h => by omega⟩
    | 7 => exact Or.inr ⟨by decide, hj, fun h => by omega⟩
    | 8 => exact Or.inr ⟨by decide, hj, fun h => by omega⟩
    | 9 => exact Or.inr ⟨by decide, hj, fun h => by omega⟩
    | 10 => exact Or.inr ⟨by decide, hj, fun h => by omega⟩
    | 11 => exact Or.inr ⟨by decide, hj, fun h => by exact et_c1_cat hc (Option.some.inj hj)⟩
    | 12 => exact Or.inl ⟨rfl, (Option.some.inj (Option.some.inj hj)).symm⟩
    | j + 13 => exact Or.inr ⟨by omega, hj, fun h => by omega⟩
theorem zi_iinc12 {a0 a1 a2 a3 a4 a5 a6 a7 a8 a9 a10 a11 : Option Value} {x v : Int32} {n : Int} (hX : et_Gd X w b own nL ret tb rm) (hd : decode b pc = .ok (.iinc 12 n, 3)) (hv : x + Int32.ofInt n = v) (hn : Nat.ble 13 nL = true) (hc : et_c1 a11 = true) (k : et_Z X w u enc (pc + 3) (a0 :: a1 :: a2 :: a3 :: a4 :: a5 :: a6 :: a7 :: a8 :: a9 :: a10 :: a11 :: some (.int v) :: r) st g o) : et_Z X w u enc pc (a0 :: a1 :: a2 :: a3 :: a4 :: a5 :: a6 :: a7 :: a8 :: a9 :: a10 :: a11 :: some (.int x) :: r) st g o := by
  obtain ⟨p, l, e, R, s, m, args, below, meth, c⟩ := X
  intro az g1 ho H locs ls hP hS hl
  obtain ⟨q, hq⟩ := List.getElem?_of_mem (et_L_mem.mpr (rfl : (a0 :: a1 :: a2 :: a3 :: a4 :: a5 :: a6 :: a7 :: a8 :: a9 :: a10 :: a11 :: some (.int x) :: r)[12]? = some (some (Value.int x))))
  refine lv_iinc hX.1 hX.2.1 hd hl hq hv (by rw [hX.2.2.1]; exact Nat.le_of_ble_eq_true hn) rfl (fun ls2 h2 => k az g1 ho H locs ls2 hP hS (et_st1 h2 fun j v2 hj => ?_))
  match j with
    | 0 => exact Or.inr ⟨by decide, hj, fun h => by omega⟩
    | 1 => exact Or.inr ⟨by decide, hj, fun h => by omega⟩
    | 2 => exact Or.inr ⟨by decide, hj, fun h => by omega⟩
    | 3 => exact Or.inr ⟨by decide, hj, fun h => by omega⟩
    | 4 => exact Or.inr ⟨by decide, hj, fun h => by omega⟩
    | 5 => exact Or.inr ⟨by decide, hj, fun h => by omega⟩
    | 6 => exact Or.inr ⟨by decide, hj, fun h => by omega⟩
    | 7 => exact Or.inr ⟨by decide, hj, fun h => by omega⟩
    | 8 => exact Or.inr ⟨by decide, hj, fun h => by omega⟩
    | 9 => exact Or.inr ⟨by decide, hj, fun h => by omega⟩
    | 10 => exact Or.inr ⟨by decide, hj, fun h => by omega⟩
    | 11 => exact Or.inr ⟨by decide, hj, fun h => by exact et_c1_cat hc (Option.some.inj hj)⟩
    | 12 => exact Or.inl ⟨rfl, (Option.some.inj (Option.some.inj hj)).symm⟩
    | j + 13 => exact Or.inr ⟨by omega, hj, fun h => by omega⟩
theorem zi_lstore12 {a0 a1 a2 a3 a4 a5 a6 a7 a8 a9 a10 a11 : Option Value} {z z2 : Option Value} {x : Int64} (hX : et_Gd X w b own nL ret tb rm) (hd : decode b pc = .ok (.lstore 12, 2)) (hn : Nat.ble 14 nL = true) (hc : et_c1 a11 = true) (k : et_Z X w u enc (pc + 2) (a0 :: a1 :: a2 :: a3 :: a4 :: a5 :: a6 :: a7 :: a8 :: a9 :: a10 :: a11 :: some (.long x) :: none :: r) st g o) : et_Z X w u enc pc (a0 :: a1 :: a2 :: a3 :: a4 :: a5 :: a6 :: a7 :: a8 :: a9 :: a10 :: a11 :: z :: z2 :: r) (.long x :: st) g o := by
  obtain ⟨p, l, e, R, s, m, args, below, meth, c⟩ := X
  intro az g1 ho H locs ls hP hS hl
  refine lv_lstore hX.1 hX.2.1 hd hl (by rw [hX.2.2.1]; exact Nat.le_of_ble_eq_true hn) rfl (fun ls2 h2 => k az g1 ho H locs ls2 hP hS (et_st2 h2 fun j v2 hj => ?_))
  match j with
    | 0 => exact Or.inr ⟨by decide, by decide, hj, fun h => by omega⟩
    | 1 => exact Or.inr ⟨by decide, by decide, hj, fun h => by omega⟩
    | 2 => exact Or.inr ⟨by decide, by decide, hj, fun h => by omega⟩
    | 3 => exact Or.inr ⟨by decide, by decide, hj, fun h => by omega⟩
    | 4 => exact Or.inr ⟨by decide, by decide, hj, fun h => by omega⟩
    | 5 => exact Or.inr ⟨by decide, by decide, hj, fun h => by omega⟩
    | 6 => exact Or.inr ⟨by decide, by decide, hj, fun h => by omega⟩
    | 7 => exact Or.inr ⟨by decide, by decide, hj, fun h => by omega⟩
    | 8 => exact Or.inr ⟨by decide, by decide, hj, fun h => by omega⟩
    | 9 => exact Or.inr ⟨by decide, by decide, hj, fun h => by omega⟩
    | 10 => exact Or.inr ⟨by decide, by decide, hj, fun h => by omega⟩
    | 11 => exact Or.inr ⟨by decide, by decide, hj, fun h => by exact et_c1_cat hc (Option.some.inj hj)⟩
    | 12 => exact Or.inl ⟨rfl, (Option.some.inj (Option.some.inj hj)).symm⟩
    | 13 => cases hj
    | j + 14 => exact Or.inr ⟨by omega, by omega, hj, fun h => by omega⟩
/-- a local is forgotten -/
theorem zi_drop {lv2 : List (Option Value)} (h : ∀ (j : Nat) (v : Value), lv2[j]? = some (some v) → lv[j]? = some (some v)) (k : et_Z X w u enc pc lv2 st g o) : et_Z X w u enc pc lv st g o := by
  obtain ⟨p, l, e, R, s, m, args, below, meth, c⟩ := X
  intro az g1 ho H locs ls hP hS hl
  exact k az g1 ho H locs ls hP hS ⟨hl.1, hl.2.1, fun q hq => hl.2.2 q (et_L_mem.mpr (h _ _ (et_L_mem.mp hq)))⟩
theorem zi_b {β : Type} {x : β} {f : β → Option (α × et_G)} (k : et_Z X w u enc pc lv st g (f x)) : et_Z X w u enc pc lv st g (et_b x f) := k
end ZR
section ZB
variable {α : Type} {X : et_X} {w : et_W} {u pc nL : Nat} {enc : α → et_O} {b : ByteArray} {own : String} {ret : Option FieldType} {tb : List ExceptionTableEntry} {rm : Room} {lv r : List (Option Value)} {st : List Value} {g : et_G} {o : Option (α × et_G)}
theorem zi_bi {e : Int32} {f : Int32 → Option (α × et_G)} (k : ∀ v : Int32, et_Z X w u enc pc lv (.int v :: st) g (f v)) : et_Z X w u enc pc lv (.int e :: st) g (et_b e f) := k e
theorem zi_bl {e : Int64} {f : Int64 → Option (α × et_G)} (k : ∀ v : Int64, et_Z X w u enc pc lv (.long v :: st) g (f v)) : et_Z X w u enc pc lv (.long e :: st) g (et_b e f) := k e
theorem zi_bg {f : et_G → Option (α × et_G)} (k : ∀ g1 : et_G, et_Z X w u enc pc lv st g1 (f g1)) : et_Z X w u enc pc lv st g (et_b g f) := k g
theorem zi_up {u2 : Nat} (h : Nat.ble u u2 = true) (k : et_Z X w u2 enc pc lv st g o) : et_Z X w u enc pc lv st g o := by
  obtain ⟨p, l, e, R, s, m, args, below, meth, c⟩ := X
  intro az g1 ho H locs ls hP hS hl
  exact W.widen (Nat.le_of_ble_eq_true h) (Nat.mul_le_mul_left 6 (Nat.le_of_ble_eq_true h)) (k az g1 ho H locs ls hP hS hl)
def et_le (a b : List (Option Value)) : Prop := ∀ (j : Nat) (v : Value), a[j]? = some (some v) → b[j]? = some (some v)
theorem le_nil : et_le [] [] := fun _ _ h => h
theorem le_n {x : Option Value} {a b : List (Option Value)} (h : et_le a b) : et_le (none :: a) (x :: b) := fun j v q => match j, q with
  | 0, q => by cases q
  | j + 1, q => h j v q
theorem le_s {x : Option Value} {a b : List (Option Value)} (h : et_le a b) : et_le (x :: a) (x :: b) := fun j v q => match j, q with
  | 0, q => q
  | j + 1, q => h j v q
theorem et_z0 : narrow .boolean (.int 0) = .int 0 := by decide
theorem et_z1 : narrow .boolean (.int 1) = .int 1 := by decide
theorem et_f0 : fits .boolean (.int 0) = true := by decide
theorem et_f1 : fits .boolean (.int 1) = true := by decide
theorem zi_ldivc {x y : Int64} (hX : et_Gd X w b own nL ret tb rm) (hd : decode b pc = .ok (.ldiv, 1)) (k : et_Z X w u enc (pc + 1) lv (.long (x / y) :: st) g o) : et_Z X w u enc pc lv (.long y :: .long x :: st) g (et_ck (!decide (y = 0)) o) := by
  unfold et_ck
  refine zi_ite (fun h => ?_) (fun _ => ?_)
  · obtain ⟨p, l, e, R, s, m, args, below, meth, c⟩ := X
    intro az g1 ho H locs ls hP hS hl
    exact lv_ldiv hX.1 hX.2.1 hd (by simpa using h) (k az g1 ho H locs ls hP hS hl)
  · intro a g2 h
    cases h
theorem zi_iincb0 {x v : Int32} {n : Int} {f : Int32 → Option (α × et_G)} (hX : et_Gd X w b own nL ret tb rm) (hd : decode b pc = .ok (.iinc 0 n, 3)) (hv : x + Int32.ofInt n = v) (hn : Nat.ble 1 nL = true) (k : ∀ v : Int32, et_Z X w u enc (pc + 3) (some (.int v) :: r) st g (f v)) : et_Z X w u enc pc (some (.int x) :: r) st g (et_b v f) := zi_iinc0 hX hd hv hn (k v)
theorem zi_iincb1 {a0 : Option Value} {x v : Int32} {n : Int} {f : Int32 → Option (α × et_G)} (hX : et_Gd X w b own nL ret tb rm) (hd : decode b pc = .ok (.iinc 1 n, 3)) (hv : x + Int32.ofInt n = v) (hn : Nat.ble 2 nL = true) (hc : et_c1 a0 = true) (k : ∀ v : Int32, et_Z X w u enc (pc + 3) (a0 :: some (.int v) :: r) st g (f v)) : et_Z X w u enc pc (a0 :: some (.int x) :: r) st g (et_b v f) := zi_iinc1 hX hd hv hn hc (k v)
theorem zi_iincb2 {a0 a1 : Option Value} {x v : Int32} {n : Int} {f : Int32 → Option (α × et_G)} (hX : et_Gd X w b own nL ret tb rm) (hd : decode b pc = .ok (.iinc 2 n, 3)) (hv : x + Int32.ofInt n = v) (hn : Nat.ble 3 nL = true) (hc : et_c1 a1 = true) (k : ∀ v : Int32, et_Z X w u enc (pc + 3) (a0 :: a1 :: some (.int v) :: r) st g (f v)) : et_Z X w u enc pc (a0 :: a1 :: some (.int x) :: r) st g (et_b v f) := zi_iinc2 hX hd hv hn hc (k v)
theorem zi_iincb3 {a0 a1 a2 : Option Value} {x v : Int32} {n : Int} {f : Int32 → Option (α × et_G)} (hX : et_Gd X w b own nL ret tb rm) (hd : decode b pc = .ok (.iinc 3 n, 3)) (hv : x + Int32.ofInt n = v) (hn : Nat.ble 4 nL = true) (hc : et_c1 a2 = true) (k : ∀ v : Int32, et_Z X w u enc (pc + 3) (a0 :: a1 :: a2 :: some (.int v) :: r) st g (f v)) : et_Z X w u enc pc (a0 :: a1 :: a2 :: some (.int x) :: r) st g (et_b v f) := zi_iinc3 hX hd hv hn hc (k v)
theorem zi_iincb4 {a0 a1 a2 a3 : Option Value} {x v : Int32} {n : Int} {f : Int32 → Option (α × et_G)} (hX : et_Gd X w b own nL ret tb rm) (hd : decode b pc = .ok (.iinc 4 n, 3)) (hv : x + Int32.ofInt n = v) (hn : Nat.ble 5 nL = true) (hc : et_c1 a3 = true) (k : ∀ v : Int32, et_Z X w u enc (pc + 3) (a0 :: a1 :: a2 :: a3 :: some (.int v) :: r) st g (f v)) : et_Z X w u enc pc (a0 :: a1 :: a2 :: a3 :: some (.int x) :: r) st g (et_b v f) := zi_iinc4 hX hd hv hn hc (k v)
theorem zi_iincb5 {a0 a1 a2 a3 a4 : Option Value} {x v : Int32} {n : Int} {f : Int32 → Option (α × et_G)} (hX : et_Gd X w b own nL ret tb rm) (hd : decode b pc = .ok (.iinc 5 n, 3)) (hv : x + Int32.ofInt n = v) (hn : Nat.ble 6 nL = true) (hc : et_c1 a4 = true) (k : ∀ v : Int32, et_Z X w u enc (pc + 3) (a0 :: a1 :: a2 :: a3 :: a4 :: some (.int v) :: r) st g (f v)) : et_Z X w u enc pc (a0 :: a1 :: a2 :: a3 :: a4 :: some (.int x) :: r) st g (et_b v f) := zi_iinc5 hX hd hv hn hc (k v)
theorem zi_iincb6 {a0 a1 a2 a3 a4 a5 : Option Value} {x v : Int32} {n : Int} {f : Int32 → Option (α × et_G)} (hX : et_Gd X w b own nL ret tb rm) (hd : decode b pc = .ok (.iinc 6 n, 3)) (hv : x + Int32.ofInt n = v) (hn : Nat.ble 7 nL = true) (hc : et_c1 a5 = true) (k : ∀ v : Int32, et_Z X w u enc (pc + 3) (a0 :: a1 :: a2 :: a3 :: a4 :: a5 :: some (.int v) :: r) st g (f v)) : et_Z X w u enc pc (a0 :: a1 :: a2 :: a3 :: a4 :: a5 :: some (.int x) :: r) st g (et_b v f) := zi_iinc6 hX hd hv hn hc (k v)
theorem zi_iincb7 {a0 a1 a2 a3 a4 a5 a6 : Option Value} {x v : Int32} {n : Int} {f : Int32 → Option (α × et_G)} (hX : et_Gd X w b own nL ret tb rm) (hd : decode b pc = .ok (.iinc 7 n, 3)) (hv : x + Int32.ofInt n = v) (hn : Nat.ble 8 nL = true) (hc : et_c1 a6 = true) (k : ∀ v : Int32, et_Z X w u enc (pc + 3) (a0 :: a1 :: a2 :: a3 :: a4 :: a5 :: a6 :: some (.int v) :: r) st g (f v)) : et_Z X w u enc pc (a0 :: a1 :: a2 :: a3 :: a4 :: a5 :: a6 :: some (.int x) :: r) st g (et_b v f) := zi_iinc7 hX hd hv hn hc (k v)
theorem zi_iincb8 {a0 a1 a2 a3 a4 a5 a6 a7 : Option Value} {x v : Int32} {n : Int} {f : Int32 → Option (α × et_G)} (hX : et_Gd X w b own nL ret tb rm) (hd : decode b pc = .ok (.iinc 8 n, 3)) (hv : x + Int32.ofInt n = v) (hn : Nat.ble 9 nL = true) (hc : et_c1 a7 = true) (k : ∀ v : Int32, et_Z X w u enc (pc + 3) (a0 :: a1 :: a2 :: a3 :: a4 :: a5 :: a6 :: a7 :: some (.int v) :: r) st g (f v)) : et_Z X w u enc pc (a0 :: a1 :: a2 :: a3 :: a4 :: a5 :: a6 :: a7 :: some (.int x) :: r) st g (et_b v f) := zi_iinc8 hX hd hv hn hc (k v)
theorem zi_iincb9 {a0 a1 a2 a3 a4 a5 a6 a7 a8 : Option Value} {x v : Int32} {n : Int} {f : Int32 → Option (α × et_G)} (hX : et_Gd X w b own nL ret tb rm) (hd : decode b pc = .ok (.iinc 9 n, 3)) (hv : x + Int32.ofInt n = v) (hn : Nat.ble 10 nL = true) (hc : et_c1 a8 = true) (k : ∀ v : Int32, et_Z X w u enc (pc + 3) (a0 :: a1 :: a2 :: a3 :: a4 :: a5 :: a6 :: a7 :: a8 :: some (.int v) :: r) st g (f v)) : et_Z X w u enc pc (a0 :: a1 :: a2 :: a3 :: a4 :: a5 :: a6 :: a7 :: a8 :: some (.int x) :: r) st g (et_b v f) := zi_iinc9 hX hd hv hn hc (k v)
theorem zi_iincb10 {a0 a1 a2 a3 a4 a5 a6 a7 a8 a9 : Option Value} {x v : Int32} {n : Int} {f : Int32 → Option (α × et_G)} (hX : et_Gd X w b own nL ret tb rm) (hd : decode b pc = .ok (.iinc 10 n, 3)) (hv : x + Int32.ofInt n = v) (hn : Nat.ble 11 nL = true) (hc : et_c1 a9 = true) (k : ∀ v : Int32, et_Z X w u enc (pc + 3) (a0 :: a1 :: a2 :: a3 :: a4 :: a5 :: a6 :: a7 :: a8 :: a9 :: some (.int v) :: r) st g (f v)) : et_Z X w u enc pc (a0 :: a1 :: a2 :: a3 :: a4 :: a5 :: a6 :: a7 :: a8 :: a9 :: some (.int x) :: r) st g (et_b v f) := zi_iinc10 hX hd hv hn hc (k v)
theorem zi_iincb11 {a0 a1 a2 a3 a4 a5 a6 a7 a8 a9 a10 : Option Value} {x v : Int32} {n : Int} {f : Int32 → Option (α × et_G)} (hX : et_Gd X w b own nL ret tb rm) (hd : decode b pc = .ok (.iinc 11 n, 3)) (hv : x + Int32.ofInt n = v) (hn : Nat.ble 12 nL = true) (hc : et_c1 a10 = true) (k : ∀ v : Int32, et_Z X w u enc (pc + 3) (a0 :: a1 :: a2 :: a3 :: a4 :: a5 :: a6 :: a7 :: a8 :: a9 :: a10 :: some (.int v) :: r) st g (f v)) : et_Z X w u enc pc (a0 :: a1 :: a2 :: a3 :: a4 :: a5 :: a6 :: a7 :: a8 :: a9 :: a10 :: some (.int x) :: r) st g (et_b v f) := zi_iinc11 hX hd hv hn hc (k v)
theorem zi_iincb12 {a0 a1 a2 a3 a4 a5 a6 a7 a8 a9 a10 a11 : Option Value} {x v : Int32} {n : Int} {f : Int32 → Option (α × et_G)} (hX : et_Gd X w b own nL ret tb rm) (hd : decode b pc = .ok (.iinc 12 n, 3)) (hv : x + Int32.ofInt n = v) (hn : Nat.ble 13 nL = true) (hc : et_c1 a11 = true) (k : ∀ v : Int32, et_Z X w u enc (pc + 3) (a0 :: a1 :: a2 :: a3 :: a4 :: a5 :: a6 :: a7 :: a8 :: a9 :: a10 :: a11 :: some (.int v) :: r) st g (f v)) : et_Z X w u enc pc (a0 :: a1 :: a2 :: a3 :: a4 :: a5 :: a6 :: a7 :: a8 :: a9 :: a10 :: a11 :: some (.int x) :: r) st g (et_b v f) := zi_iinc12 hX hd hv hn hc (k v)
end ZB
end
section
/-! fields, arrays, answers, throws -/
def et_FL (own : String) (idx ci j : Nat) (ty : FieldType) (fin : Bool) : Prop := ∃ (C : String) (T : u_T) (N : Nat) (ty0 : Nat → FieldType), vwCl[ci]? = some (C, T, N) ∧ j < N ∧ (∀ q ∈ u_ws C T N, q ∈ et_tb) ∧ Cond.fieldLink own idx (T j).1 (T j).2.1 (T j).2.2.1 ∈ et_tb ∧ (∀ k, k < N → parseFieldDescriptor (T k).2.2.1 = some (ty0 k)) ∧ (∀ a, a < N → ∀ b, b < N → a ≠ b → (T a).2.1 ≠ (T b).2.1) ∧ (T j).2.2.2 = fin ∧ ty0 j = ty
section ZM
variable {α : Type} {X : et_X} {w : et_W} {u pc nL : Nat} {enc : α → et_O} {b : ByteArray} {own : String} {ret : Option FieldType} {tb : List ExceptionTableEntry} {rm : Room} {lv r : List (Option Value)} {st : List Value} {g : et_G} {o : Option (α × et_G)} {k idx ci j n : Nat} {ty : FieldType} {fin : Bool} {ks : List Nat}
theorem et_Gd.sane (h : et_Gd X w b own nL ret tb rm) : et_Sane w := by
  obtain ⟨p, l, e, R, s, m, args, below, meth, c⟩ := X
  exact h.2.2.2.2.2.2.2.1
theorem zi_getf {v : Value} {q : Nat} (hX : et_Gd X w b own nL ret tb rm) (hd : decode b pc = .ok (.getfield idx, 3)) (hf : et_FL own idx ci j ty fin) (hk : et_lay[k]? = some (.inr (ci, ks))) (hj : ks[j]? = some q) (hv : et_fv w g k q j = v)
    (kk : et_Z X w u enc (pc + 3) lv (v :: st) g o) : et_Z X w u enc pc lv (.ref (et_ad w k) :: st) g o := by
  obtain ⟨p, l, e, R, s, m, args, below, meth, c⟩ := X
  intro a1 g1 ho H locs ls hP hS hl
  obtain ⟨hx, hb, hml, hown, hts, hr, hlocks, hsane, hU, -⟩ := hX
  obtain ⟨C, T, N, ty0, f1, f2, f3, f4, f5, f6, f7, f8⟩ := hf
  subst hv
  exact va_get hx hb hts f3 hown (et_Kof hsane hU) hP k (et_at hk) f1 j f2 (hts _ f4) (fun _ h => h) (et_fs_at hj) hd (kk a1 g1 ho H locs ls hP hS hl)
theorem zi_geti (hX : et_Gd X w b own nL ret tb rm) (hd : decode b pc = .ok (.getfield idx, 3)) (hf : et_FL own idx ci j ty fin) (hk : et_lay[k]? = some (.inr (ci, ks))) (hj : ks[j]? = some 0)
    (kk : et_Z X w u enc (pc + 3) lv (.int (g.1 k j) :: st) g o) : et_Z X w u enc pc lv (.ref (et_ad w k) :: st) g o := zi_getf hX hd hf hk hj rfl kk
theorem zi_getl (hX : et_Gd X w b own nL ret tb rm) (hd : decode b pc = .ok (.getfield idx, 3)) (hf : et_FL own idx ci j ty fin) (hk : et_lay[k]? = some (.inr (ci, ks))) (hj : ks[j]? = some 1)
    (kk : et_Z X w u enc (pc + 3) lv (.long (g.2 k j) :: st) g o) : et_Z X w u enc pc lv (.ref (et_ad w k) :: st) g o := zi_getf hX hd hf hk hj rfl kk
theorem zi_getr {q : Nat} (hX : et_Gd X w b own nL ret tb rm) (hd : decode b pc = .ok (.getfield idx, 3)) (hf : et_FL own idx ci j ty fin) (hk : et_lay[k]? = some (.inr (ci, ks))) (hj : ks[j]? = some (q + 2))
    (kk : et_Z X w u enc (pc + 3) lv (.ref (et_ad w q) :: st) g o) : et_Z X w u enc pc lv (.ref (et_ad w k) :: st) g o := zi_getf hX hd hf hk hj rfl kk
theorem zi_puti {x : Int32} (hX : et_Gd X w b own nL ret tb rm) (hd : decode b pc = .ok (.putfield idx, 3)) (hf : et_FL own idx ci j ty false) (hk : et_lay[k]? = some (.inr (ci, ks))) (hj : ks[j]? = some 0) (hn : narrow ty (.int x) = .int x) (hfit : fits ty (.int x) = true)
    (kk : et_Z X w u enc (pc + 3) lv st (et_si g k j x) o) : et_Z X w u enc pc lv (.int x :: .ref (et_ad w k) :: st) g o := by
  obtain ⟨p, l, e, R, s, m, args, below, meth, c⟩ := X
  intro a1 g1 ho H locs ls hP hS hl
  obtain ⟨hx, hb, hml, hown, hts, hr, hlocks, hsane, hU, -⟩ := hX
  obtain ⟨C, T, N, ty0, f1, f2, f3, f4, f5, f6, f7, f8⟩ := hf
  have hlt : j < ks.length := (List.getElem?_eq_some_iff.mp hj).1
  have he0 : (et_ws w g)[k]? = some (et_ad w k, .inr (ci, ks.mapIdx (fun j q => et_fv w g k q j))) := et_at hk
  have he := et_set (w := w) (g := g) (g2 := et_si g k j x) hk et_ce_si
  have h2 : et_ce w (et_si g k j x) k (.inr (ci, ks)) = .inr (ci, ks.mapIdx (fun j2 q => et_fv w (et_si g k j x) k q j2)) := rfl
  rw [h2] at he
  have hlen : j < (ks.mapIdx (fun j q => et_fv w g k q j)).length := by rw [List.length_mapIdx]; exact hlt
  have hpd : parseFieldDescriptor (T j).2.2.1 = some ty := by rw [f5 j f2, f8]
  refine va_put (fs := ks.mapIdx (fun j q => et_fv w g k q j)) (ci := ci) (C := C) (T := T) (N := N) hx hb hts f3 ty0 f5 f6 hown (et_Kof hsane hU) hP (et_D hsane g) hS k he0 f1 j f2 (hts _ f4) (fun _ h => h) f7 hpd hn hfit hlen hd (fun H1 locs1 hP1 _ hS1 => ?_)
  rw [et_fs_si hj, he] at hP1
  exact kk a1 g1 ho H1 locs1 ls hP1 hS1 hl
theorem zi_putl {x : Int64} (hX : et_Gd X w b own nL ret tb rm) (hd : decode b pc = .ok (.putfield idx, 3)) (hf : et_FL own idx ci j .long false) (hk : et_lay[k]? = some (.inr (ci, ks))) (hj : ks[j]? = some 1)
    (kk : et_Z X w u enc (pc + 3) lv st (et_sl g k j x) o) : et_Z X w u enc pc lv (.long x :: .ref (et_ad w k) :: st) g o := by
  obtain ⟨p, l, e, R, s, m, args, below, meth, c⟩ := X
  intro a1 g1 ho H locs ls hP hS hl
  obtain ⟨hx, hb, hml, hown, hts, hr, hlocks, hsane, hU, -⟩ := hX
  obtain ⟨C, T, N, ty0, f1, f2, f3, f4, f5, f6, f7, f8⟩ := hf
  have hlt : j < ks.length := (List.getElem?_eq_some_iff.mp hj).1
  have he0 : (et_ws w g)[k]? = some (et_ad w k, .inr (ci, ks.mapIdx (fun j q => et_fv w g k q j))) := et_at hk
  have he := et_set (w := w) (g := g) (g2 := et_sl g k j x) hk et_ce_sl
  have h2 : et_ce w (et_sl g k j x) k (.inr (ci, ks)) = .inr (ci, ks.mapIdx (fun j2 q => et_fv w (et_sl g k j x) k q j2)) := rfl
  rw [h2] at he
  have hlen : j < (ks.mapIdx (fun j q => et_fv w g k q j)).length := by rw [List.length_mapIdx]; exact hlt
  have hpd : parseFieldDescriptor (T j).2.2.1 = some .long := by rw [f5 j f2, f8]
  refine va_put (fs := ks.mapIdx (fun j q => et_fv w g k q j)) (ci := ci) (C := C) (T := T) (N := N) hx hb hts f3 ty0 f5 f6 hown (et_Kof hsane hU) hP (et_D hsane g) hS k he0 f1 j f2 (hts _ f4) (fun _ h => h) f7 hpd rfl rfl hlen hd (fun H1 locs1 hP1 _ hS1 => ?_)
  rw [et_fs_sl hj, he] at hP1
  exact kk a1 g1 ho H1 locs1 ls hP1 hS1 hl
theorem zi_ck {c : Bool} (kk : c = true → et_Z X w u enc pc lv st g o) : et_Z X w u enc pc lv st g (et_ck c o) := by
  unfold et_ck
  refine zi_ite kk (fun _ => ?_)
  intro a g2 h
  cases h
theorem et_t0 (w : et_W) : (et_tys w)[0]? = some (et_ca w .int, .int) := rfl
theorem et_t1 (w : et_W) : (et_tys w)[1]? = some (et_ca w .byte, .byte) := rfl
theorem et_t2 (w : et_W) : (et_tys w)[2]? = some (et_ca w .boolean, .boolean) := rfl
theorem et_t3 (w : et_W) : (et_tys w)[3]? = some (et_ca w .long, .long) := rfl
theorem zi_iald {i : Int32} (hX : et_Gd X w b own nL ret tb rm) (hd : decode b pc = .ok (.iaload, 1)) (hk : et_lay[k]? = some (.inl (.int, n)))
    (kk : et_Z X w u enc (pc + 1) lv (.int (g.1 k i.toNatClampNeg) :: st) g o) : et_Z X w u enc pc lv (.int i :: .ref (et_ad w k) :: st) g (et_ck (et_ib i n) o) := by
  refine zi_ck fun hin => ?_
  obtain ⟨p, l, e, R, s, m, args, below, meth, c⟩ := X
  intro a1 g1 ho H locs ls hP hS hl
  exact va_iald hX.1 hX.2.1 (et_Kof hX.2.2.2.2.2.2.2.1 hX.2.2.2.2.2.2.2.2.1) hP k 0 (et_at hk) (et_t0 w) (et_ib_in hin) hd (kk a1 g1 ho H locs ls hP hS hl)
theorem zi_bald {i : Int32} (hX : et_Gd X w b own nL ret tb rm) (hd : decode b pc = .ok (.baload, 1)) (hk : et_lay[k]? = some (.inl (.byte, n)))
    (kk : et_Z X w u enc (pc + 1) lv (.int (g.1 k i.toNatClampNeg) :: st) g o) : et_Z X w u enc pc lv (.int i :: .ref (et_ad w k) :: st) g (et_ck (et_ib i n) o) := by
  refine zi_ck fun hin => ?_
  obtain ⟨p, l, e, R, s, m, args, below, meth, c⟩ := X
  intro a1 g1 ho H locs ls hP hS hl
  exact va_bald hX.1 hX.2.1 (et_Kof hX.2.2.2.2.2.2.2.1 hX.2.2.2.2.2.2.2.2.1) hP k 1 (et_at hk) (et_t1 w) (et_ib_in hin) hd (kk a1 g1 ho H locs ls hP hS hl)
theorem zi_zald {i : Int32} (hX : et_Gd X w b own nL ret tb rm) (hd : decode b pc = .ok (.baload, 1)) (hk : et_lay[k]? = some (.inl (.boolean, n)))
    (kk : et_Z X w u enc (pc + 1) lv (.int (g.1 k i.toNatClampNeg) :: st) g o) : et_Z X w u enc pc lv (.int i :: .ref (et_ad w k) :: st) g (et_ck (et_ib i n) o) := by
  refine zi_ck fun hin => ?_
  obtain ⟨p, l, e, R, s, m, args, below, meth, c⟩ := X
  intro a1 g1 ho H locs ls hP hS hl
  exact va_zald hX.1 hX.2.1 (et_Kof hX.2.2.2.2.2.2.2.1 hX.2.2.2.2.2.2.2.2.1) hP k 2 (et_at hk) (et_t2 w) (et_ib_in hin) hd (kk a1 g1 ho H locs ls hP hS hl)
theorem zi_lald {i : Int32} (hX : et_Gd X w b own nL ret tb rm) (hd : decode b pc = .ok (.laload, 1)) (hk : et_lay[k]? = some (.inl (.long, n)))
    (kk : et_Z X w u enc (pc + 1) lv (.long (g.2 k i.toNatClampNeg) :: st) g o) : et_Z X w u enc pc lv (.int i :: .ref (et_ad w k) :: st) g (et_ck (et_ib i n) o) := by
  refine zi_ck fun hin => ?_
  obtain ⟨p, l, e, R, s, m, args, below, meth, c⟩ := X
  intro a1 g1 ho H locs ls hP hS hl
  exact va_lald hX.1 hX.2.1 (et_Kof hX.2.2.2.2.2.2.2.1 hX.2.2.2.2.2.2.2.2.1) hP k 3 (et_at hk) (et_t3 w) (et_ib_in hin) hd (kk a1 g1 ho H locs ls hP hS hl)
theorem zi_iast {i x : Int32} (hX : et_Gd X w b own nL ret tb rm) (hd : decode b pc = .ok (.iastore, 1)) (hk : et_lay[k]? = some (.inl (.int, n)))
    (kk : et_Z X w u enc (pc + 1) lv st (et_si g k i.toNatClampNeg x) o) : et_Z X w u enc pc lv (.int x :: .int i :: .ref (et_ad w k) :: st) g (et_ck (et_ib i n) o) := by
  refine zi_ck fun hin => ?_
  obtain ⟨p, l, e, R, s, m, args, below, meth, c⟩ := X
  intro a1 g1 ho H locs ls hP hS hl
  have hsane := hX.2.2.2.2.2.2.2.1
  refine va_iast hX.1 hX.2.1 (et_Kof hsane hX.2.2.2.2.2.2.2.2.1) hP (et_D hsane g) hS k 0 (et_at hk) (et_t0 w) (et_ib_in hin) hd (fun H1 locs1 hP1 _ hS1 => kk a1 g1 ho H1 locs1 ls ?_ hS1 hl)
  have he := et_set (w := w) (g := g) (g2 := et_si g k i.toNatClampNeg x) hk et_ce_si
  have h2 : et_ce w (et_si g k i.toNatClampNeg x) k (.inl (.int, n)) = .inl (et_ca w .int, n, .inl (upd (g.1 k) i.toNatClampNeg x)) := by simp [et_ce, et_si_eq]
  rw [h2] at he
  rw [he] at hP1
  exact hP1
theorem zi_bast {i x : Int32} (hX : et_Gd X w b own nL ret tb rm) (hd : decode b pc = .ok (.bastore, 1)) (hk : et_lay[k]? = some (.inl (.byte, n)))
    (kk : et_Z X w u enc (pc + 1) lv st (et_si g k i.toNatClampNeg (vp_nar .byte x)) o) : et_Z X w u enc pc lv (.int x :: .int i :: .ref (et_ad w k) :: st) g (et_ck (et_ib i n) o) := by
  refine zi_ck fun hin => ?_
  obtain ⟨p, l, e, R, s, m, args, below, meth, c⟩ := X
  intro a1 g1 ho H locs ls hP hS hl
  have hsane := hX.2.2.2.2.2.2.2.1
  refine va_bast hX.1 hX.2.1 (et_Kof hsane hX.2.2.2.2.2.2.2.2.1) hP (et_D hsane g) hS k 1 (et_at hk) (et_t1 w) (et_ib_in hin) hd (fun H1 locs1 hP1 _ hS1 => kk a1 g1 ho H1 locs1 ls ?_ hS1 hl)
  have he := et_set (w := w) (g := g) (g2 := et_si g k i.toNatClampNeg (vp_nar .byte x)) hk et_ce_si
  have h2 : et_ce w (et_si g k i.toNatClampNeg (vp_nar .byte x)) k (.inl (.byte, n)) = .inl (et_ca w .byte, n, .inl (upd (g.1 k) i.toNatClampNeg (vp_nar .byte x))) := by simp [et_ce, et_si_eq]
  rw [h2] at he
  rw [he] at hP1
  exact hP1
theorem zi_zast {i x : Int32} (hX : et_Gd X w b own nL ret tb rm) (hd : decode b pc = .ok (.bastore, 1)) (hk : et_lay[k]? = some (.inl (.boolean, n)))
    (kk : et_Z X w u enc (pc + 1) lv st (et_si g k i.toNatClampNeg (vp_nar .boolean x)) o) : et_Z X w u enc pc lv (.int x :: .int i :: .ref (et_ad w k) :: st) g (et_ck (et_ib i n) o) := by
  refine zi_ck fun hin => ?_
  obtain ⟨p, l, e, R, s, m, args, below, meth, c⟩ := X
  intro a1 g1 ho H locs ls hP hS hl
  have hsane := hX.2.2.2.2.2.2.2.1
  refine va_zast hX.1 hX.2.1 (et_Kof hsane hX.2.2.2.2.2.2.2.2.1) hP (et_D hsane g) hS k 2 (et_at hk) (et_t2 w) (et_ib_in hin) hd (fun H1 locs1 hP1 _ hS1 => kk a1 g1 ho H1 locs1 ls ?_ hS1 hl)
  have he := et_set (w := w) (g := g) (g2 := et_si g k i.toNatClampNeg (vp_nar .boolean x)) hk et_ce_si
  have h2 : et_ce w (et_si g k i.toNatClampNeg (vp_nar .boolean x)) k (.inl (.boolean, n)) = .inl (et_ca w .boolean, n, .inl (upd (g.1 k) i.toNatClampNeg (vp_nar .boolean x))) := by simp [et_ce, et_si_eq]
  rw [h2] at he
  rw [he] at hP1
  exact hP1
theorem zi_last {i : Int32} {x : Int64} (hX : et_Gd X w b own nL ret tb rm) (hd : decode b pc = .ok (.lastore, 1)) (hk : et_lay[k]? = some (.inl (.long, n)))
    (kk : et_Z X w u enc (pc + 1) lv st (et_sl g k i.toNatClampNeg x) o) : et_Z X w u enc pc lv (.long x :: .int i :: .ref (et_ad w k) :: st) g (et_ck (et_ib i n) o) := by
  refine zi_ck fun hin => ?_
  obtain ⟨p, l, e, R, s, m, args, below, meth, c⟩ := X
  intro a1 g1 ho H locs ls hP hS hl
  have hsane := hX.2.2.2.2.2.2.2.1
  refine va_last hX.1 hX.2.1 (et_Kof hsane hX.2.2.2.2.2.2.2.2.1) hP (et_D hsane g) hS k 3 (et_at hk) (et_t3 w) (et_ib_in hin) hd (fun H1 locs1 hP1 _ hS1 => kk a1 g1 ho H1 locs1 ls ?_ hS1 hl)
  have he := et_set (w := w) (g := g) (g2 := et_sl g k i.toNatClampNeg x) hk et_ce_sl
  have h2 : et_ce w (et_sl g k i.toNatClampNeg x) k (.inl (.long, n)) = .inl (et_ca w .long, n, .inr (.inl (vp_updL (g.2 k) i.toNatClampNeg x))) := by simp [et_ce, et_sl_eq]
  rw [h2] at he
  rw [he] at hP1
  exact hP1
theorem zi_alen {v : Int32} {t : FieldType} (hX : et_Gd X w b own nL ret tb rm) (hd : decode b pc = .ok (.arraylength, 1)) (hk : et_lay[k]? = some (.inl (t, n))) (q : Nat) (hq : (et_tys w)[q]? = some (et_ca w t, t)) (hv : Int32.ofNat n = v)
    (kk : et_Z X w u enc (pc + 1) lv (.int v :: st) g o) : et_Z X w u enc pc lv (.ref (et_ad w k) :: st) g o := by
  obtain ⟨p, l, e, R, s, m, args, below, meth, c⟩ := X
  intro a1 g1 ho H locs ls hP hS hl
  have hc : ∃ x : vp_A, et_ce w g k (.inl (t, n)) = .inl (et_ca w t, x) ∧ x.1 = n := by cases t <;> exact ⟨_, rfl, rfl⟩
  obtain ⟨x, hx1, hx2⟩ := hc
  refine va_alen hX.1 hX.2.1 (et_Kof hX.2.2.2.2.2.2.2.1 hX.2.2.2.2.2.2.2.2.1) hP k q (by rw [et_at hk, hx1]) hq (by rw [hx2]; exact hv) hd (kk a1 g1 ho H locs ls hP hS hl)
end ZM
end
section
/-! answers, throws, contracts, calls -/
section ZW
variable {p : Program} {l : Launch} {e : Env} {R : Room} {s : State} {m : MethodId} {args : Array Value} {below : List Frame} {meth : Method} {c : Code} {H : Heap} {locs : List Loc} {cells slots : Nat} {Q : State → Prop}
theorem et_Wz {cc : ByteArray} {Qc : Array Value → State → Outcome → State → Prop} {free : Addr → Prop} {v v2 : Int32} {ty : FieldType} (hexec : p.tables.exec = Jvm.exec) (hb : c.code = cc) (hr : meth.sig.returnType = some ty) (hn : narrow ty (.int v) = .int v2)
    (hq : ∀ t : State, t.heap = H → s.WarmedH t.vm → Qc args s (.returned (some (.int v2))) t) (hf : ∀ q ∈ locs, free q.base)
    {pc : Nat} {ls : Array Slot} (hdg : decode cc pc = .ok (.ireturn, 1)) (hlocks : meth.locks = false) : W p l e R s m args below meth c H locs cells slots (MQ below Qc args s cells slots free) (F0 m pc ls [.int v]) := by
  intro T hT X
  obtain ⟨fs, hret, hrun, hended, hW, hframe⟩ := X.leave (v := some (.int v2)) (fun h => by rw [hr] at h; cases h)
  have hmeth' : T.vm.method? m = some meth := X.method'
  refine ⟨T.setFrames fs, ?_, .returned (some (.int v2)), hrun, hended, hq _ hT hW, locs, ⟨⟨_, rfl⟩, hW, hframe⟩, hf⟩
  jvm_step X.here [X.here.top, hexec, hb, hdg, hmeth', hr, hn]
  (try refine ⟨rfl, ?_⟩); (try refine ⟨rfl, ?_⟩)
  first | (intro acts; rw [hret _ acts rfl rfl rfl]) | rw [hret _ _ rfl rfl rfl]
  exact Steps.refl _
/-- behind a call: it has returned, or thrown -/
theorem et_callE {w : et_W} {o1 : et_O} {g1 : et_G} {a : Array Value} {u mc pc : Nat} {ls : Array Slot} {st0 rest : List Value}
    (hr : vx_Run p l e R s m args below meth c H locs u (6 * u) mc (6 * mc) (F0 m pc ls st0) rest (et_Qc w o1 g1 a) (et_XC w o1 g1) (et_A w)) (hS : va_S (et_A w) s.heap H locs)
    (kr : ∀ v, o1 = .inl v → ∀ (H1 : Heap) (locs1 : List Loc), et_R w g1 H1 → va_S (et_A w) s.heap H1 locs1 → W p l e R s m args below meth c H1 locs1 (u + mc) (6 * (u + mc)) Q (F0 m (pc + 3) ls (v.toList ++ rest)))
    (kx : ∀ k, o1 = .inr k → ∀ (H1 : Heap) (locs1 : List Loc) (q9 : Addr) (ce : Cell), et_R w g1 H1 → va_S (et_A w) s.heap H1 locs1 → H1[q9]? = some ce → ce.vm = .none → s.vm.findClass (et_xn k) = some ce.cls → vx_W p l e R s m args below meth c H1 locs1 (u + mc) (6 * (u + mc)) Q (F0 m pc ls rest) q9) :
    W p l e R s m args below meth c H locs u (6 * u) Q (F0 m pc ls st0) := by
  intro T hT X
  have e6 : 6 * (u + mc) = 6 * u + 6 * mc := Nat.mul_add 6 u mc
  rcases hr T hT X with ⟨v, st₀, t, T', L, h0, X', hL, e1, e2, ⟨⟨v1, hv1, hv2⟩, hR, hF⟩, st⟩ | ⟨q, st₀, t, T', L, E, ce, h0, X', hL, e1, e2, ⟨⟨k, hk1, hk2⟩, hR, hF⟩, hce, hcv, hcl, st⟩
  · obtain ⟨k1, k2, k3⟩ := vx_keep h0 e1 hS (fun _ _ h => h) (fun _ h => h) hL hF
    cases hv2
    obtain ⟨t2, a1, b1⟩ := kr v hv1 T'.heap (locs ++ L) (by rw [e1]; exact hR) k3 T' rfl (by rw [e6]; exact X')
    exact ⟨t2, st t2 a1, b1⟩
  · obtain ⟨k1, k2, k3⟩ := vx_keep h0 e1 hS (fun _ _ h => h) (fun _ h => h) hL hF
    subst hk2
    obtain ⟨t2, a1, b1⟩ := kx k hk1 T'.heap (locs ++ L) q ce (by rw [e1]; exact hR) k3 (by rw [e1]; exact hce) hcv hcl T' rfl (by rw [e6]; exact X')
    exact ⟨t2, st.trans a1, b1⟩
end ZW
/-- a method's contract: from a state of the run that holds the picture g, it ends as o says -/
def et_C {α : Type} (w : et_W) (y : MethodName) (c0 : Cond) (rm : Room) (enc : α → et_O) (avs : List Value) (g : et_G) (o : Option (α × et_G)) : Prop :=
  ∀ (l : Launch), l.stackTraces = false → ∀ (a : α) (g2 : et_G), o = some (a, g2) → vx_Met l y [c0] rm (va_Pc avs (fun U => et_U w U ∧ et_R w g U.heap)) (et_Qc w (enc a) g2) (et_XC w (enc a) g2) rm.cells rm.slots (et_A w)
/-- what a callee's words are, once for each method -/
def et_MD (y : MethodName) (b : ByteArray) (nL : Nat) (ret : Option FieldType) (n : Nat) : Prop := Cond.code y b nL ret ∈ et_tb ∧ Cond.initialized y.cls ∈ et_tb ∧ (y.cls ≠ "java/lang/invoke/MethodHandle" ∧ y.cls ≠ "java/lang/invoke/VarHandle") ∧ (∀ sig, parseMethodDescriptor y.desc = some sig → n = sig.parameters.length)
def et_MI (y : MethodName) (ci : Nat) : Prop := Cond.instanceMethod y ∈ et_tb ∧ Cond.selects y.cls y y ∈ et_tb ∧ ∃ (T : u_T) (N : Nat), vwCl[ci]? = some (y.cls, T, N)
section ZC
variable {α β : Type} {X : et_X} {w : et_W} {u pc nL : Nat} {enc : α → et_O} {b : ByteArray} {own : String} {ret : Option FieldType} {tb : List ExceptionTableEntry} {rm : Room} {lv r : List (Option Value)} {st : List Value} {g : et_G} {o : Option (α × et_G)} {k idx ci j n : Nat} {ty : FieldType}
theorem zi_ret {a : α} {x v2 : Int32} (hX : et_Gd X w b own nL (some ty) tb rm) (hd : decode b pc = .ok (.ireturn, 1)) (hn : narrow ty (.int x) = .int v2) (he : enc a = .inl (some (.int v2))) (hc : Nat.ble u rm.cells = true) (hs : Nat.ble (6 * u) rm.slots = true) : et_Z X w u enc pc lv [.int x] g (some (a, g)) := by
  obtain ⟨p, l, e, R, s, m, args, below, meth, c⟩ := X
  intro a1 g1 ho H locs ls hP hS hl
  cases ho
  obtain ⟨hx, hb, hml, hown, hts, hr, hlocks, hsane, hU, htb, hlt, rfl⟩ := hX
  have h1 := Nat.le_of_ble_eq_true hc
  refine W.widen (k := R.cells) (n := R.slots) h1 (Nat.le_of_ble_eq_true hs) (vx_ret (et_Wz hx hb hr hn (fun t ht hW => ⟨⟨_, he, rfl⟩, by rw [ht]; exact hP, hS.F ht⟩) hS.2.2 hd hlocks))
theorem zi_vret {a : α} (hX : et_Gd X w b own nL none tb rm) (hd : decode b pc = .ok (.return_, 1)) (he : enc a = .inl none) (hc : Nat.ble u rm.cells = true) (hs : Nat.ble (6 * u) rm.slots = true) : et_Z X w u enc pc lv [] g (some (a, g)) := by
  obtain ⟨p, l, e, R, s, m, args, below, meth, c⟩ := X
  intro a1 g1 ho H locs ls hP hS hl
  cases ho
  obtain ⟨hx, hb, hml, hown, hts, hr, hlocks, hsane, hU, htb, hlt, rfl⟩ := hX
  have h1 := Nat.le_of_ble_eq_true hc
  refine W.widen (k := R.cells) (n := R.slots) h1 (Nat.le_of_ble_eq_true hs) (vx_ret (W.vret hx hb hr (fun t ht hW => ⟨⟨_, he, rfl⟩, by rw [ht]; exact hP, hS.F ht⟩) hS.2.2 hd hlocks))
theorem zi_lret {a : α} {x : Int64} (hX : et_Gd X w b own nL (some .long) tb rm) (hd : decode b pc = .ok (.lreturn, 1)) (he : enc a = .inl (some (.long x))) (hc : Nat.ble u rm.cells = true) (hs : Nat.ble (6 * u) rm.slots = true) : et_Z X w u enc pc lv [.long x] g (some (a, g)) := by
  obtain ⟨p, l, e, R, s, m, args, below, meth, c⟩ := X
  intro a1 g1 ho H locs ls hP hS hl
  cases ho
  obtain ⟨hx, hb, hml, hown, hts, hr, hlocks, hsane, hU, htb, hlt, rfl⟩ := hX
  have h1 := Nat.le_of_ble_eq_true hc
  refine W.widen (k := R.cells) (n := R.slots) h1 (Nat.le_of_ble_eq_true hs) (vx_ret (W.lret hx hb hr (fun t ht hW => ⟨⟨_, he, rfl⟩, by rw [ht]; exact hP, hS.F ht⟩) hS.2.2 hd hlocks))
/-- a contract out of a walk -/
theorem et_mk {y : MethodName} {avs : List Value} {lv0 : List (Option Value)} (hw : et_Sane w) (hy : plainName y.cls = true) (hn : Nat.ble (lg_sl avs).length nL = true) (hlv : et_L lv0 = lv_args 0 avs)
    (body : ∀ X : et_X, et_Gd X w b y.cls nL ret [] rm → et_Z X w 0 enc 0 lv0 [] g o) : et_C w y (Cond.code y b nL ret) rm enc avs g o := by
  intro l hl a g2 ho
  refine vx_ofW (cc := b) (maxL := nL) (ret := ret) (ws' := []) hy rfl ?_
  intro p e s m args below meth c s₁ B hml hnt hv
  obtain ⟨rfl, hU, hP⟩ := hv
  have hlk := B.notSynchronized
  have hgd : et_Gd (p, l, e, rm, s, m, avs.toArray, below, meth, c) w b y.cls nL ret [] rm :=
    ⟨B.exec, B.bytes, hml, findClass_of_methodNamed B.named, et_words hw hU _, B.returns, hlk, hw, hU, List.eq_nil_iff_forall_not_mem.mpr (fun x hx => hnt x hx), hl, rfl⟩
  have h0 := lv_entry avs (n := nL) (Nat.le_of_ble_eq_true hn)
  rw [lg_entry_eq]
  rw [← hlv] at h0
  have hz := body _ hgd a g2 ho s.heap [] _ hP va_S.rf (by rw [hml]; exact h0)
  exact hz
/-- the words of a call -/
theorem et_cb {s : State} {args : Array Value} {R : Room} {y : MethodName} {b1 : ByteArray} {nL1 : Nat} {ret1 : Option FieldType} {rm1 : Room} (hts : ∀ q ∈ et_tb, q.before args s = true) (hm : et_MD y b1 nL1 ret1 n) (hl : Cond.methodLink own idx y ∈ et_tb) (hR : rm1.frames + 1 ≤ R.frames ∧ 8 + (nL1 + 11) + rm1.locals ≤ R.locals) (hs : rm1.slots = 6 * rm1.cells) : CallB R s args own idx y b1 nL1 ret1 [Cond.code y b1 nL1 ret1] rm1 rm1.cells (6 * rm1.cells) n := by
  obtain ⟨m1, m2, m3, m4⟩ := hm
  refine ⟨rfl, hs, hR.1, hR.2, fun q hq a U hW => ?_, List.mem_cons_self, hts _ m1, hts _ m2, m3, m4, hts _ hl⟩
  rw [List.mem_singleton.mp hq]
  exact word_at hW (Or.inl rfl) (hts _ m1)
theorem et_pre {s : State} {H : Heap} {locs : List Loc} {avs : List Value} (hU : et_U w s) (hS : va_S (et_A w) s.heap H locs) (hP : et_R w g H) : FrameBlind (va_Pc avs (fun U => et_U w U ∧ et_R w g U.heap)) ∧ ∀ U : State, U.heap = H → s.WarmedH U.vm → va_Pc avs (fun U => et_U w U ∧ et_R w g U.heap) avs.toArray U :=
  ⟨fun a U g mk h => h, fun U hH hW => ⟨rfl, hU.next hS hH hW, by rw [hH]; exact hP⟩⟩
def et_rs (R rm1 : Room) (nL1 : Nat) (u : Nat) : Bool := Nat.ble (rm1.frames + 1) R.frames && (Nat.ble (8 + (nL1 + 11) + rm1.locals) R.locals && (Nat.ble (u + rm1.cells) R.cells && (Nat.ble (6 * u + 6 * rm1.cells) R.slots && Nat.beq rm1.slots (6 * rm1.cells))))
theorem et_rs_ok {R rm1 : Room} {nL1 u : Nat} (h : et_rs R rm1 nL1 u = true) : (rm1.frames + 1 ≤ R.frames ∧ 8 + (nL1 + 11) + rm1.locals ≤ R.locals) ∧ u + rm1.cells ≤ R.cells ∧ 6 * u + 6 * rm1.cells ≤ R.slots ∧ rm1.slots = 6 * rm1.cells := by
  simp only [et_rs, Bool.and_eq_true] at h
  obtain ⟨h1, h2, h3, h4, h5⟩ := h
  have e1 := Nat.le_of_ble_eq_true h1
  have e2 := Nat.le_of_ble_eq_true h2
  have e3 := Nat.le_of_ble_eq_true h3
  have e4 := Nat.le_of_ble_eq_true h4
  have e5 := Nat.eq_of_beq_eq_true h5
  exact ⟨⟨e1, e2⟩, e3, e4, e5⟩
/-- a call's run, whatever its kind: what the next rows take -/
def et_Call (X : et_X) (w : et_W) (u pc mc : Nat) (lv : List (Option Value)) (st0 rest : List Value) (g : et_G) (enc : β → et_O) (F : Option (β × et_G)) : Prop := match X with
  | (p, l, e, R, s, m, args, below, meth, c) => ∀ (x : β) (g1 : et_G), F = some (x, g1) → ∀ (H : Heap) (locs : List Loc) (ls : Array Slot), et_R w g H → va_S (et_A w) s.heap H locs → lv_has ls c.maxLocals (et_L lv) → ∃ a : Array Value, vx_Run p l e R s m args below meth c H locs u (6 * u) mc (6 * mc) (F0 m pc ls st0) rest (et_Qc w (enc x) g1 a) (et_XC w (enc x) g1) (et_A w)
theorem zc_virt {encC : β → et_O} {y : MethodName} {b1 : ByteArray} {nL1 : Nat} {ret1 : Option FieldType} {rm1 : Room} {As : List Value} {F : Option (β × et_G)} {ks : List Nat} (hX : et_Gd X w b own nL ret tb rm) (hd : decode b pc = .ok (.invokevirtual idx, 3)) (hl : Cond.methodLink own idx y ∈ et_tb) (hm : et_MD y b1 nL1 ret1 n) (hi : et_MI y ci) (hk : et_lay[k]? = some (.inr (ci, ks)))
    (hC : et_C w y (Cond.code y b1 nL1 ret1) rm1 encC (.ref (et_ad w k) :: As) g F) (hn : As.length = n) (hst : Nat.ble ((st.map fun v => v.category).sum) 8 = true) (hrs : et_rs rm rm1 nL1 u = true) : et_Call X w u pc rm1.cells lv (As.reverse ++ .ref (et_ad w k) :: st) st g encC F := by
  obtain ⟨p, l, e, R, s, m, args, below, meth, c⟩ := X
  intro x g1 hF H locs ls hP hS hlv
  obtain ⟨hx, hb, hml, hown, hts, hr, hlocks, hsane, hU, htb, hlt, rfl⟩ := hX
  obtain ⟨i1, i2, T, N, i3⟩ := hi
  obtain ⟨r1, r2, r3, r4⟩ := et_rs_ok hrs
  have hpre := et_pre (w := w) (g := g) (avs := .ref (et_ad w k) :: As) hU hS hP
  have hM := hC l hlt x g1 hF
  rw [r4] at hM
  exact ⟨_, vx_runV (C := y.cls) (n := n) (nL := c.maxLocals) (Ts := et_tb) ⟨hx, hb, rfl, hown, hts⟩ hM ⟨et_cb hts hm hl r1 r4, hts _ i1, hts _ i2⟩ ⟨hpre.1, va_recv (et_Kof hsane hU) hP i3 (et_at hk), hpre.2⟩ rfl hn hlv.1 rfl (by simpa using Nat.le_of_ble_eq_true hst) hd ⟨r2, r3⟩⟩
theorem zc_stat {encC : β → et_O} {y : MethodName} {b1 : ByteArray} {nL1 : Nat} {ret1 : Option FieldType} {rm1 : Room} {As : List Value} {F : Option (β × et_G)} (hX : et_Gd X w b own nL ret tb rm) (hd : decode b pc = .ok (.invokestatic idx, 3)) (hl : Cond.methodLink own idx y ∈ et_tb) (hm : et_MD y b1 nL1 ret1 n) (hi : Cond.static y ∈ et_tb)
    (hC : et_C w y (Cond.code y b1 nL1 ret1) rm1 encC As g F) (hn : As.length = n) (hst : Nat.ble ((st.map fun v => v.category).sum) 8 = true) (hrs : et_rs rm rm1 nL1 u = true) : et_Call X w u pc rm1.cells lv (As.reverse ++ st) st g encC F := by
  obtain ⟨p, l, e, R, s, m, args, below, meth, c⟩ := X
  intro x g1 hF H locs ls hP hS hlv
  obtain ⟨hx, hb, hml, hown, hts, hr, hlocks, hsane, hU, htb, hlt, rfl⟩ := hX
  obtain ⟨r1, r2, r3, r4⟩ := et_rs_ok hrs
  have hpre := et_pre (w := w) (g := g) (avs := As) hU hS hP
  have hM := hC l hlt x g1 hF
  rw [r4] at hM
  exact ⟨_, vx_runS (n := n) (nL := c.maxLocals) (Ts := et_tb) ⟨hx, hb, rfl, hown, hts⟩ hM ⟨et_cb hts hm hl r1 r4, hts _ hi⟩ hpre rfl hn hlv.1 rfl (by simpa using Nat.le_of_ble_eq_true hst) hd ⟨r2, r3⟩⟩
theorem zi_callI {F : Option (Int32 × et_G)} {f : Int32 → et_G → Option (α × et_G)} {mc : Nat} {st0 : List Value} (hc : et_Call X w u pc mc lv st0 st g et_eI F) (kk : ∀ (x : Int32) (g1 : et_G), et_Z X w (u + mc) enc (pc + 3) lv (.int x :: st) g1 (f x g1)) : et_Z X w u enc pc lv st0 g (et_bd F f) := by
  obtain ⟨p, l, e, R, s, m, args, below, meth, c⟩ := X
  intro a1 g2 ho H locs ls hP hS hlv
  cases hF : F with
  | none => rw [hF] at ho; cases ho
  | some q =>
    obtain ⟨x, g1⟩ := q
    rw [hF] at ho
    obtain ⟨a, hr⟩ := hc x g1 hF H locs ls hP hS hlv
    exact et_callE hr hS (fun v hv H1 locs1 hP1 hS1 => by cases hv; exact kk x g1 a1 g2 ho H1 locs1 ls hP1 hS1 hlv) (fun k hk => by cases hk)
theorem zi_callJ {F : Option (Int64 × et_G)} {f : Int64 → et_G → Option (α × et_G)} {mc : Nat} {st0 : List Value} (hc : et_Call X w u pc mc lv st0 st g et_eJ F) (kk : ∀ (x : Int64) (g1 : et_G), et_Z X w (u + mc) enc (pc + 3) lv (.long x :: st) g1 (f x g1)) : et_Z X w u enc pc lv st0 g (et_bd F f) := by
  obtain ⟨p, l, e, R, s, m, args, below, meth, c⟩ := X
  intro a1 g2 ho H locs ls hP hS hlv
  cases hF : F with
  | none => rw [hF] at ho; cases ho
  | some q =>
    obtain ⟨x, g1⟩ := q
    rw [hF] at ho
    obtain ⟨a, hr⟩ := hc x g1 hF H locs ls hP hS hlv
    exact et_callE hr hS (fun v hv H1 locs1 hP1 hS1 => by cases hv; exact kk x g1 a1 g2 ho H1 locs1 ls hP1 hS1 hlv) (fun k hk => by cases hk)
theorem zi_callU {F : Option (Unit × et_G)} {f : Unit → et_G → Option (α × et_G)} {mc : Nat} {st0 : List Value} (hc : et_Call X w u pc mc lv st0 st g et_eU F) (kk : ∀ (g1 : et_G), et_Z X w (u + mc) enc (pc + 3) lv st g1 (f () g1)) : et_Z X w u enc pc lv st0 g (et_bd F f) := by
  obtain ⟨p, l, e, R, s, m, args, below, meth, c⟩ := X
  intro a1 g2 ho H locs ls hP hS hlv
  cases hF : F with
  | none => rw [hF] at ho; cases ho
  | some q =>
    obtain ⟨x, g1⟩ := q
    rw [hF] at ho
    obtain ⟨a, hr⟩ := hc x g1 hF H locs ls hP hS hlv
    exact et_callE hr hS (fun v hv H1 locs1 hP1 hS1 => by cases hv; exact kk g1 a1 g2 ho H1 locs1 ls hP1 hS1 hlv) (fun k hk => by cases hk)
/-- what leaves this method too -/
theorem et_outX {γ : Type} {encT : Nat ⊕ γ → et_O} {p : Program} {l : Launch} {e : Env} {R : Room} {s : State} {m : MethodId} {args : Array Value} {below : List Frame} {meth : Method} {c : Code} {H1 : Heap} {locs1 : List Loc} {g1 : et_G} {k1 u1 : Nat} {ls : Array Slot} {rest : List Value} {q9 : Addr} {ce : Cell}
    (he : encT (.inl k1) = .inr k1) (hX : et_Gd (p, l, e, R, s, m, args, below, meth, c) w b own nL ret [] rm) (hP1 : et_R w g1 H1) (hS1 : va_S (et_A w) s.heap H1 locs1) (hce : H1[q9]? = some ce) (hcv : ce.vm = .none) (hcl : s.vm.findClass (et_xn k1) = some ce.cls) (h1 : u1 ≤ R.cells) (h2 : 6 * u1 ≤ R.slots) :
    vx_W p l e R s m args below meth c H1 locs1 u1 (6 * u1) (et_Q (p, l, e, R, s, m, args, below, meth, c) w (encT (.inl k1)) g1) (F0 m pc ls rest) q9 := by
  obtain ⟨hx, hb, hml, hown, hts, hr, hlocks, hsane, hU, htb, hlt, -⟩ := hX
  exact vx_out (by rw [htb]; intro x hx; cases hx) hlocks hce hcv hcl (fun t ht _ => ⟨⟨k1, he, rfl⟩, by rw [ht]; exact hP1, hS1.F ht⟩) hS1.2.2 h1 h2
theorem zi_callTI {γ : Type} {encT : Nat ⊕ γ → et_O} {F : Option ((Nat ⊕ Int32) × et_G)} {f : Int32 → et_G → Option ((Nat ⊕ γ) × et_G)} {mc : Nat} {st0 : List Value} (hX : et_Gd X w b own nL ret [] rm) (he : ∀ k, encT (.inl k) = .inr k) (hu : Nat.ble (u + mc) rm.cells = true) (hs : Nat.ble (6 * (u + mc)) rm.slots = true) (hc : et_Call X w u pc mc lv st0 st g et_tI F) (kk : ∀ (x : Int32) (g1 : et_G), et_Z X w (u + mc) encT (pc + 3) lv (.int x :: st) g1 (f x g1)) : et_Z X w u encT pc lv st0 g (et_bt F f) := by
  obtain ⟨p, l, e, R, s, m, args, below, meth, c⟩ := X
  intro a1 g2 ho H locs ls hP hS hlv
  have hR : R = rm := hX.2.2.2.2.2.2.2.2.2.2.2
  have hu1 := Nat.le_of_ble_eq_true hu
  cases hF : F with
  | none => rw [hF] at ho; cases ho
  | some q =>
    obtain ⟨x, g1⟩ := q
    rw [hF] at ho
    obtain ⟨a, hr⟩ := hc x g1 hF H locs ls hP hS hlv
    cases x with
    | inl k1 =>
      cases ho
      exact et_callE hr hS (fun v hv => by cases hv) (fun k hk H1 locs1 q9 ce hP1 hS1 hce hcv hcl => by cases hk; exact et_outX (he k1) hX hP1 hS1 hce hcv hcl (by rw [hR]; exact hu1) (by rw [hR]; exact Nat.le_of_ble_eq_true hs))
    | inr y => exact et_callE hr hS (fun v hv H1 locs1 hP1 hS1 => by cases hv; exact kk y g1 a1 g2 ho H1 locs1 ls hP1 hS1 hlv) (fun k hk => by cases hk)
theorem zi_callTU {γ : Type} {encT : Nat ⊕ γ → et_O} {F : Option ((Nat ⊕ Unit) × et_G)} {f : Unit → et_G → Option ((Nat ⊕ γ) × et_G)} {mc : Nat} {st0 : List Value} (hX : et_Gd X w b own nL ret [] rm) (he : ∀ k, encT (.inl k) = .inr k) (hu : Nat.ble (u + mc) rm.cells = true) (hs : Nat.ble (6 * (u + mc)) rm.slots = true) (hc : et_Call X w u pc mc lv st0 st g et_tU F) (kk : ∀ (g1 : et_G), et_Z X w (u + mc) encT (pc + 3) lv st g1 (f () g1)) : et_Z X w u encT pc lv st0 g (et_bt F f) := by
  obtain ⟨p, l, e, R, s, m, args, below, meth, c⟩ := X
  intro a1 g2 ho H locs ls hP hS hlv
  have hR : R = rm := hX.2.2.2.2.2.2.2.2.2.2.2
  have hu1 := Nat.le_of_ble_eq_true hu
  cases hF : F with
  | none => rw [hF] at ho; cases ho
  | some q =>
    obtain ⟨x, g1⟩ := q
    rw [hF] at ho
    obtain ⟨a, hr⟩ := hc x g1 hF H locs ls hP hS hlv
    cases x with
    | inl k1 =>
      cases ho
      exact et_callE hr hS (fun v hv => by cases hv) (fun k hk H1 locs1 q9 ce hP1 hS1 hce hcv hcl => by cases hk; exact et_outX (he k1) hX hP1 hS1 hce hcv hcl (by rw [hR]; exact hu1) (by rw [hR]; exact Nat.le_of_ble_eq_true hs))
    | inr y => exact et_callE hr hS (fun v hv H1 locs1 hP1 hS1 => by cases hv; exact kk g1 a1 g2 ho H1 locs1 ls hP1 hS1 hlv) (fun k hk => by cases hk)
end ZC
end
section
/-! a static call of a nest mate's private method; an exception made and thrown; switches -/
def et_xs : List String := ["java/lang/RuntimeException", "java/lang/Exception"]
def et_TH (own : String) (kx ik ic : Nat) : Prop := Cond.classLink own ik (et_xn kx) ∈ et_tb ∧ Cond.initialized (et_xn kx) ∈ et_tb ∧ (∀ q ∈ vx_at0 own ic (et_xn kx) et_xs, q ∈ et_tb) ∧ (∀ q ∈ Cond.classLink own ik (et_xn kx) :: Cond.initialized (et_xn kx) :: vx_at0 own ic (et_xn kx) et_xs, vx_ot q = true) ∧ Bundle.fit (et_xn kx) = true ∧ ∀ n ∈ et_xs, Bundle.fit n = true
section ZT
variable {α β : Type} {X : et_X} {w : et_W} {u pc nL : Nat} {enc : α → et_O} {b : ByteArray} {own : String} {ret : Option FieldType} {tb : List ExceptionTableEntry} {rm : Room} {lv r : List (Option Value)} {st : List Value} {g : et_G} {o : Option (α × et_G)} {k idx ci j n : Nat} {ty : FieldType}
theorem zc_nest {encC : β → et_O} {y : MethodName} {b1 : ByteArray} {nL1 : Nat} {ret1 : Option FieldType} {rm1 : Room} {As : List Value} {F : Option (β × et_G)} {host : String} (hX : et_Gd X w b own nL ret tb rm) (hd : decode b pc = .ok (.invokestatic idx, 3)) (hl : Cond.methodLinkNest own idx y host ∈ lw_tbl) (hm : et_MD y b1 nL1 ret1 n) (hi : Cond.static y ∈ et_tb)
    (hC : et_C w y (Cond.code y b1 nL1 ret1) rm1 encC As g F) (hn : As.length = n) (hst : Nat.ble ((st.map fun v => v.category).sum) 8 = true) (hrs : et_rs rm rm1 nL1 u = true) : et_Call X w u pc rm1.cells lv (As.reverse ++ st) st g encC F := by
  obtain ⟨p, l, e, R, s, m, args, below, meth, c⟩ := X
  intro x g1 hF H locs ls hP hS hlv
  obtain ⟨hx, hb, hml, hown, hts, hr, hlocks, hsane, hU, htb, hlt, rfl⟩ := hX
  obtain ⟨r1, r2, r3, r4⟩ := et_rs_ok hrs
  have hpre := et_pre (w := w) (g := g) (avs := As) hU hS hP
  have hM := hC l hlt x g1 hF
  rw [r4] at hM
  obtain ⟨⟨a0, h0⟩, -⟩ := id hsane
  have hlink : (Cond.methodLinkNest own idx y host).before args s = true := va_Nw.use rfl (va_Nw.warmM hU.1 (va_Nw.of rfl (h0 _ hl)))
  obtain ⟨m1, m2, m3, m4⟩ := hm
  have hcode := hts _ m1
  have hini := hts _ m2
  have hK := vx_back (bytes := b1) (maxL := nL1) (ret := ret1) (R := R) (p := p) (e := e) (below := below) (s := s) (sargs := args) (len := 3) (W9 := 8) hM hpre.1 rfl r4 r1.1 r1.2 (fun q hq a U hW => by rw [List.mem_singleton.mp hq]; exact word_at hW (Or.inl rfl) hcode) List.mem_cons_self (fun a' U hW => word_at hW (Or.inl (by first | rfl | simp [Cond.onTables, Cond.keeps, Cond.steady])) hini)
  refine ⟨As.toArray, ?_⟩
  intro T hT Y
  obtain ⟨mk, hnamed⟩ := Cond.code_named hcode
  obtain ⟨methM, cM, hmethM, -, -, -, -, -, -, hsigM⟩ := Cond.code_spec hnamed hcode
  have hstatic : methM.isStatic = true := Cond.static_spec hnamed hmethM (hts _ hi)
  obtain ⟨kP, hkP, -⟩ := className_of_methodNamed hnamed
  have hinitP : kP.init = .initialized := Cond.initialized_spec (findClass_of_methodNamed hnamed) hkP hini
  have hdc : decode c.code pc = .ok (.invokestatic idx, 3) := by rw [hb]; exact hd
  have hW8 : 2 * (F0 m pc ls st).monitorRoom + (st.map fun v => v.category).sum ≤ 8 := by simpa using Nat.le_of_ble_eq_true hst
  obtain ⟨vm₁, X₁, hstep₁⟩ := Y.invokestaticNest hx hown hlink hnamed hmethM hstatic hkP hinitP m3 (g := F0 m pc ls (As.reverse ++ st)) rfl (argsL := As) (rest := st) (hn.trans (m4 _ hsigM)) rfl hdc
  rcases hK m meth c ⟨T.setVm vm₁, locs, u, 6 * u⟩ (F0 m pc ls st) (.invokestatic idx) mk As.toArray X₁ rfl hlv.1 hdc hW8 (X₁.named hnamed) ⟨r2, r3, hpre.2 (T.setVm vm₁) hT X₁.warmed⟩ with ⟨v, ⟨U', l2, c2, s2⟩, X', ⟨g', mk', t, L, e1, e2, hq, h1, hL, h2, h3⟩, st1⟩ | ⟨q, ⟨U', l2, c2, s2⟩, X', ⟨g', mk', t, L, E, ce, e1, e2, hq, hce, hcv, hcl, h1, hL, h2, h3⟩, st1⟩
  · dsimp only [Pt.U, Pt.locs, Pt.cells, Pt.slots] at X' e1 e2 h1 h2 h3 st1
    subst h1; subst h2; subst h3
    exact Or.inl ⟨v, (T.setVm vm₁).calling g' mk' As.toArray, t, U', L, hT, X', hL, e1, e2, hq, fun target h => hstep₁ _ fun acts => by rw [doInvoke_state]; exact st1.trans h⟩
  · dsimp only [Pt.U, Pt.locs, Pt.cells, Pt.slots] at X' e1 e2 h1 h2 h3 st1 hcl
    subst h1; subst h2; subst h3
    exact Or.inr ⟨q, (T.setVm vm₁).calling g' mk' As.toArray, t, U', L, E, ce, hT, X', hL, e1, e2, hq, hce, hcv, vx_cls X₁.warmed hcl, hstep₁ _ fun acts => by rw [doInvoke_state]; exact st1⟩
theorem zi_thr {γ : Type} {encT : Nat ⊕ γ → et_O} {kx ik ic : Nat} (hX : et_Gd X w b own nL ret [] rm) (d0 : decode b pc = .ok (.new ik, 3)) (d3 : decode b (pc + 3) = .ok (.dup, 1)) (d4 : decode b (pc + 4) = .ok (.invokespecial ic, 3)) (d7 : decode b (pc + 7) = .ok (.athrow, 1))
    (ht : et_TH own kx ik ic) (he : encT (.inl kx) = .inr kx) (hr1 : Nat.ble 6 rm.frames = true) (hr2 : Nat.ble ((st.map fun v => v.category).sum + 81) rm.locals = true) (hr3 : Nat.ble (u + 1) rm.cells = true) (hs : Nat.ble (6 * (u + 1)) rm.slots = true) : et_Z X w u encT pc lv st g (some (.inl kx, g)) := by
  obtain ⟨p, l, e, R, s, m, args, below, meth, c⟩ := X
  intro a1 g1 ho H locs ls hP hS hlv
  cases ho
  obtain ⟨hx, hb, hml, hown, hts, hr, hlocks, hsane, hU, htb, hlt, rfl⟩ := hX
  obtain ⟨t1, t2, t3, t4, t5, t6⟩ := ht
  have e1 := Nat.le_of_ble_eq_true hr1
  have e2 := Nat.le_of_ble_eq_true hr2
  have e3 := Nat.le_of_ble_eq_true hr3
  have e4 := Nat.le_of_ble_eq_true hs
  refine vx_throw0 (names := et_xs) (A := et_A w) hx hb hlt hown t5 t6 (hts _ t1) (hts _ t2) (fun q hq => hts q (t3 q hq)) t4 (et_U.zq hsane.2.2.2.2.1 hU) (et_U.zq hsane.2.2.2.2.2.1 hU) hS hlv.1 d0 d3 d4 d7 (by rw [htb]; intro x h; cases h) (Nat.lt_of_lt_of_le (by decide) e1) (by show _ + (13 * 3 + 42) ≤ _; omega) e3 (by omega) hlocks
    (fun t hvm hz hk => ⟨⟨kx, he, rfl⟩, hP.kept (fun k q hq => hk q.1 (hP k q hq).lt), Nat.le_trans hS.1 hz, fun q h1 h2 => by rw [hk q (Nat.lt_of_lt_of_le h1 hS.1)]; exact hS.2.1 q h1 h2⟩) hS.2.2 e3 (by omega)
theorem zi_tabI {dflt lo hi off : Int} {offs : Array Int} {len : Nat} {x : Int32} (tgt : Nat) (hX : et_Gd X w b own nL ret tb rm) (hd : decode b pc = .ok (.tableswitch dflt lo hi offs, len)) (v : Int32) (hx : x = v) (h1 : ¬ v.toInt < lo) (h2 : ¬ hi < v.toInt) (ho : offs[(v.toInt - lo).toNat]? = some off) (ht : (pc : Int) + off = (tgt : Int)) (kk : et_Z X w u enc tgt lv st g o) : et_Z X w u enc pc lv (.int x :: st) g o := by
  subst hx
  obtain ⟨p, l, e, R, s, m, args, below, meth, c⟩ := X
  intro a1 g1 ho1 H locs ls hP hS hl
  exact lv_tableIn hX.1 hX.2.1 hd h1 h2 ho ht (kk a1 g1 ho1 H locs ls hP hS hl)
theorem zi_tabO {dflt lo hi : Int} {offs : Array Int} {len : Nat} {x : Int32} (tgt : Nat) (hX : et_Gd X w b own nL ret tb rm) (hd : decode b pc = .ok (.tableswitch dflt lo hi offs, len)) (h : x.toInt < lo ∨ hi < x.toInt) (ht : (pc : Int) + dflt = (tgt : Int)) (kk : et_Z X w u enc tgt lv st g o) : et_Z X w u enc pc lv (.int x :: st) g o := by
  obtain ⟨p, l, e, R, s, m, args, below, meth, c⟩ := X
  intro a1 g1 ho1 H locs ls hP hS hl
  exact lv_tableOut hX.1 hX.2.1 hd h ht (kk a1 g1 ho1 H locs ls hP hS hl)
theorem zi_lkp {dflt : Int} {ps : Array (Int × Int)} {len : Nat} {x : Int32} {off : Int} (tgt : Nat) (hX : et_Gd X w b own nL ret tb rm) (hd : decode b pc = .ok (.lookupswitch dflt ps, len)) (hp : (ps.toList.zip (ps.toList.drop 1)).all (fun (a, next) => a.1 < next.1) = true) (ho : Op.lookupswitch.offset ps.toList dflt x.toInt = off) (ht : (pc : Int) + off = (tgt : Int)) (kk : et_Z X w u enc tgt lv st g o) : et_Z X w u enc pc lv (.int x :: st) g o := by
  obtain ⟨p, l, e, R, s, m, args, below, meth, c⟩ := X
  intro a1 g1 ho1 H locs ls hP hS hl
  exact lv_lookup hX.1 hX.2.1 hd hp ho ht (kk a1 g1 ho1 H locs ls hP hS hl)
/-- loops: the walk of the body, going round as the function does -/
theorem zi_lp {σ : Type} {body : (σ → Option (α × et_G)) → σ → Option (α × et_G)} {lvs : σ → List (Option Value)} {gs : σ → et_G} (hb : ∀ (rec : σ → Option (α × et_G)), (∀ s, et_Z X w u enc pc (lvs s) st (gs s) (rec s)) → ∀ s, et_Z X w u enc pc (lvs s) st (gs s) (body rec s)) : ∀ (n : Nat) (s : σ), et_Z X w u enc pc (lvs s) st (gs s) (et_lp body n s)
  | 0, s => by intro a g2 h; cases h
  | n + 1, s => hb (et_lp body n) (zi_lp hb n) s
end ZT
end
section
/-! System.arraycopy; the words of strings -/
def et_cc (sp dp n : Int32) (n0 n1 : Nat) : Bool := decide (¬ sp < 0 ∧ ¬ dp < 0 ∧ ¬ n < 0 ∧ sp.toNatClampNeg + n.toNatClampNeg ≤ n0 ∧ dp.toNatClampNeg + n.toNatClampNeg ≤ n1)
def et_cf (t : FieldType) (g : et_G) (k : Nat) (sp n : Int32) : Bool := (List.range n.toNatClampNeg).all (fun i => fits t (.int (g.1 k (sp.toNatClampNeg + i))))
def et_cp (g : et_G) (k0 k1 sp dp n : Nat) : et_G := (fun a => if a = k1 then va_cpy (g.1 k0) (g.1 k1) sp dp n else g.1 a, g.2)
theorem et_ce_cp {w : et_W} {g : et_G} {k0 k1 sp dp n : Nat} : ∀ k2, k2 ≠ k1 → ∀ s2, et_ce w (et_cp g k0 k1 sp dp n) k2 s2 = et_ce w g k2 s2 := by
  intro k2 h s2
  have h1 : (et_cp g k0 k1 sp dp n).1 k2 = g.1 k2 := by simp [et_cp, h]
  have h2 : (et_cp g k0 k1 sp dp n).2 = g.2 := rfl
  have h3 : ∀ q j', et_fv w (et_cp g k0 k1 sp dp n) k2 q j' = et_fv w g k2 q j' := fun q j' => by
    match q with
    | 0 => simp [et_fv, h1]
    | 1 => simp [et_fv, h2]
    | r + 2 => rfl
  cases s2 with
  | inl a =>
    obtain ⟨t, n⟩ := a
    cases t <;> simp [et_ce, h1, h2]
  | inr a => simp [et_ce, h3]
theorem tc_nat : Cond.native arraycopyName ∈ et_tb := et_mt 690 (by decide +kernel) rfl
theorem tc_sta : Cond.static arraycopyName ∈ et_tb := et_mt 689 (by decide +kernel) rfl
theorem tc_ini : Cond.initialized "java/lang/System" ∈ et_tb := et_mt 133 (by decide +kernel) rfl
theorem tc_min : Cond.static Lib.Math.min.name ∈ et_tb ∧ Cond.initialized "java/lang/Math" ∈ et_tb ∧ Cond.code Lib.Math.min.name Lib.Math.min.code 2 (some .int) ∈ et_tb := ⟨et_mt 677 (by decide +kernel) rfl, et_mt 127 (by decide +kernel) rfl, et_mt 678 (by decide +kernel) rfl⟩
section ZY
variable {α : Type} {X : et_X} {w : et_W} {u pc nL : Nat} {enc : α → et_O} {b : ByteArray} {own : String} {ret : Option FieldType} {tb : List ExceptionTableEntry} {rm : Room} {lv r : List (Option Value)} {st : List Value} {g : et_G} {o : Option (α × et_G)} {k idx ci j : Nat} {ty : FieldType}
theorem zi_cpi {k0 k1 n0 n1 : Nat} {sp dp n : Int32} (hX : et_Gd X w b own nL ret tb rm) (hd : decode b pc = .ok (.invokestatic idx, 3)) (hl : Cond.methodLink own idx arraycopyName ∈ et_tb) (hk0 : et_lay[k0]? = some (.inl (.int, n0))) (hk1 : et_lay[k1]? = some (.inl (.int, n1))) (hr1 : Nat.ble 1 rm.frames = true) (hr2 : Nat.ble ((st.map fun v => v.category).sum + 18) rm.locals = true)
    (kk : et_Z X w u enc (pc + 3) lv st (et_cp g k0 k1 sp.toNatClampNeg dp.toNatClampNeg n.toNatClampNeg) o) : et_Z X w u enc pc lv (.int n :: .int dp :: .ref (et_ad w k1) :: .int sp :: .ref (et_ad w k0) :: st) g (et_ck (et_cc sp dp n n0 n1) o) := by
  refine zi_ck fun hc => ?_
  obtain ⟨p, l, e, R, s, m, args, below, meth, c⟩ := X
  intro a1 g1 ho H locs ls hP hS hlv
  obtain ⟨hx, hb, hml, hown, hts, hr, hlocks, hsane, hU, htb, hlt, rfl⟩ := hX
  obtain ⟨c1, c2, c3, c4, c5⟩ := of_decide_eq_true hc
  refine va_copyi (ty := .int) hx hb hlv.1.symm hown (hts _ hl) (hts _ tc_nat) (hts _ tc_sta) (hts _ tc_ini) (et_Kof hsane hU) hP (et_D hsane g) hS k0 k1 0 0 (et_at hk0) (et_at hk1) (et_t0 w) (et_t0 w) rfl c1 c2 c3 c4 c5 (fun i hi => rfl) (Nat.le_of_ble_eq_true hr1) (Nat.le_of_ble_eq_true hr2) hd (fun H1 locs1 hP1 _ hS1 => ?_)
  have he := et_set (w := w) (g := g) (g2 := et_cp g k0 k1 sp.toNatClampNeg dp.toNatClampNeg n.toNatClampNeg) hk1 et_ce_cp
  have h2 : et_ce w (et_cp g k0 k1 sp.toNatClampNeg dp.toNatClampNeg n.toNatClampNeg) k1 (.inl (.int, n1)) = .inl (et_ca w .int, n1, .inl (va_cpy (g.1 k0) (g.1 k1) sp.toNatClampNeg dp.toNatClampNeg n.toNatClampNeg)) := by simp [et_ce, et_cp]
  rw [h2] at he
  rw [he] at hP1
  exact kk a1 g1 ho H1 locs1 ls hP1 hS1 hlv
theorem zi_cpb {k0 k1 n0 n1 : Nat} {sp dp n : Int32} (hX : et_Gd X w b own nL ret tb rm) (hd : decode b pc = .ok (.invokestatic idx, 3)) (hl : Cond.methodLink own idx arraycopyName ∈ et_tb) (hk0 : et_lay[k0]? = some (.inl (.byte, n0))) (hk1 : et_lay[k1]? = some (.inl (.byte, n1))) (hr1 : Nat.ble 1 rm.frames = true) (hr2 : Nat.ble ((st.map fun v => v.category).sum + 18) rm.locals = true)
    (kk : et_Z X w u enc (pc + 3) lv st (et_cp g k0 k1 sp.toNatClampNeg dp.toNatClampNeg n.toNatClampNeg) o) : et_Z X w u enc pc lv (.int n :: .int dp :: .ref (et_ad w k1) :: .int sp :: .ref (et_ad w k0) :: st) g (et_ck (et_cf .byte g k0 sp n && et_cc sp dp n n0 n1) o) := by
  refine zi_ck fun hc0 => ?_
  obtain ⟨hf, hc⟩ := (Bool.and_eq_true _ _).mp hc0
  obtain ⟨p, l, e, R, s, m, args, below, meth, c⟩ := X
  intro a1 g1 ho H locs ls hP hS hlv
  obtain ⟨hx, hb, hml, hown, hts, hr, hlocks, hsane, hU, htb, hlt, rfl⟩ := hX
  obtain ⟨c1, c2, c3, c4, c5⟩ := of_decide_eq_true hc
  refine va_copyi (ty := .byte) hx hb hlv.1.symm hown (hts _ hl) (hts _ tc_nat) (hts _ tc_sta) (hts _ tc_ini) (et_Kof hsane hU) hP (et_D hsane g) hS k0 k1 1 1 (et_at hk0) (et_at hk1) (et_t1 w) (et_t1 w) rfl c1 c2 c3 c4 c5 (fun i hi => List.all_eq_true.mp hf i (List.mem_range.mpr hi)) (Nat.le_of_ble_eq_true hr1) (Nat.le_of_ble_eq_true hr2) hd (fun H1 locs1 hP1 _ hS1 => ?_)
  have he := et_set (w := w) (g := g) (g2 := et_cp g k0 k1 sp.toNatClampNeg dp.toNatClampNeg n.toNatClampNeg) hk1 et_ce_cp
  have h2 : et_ce w (et_cp g k0 k1 sp.toNatClampNeg dp.toNatClampNeg n.toNatClampNeg) k1 (.inl (.byte, n1)) = .inl (et_ca w .byte, n1, .inl (va_cpy (g.1 k0) (g.1 k1) sp.toNatClampNeg dp.toNatClampNeg n.toNatClampNeg)) := by simp [et_ce, et_cp]
  rw [h2] at he
  rw [he] at hP1
  exact kk a1 g1 ho H1 locs1 ls hP1 hS1 hlv
theorem zi_min {x y : Int32} (hX : et_Gd X w b own nL ret tb rm) (hd : decode b pc = .ok (.invokestatic idx, 3)) (hl : Cond.methodLink own idx Lib.Math.min.name ∈ et_tb) (hr1 : Nat.ble 1 rm.frames = true) (hr2 : Nat.ble ((st.map fun v => v.category).sum + 13) rm.locals = true) (hr3 : Nat.ble u rm.cells = true) (hr4 : Nat.ble (6 * u) rm.slots = true)
    (kk : et_Z X w u enc (pc + 3) lv (.int (if y < x then y else x) :: st) g o) : et_Z X w u enc pc lv (.int y :: .int x :: st) g o := by
  obtain ⟨p, l, e, R, s, m, args, below, meth, c⟩ := X
  intro a1 g1 ho H locs ls hP hS hlv
  obtain ⟨hx, hb, hml, hown, hts, hr, hlocks, hsane, hU, htb, hlt, rfl⟩ := hX
  exact va_mmin hx hb hlv.1.symm hown (hts _ hl) (hts _ tc_min.1) (hts _ tc_min.2.1) (hts _ tc_min.2.2) (Nat.le_of_ble_eq_true hr1) (Nat.le_of_ble_eq_true hr2) (Nat.le_of_ble_eq_true hr3) (Nat.le_of_ble_eq_true hr4) hd (kk a1 g1 ho H locs ls hP hS hlv)
end ZY
theorem th_0 : et_TH RX9 0 167 169 := ⟨et_mt 1009 (by decide +kernel) rfl, et_mt 135 (by decide +kernel) rfl, by decide +kernel, by decide +kernel, by decide +kernel, by decide +kernel⟩
theorem th_1 : et_TH RX9 1 125 127 := ⟨et_mt 711 (by decide +kernel) rfl, et_mt 126 (by decide +kernel) rfl, by decide +kernel, by decide +kernel, by decide +kernel, by decide +kernel⟩
end
section
/-! strings: the reader's constants, their length and letters -/
def et_SR (own : String) (i q : Nat) : Prop := own = "EndingTown$Reader" ∧ ∃ k, k < 13 ∧ i = et_six.getD k 0 ∧ q = 1000 + k
theorem sr_0 : et_SR RX4 90 1000 := ⟨rfl, 0, by decide, rfl, rfl⟩
theorem sr_1 : et_SR RX4 104 1001 := ⟨rfl, 1, by decide, rfl, rfl⟩
theorem sr_2 : et_SR RX4 109 1002 := ⟨rfl, 2, by decide, rfl, rfl⟩
theorem sr_3 : et_SR RX4 114 1003 := ⟨rfl, 3, by decide, rfl, rfl⟩
theorem sr_4 : et_SR RX4 119 1004 := ⟨rfl, 4, by decide, rfl, rfl⟩
theorem sr_5 : et_SR RX4 124 1005 := ⟨rfl, 5, by decide, rfl, rfl⟩
theorem sr_6 : et_SR RX4 129 1006 := ⟨rfl, 6, by decide, rfl, rfl⟩
theorem sr_7 : et_SR RX4 134 1007 := ⟨rfl, 7, by decide, rfl, rfl⟩
theorem sr_8 : et_SR RX4 139 1008 := ⟨rfl, 8, by decide, rfl, rfl⟩
theorem sr_9 : et_SR RX4 144 1009 := ⟨rfl, 9, by decide, rfl, rfl⟩
theorem sr_10 : et_SR RX4 148 1010 := ⟨rfl, 10, by decide, rfl, rfl⟩
theorem sr_11 : et_SR RX4 230 1011 := ⟨rfl, 11, by decide, rfl, rfl⟩
theorem sr_12 : et_SR RX4 234 1012 := ⟨rfl, 12, by decide, rfl, rfl⟩
theorem dJ0_length_8abf5_0 : decode cJ0_length_8abf5 0 = .ok (.aload_n 0, 1) := by decide +kernel
theorem dJ0_length_8abf5_1 : decode cJ0_length_8abf5 1 = .ok (.getfield 9, 3) := by decide +kernel
theorem dJ0_length_8abf5_4 : decode cJ0_length_8abf5 4 = .ok (.arraylength, 1) := by decide +kernel
theorem dJ0_length_8abf5_5 : decode cJ0_length_8abf5 5 = .ok (.aload_n 0, 1) := by decide +kernel
theorem dJ0_length_8abf5_6 : decode cJ0_length_8abf5 6 = .ok (.invokevirtual 335, 3) := by decide +kernel
theorem dJ0_length_8abf5_9 : decode cJ0_length_8abf5 9 = .ok (.ishr, 1) := by decide +kernel
theorem dJ0_length_8abf5_10 : decode cJ0_length_8abf5 10 = .ok (.ireturn, 1) := by decide +kernel
theorem dJ0_charAt_5068e_0 : decode cJ0_charAt_5068e 0 = .ok (.aload_n 0, 1) := by decide +kernel
theorem dJ0_charAt_5068e_1 : decode cJ0_charAt_5068e 1 = .ok (.invokevirtual 492, 3) := by decide +kernel
theorem dJ0_charAt_5068e_4 : decode cJ0_charAt_5068e 4 = .ok (.ifCond .eq 12, 3) := by decide +kernel
theorem dJ0_charAt_5068e_7 : decode cJ0_charAt_5068e 7 = .ok (.aload_n 0, 1) := by decide +kernel
theorem dJ0_charAt_5068e_8 : decode cJ0_charAt_5068e 8 = .ok (.getfield 9, 3) := by decide +kernel
theorem dJ0_charAt_5068e_11 : decode cJ0_charAt_5068e 11 = .ok (.iload_n 1, 1) := by decide +kernel
theorem dJ0_charAt_5068e_12 : decode cJ0_charAt_5068e 12 = .ok (.invokestatic 495, 3) := by decide +kernel
theorem dJ0_charAt_5068e_15 : decode cJ0_charAt_5068e 15 = .ok (.ireturn, 1) := by decide +kernel
theorem dJ0_charAt_5068e_16 : decode cJ0_charAt_5068e 16 = .ok (.aload_n 0, 1) := by decide +kernel
theorem dJ0_charAt_5068e_17 : decode cJ0_charAt_5068e 17 = .ok (.getfield 9, 3) := by decide +kernel
theorem dJ0_charAt_5068e_20 : decode cJ0_charAt_5068e 20 = .ok (.iload_n 1, 1) := by decide +kernel
theorem dJ0_charAt_5068e_21 : decode cJ0_charAt_5068e 21 = .ok (.invokestatic 498, 3) := by decide +kernel
theorem dJ0_charAt_5068e_24 : decode cJ0_charAt_5068e 24 = .ok (.ireturn, 1) := by decide +kernel
theorem dJ0_coder_7d493_0 : decode cJ0_coder_7d493 0 = .ok (.getstatic 38, 3) := by decide +kernel
theorem dJ0_coder_7d493_3 : decode cJ0_coder_7d493 3 = .ok (.ifCond .eq 10, 3) := by decide +kernel
theorem dJ0_coder_7d493_6 : decode cJ0_coder_7d493 6 = .ok (.aload_n 0, 1) := by decide +kernel
theorem dJ0_coder_7d493_7 : decode cJ0_coder_7d493 7 = .ok (.getfield 15, 3) := by decide +kernel
theorem dJ0_coder_7d493_10 : decode cJ0_coder_7d493 10 = .ok (.goto 4, 3) := by decide +kernel
theorem dJ0_coder_7d493_13 : decode cJ0_coder_7d493 13 = .ok (.iconst 1, 1) := by decide +kernel
theorem dJ0_coder_7d493_14 : decode cJ0_coder_7d493 14 = .ok (.ireturn, 1) := by decide +kernel
theorem dJ0_isLatin1_aae02_0 : decode cJ0_isLatin1_aae02 0 = .ok (.getstatic 38, 3) := by decide +kernel
theorem dJ0_isLatin1_aae02_3 : decode cJ0_isLatin1_aae02 3 = .ok (.ifCond .eq 14, 3) := by decide +kernel
theorem dJ0_isLatin1_aae02_6 : decode cJ0_isLatin1_aae02 6 = .ok (.aload_n 0, 1) := by decide +kernel
theorem dJ0_isLatin1_aae02_7 : decode cJ0_isLatin1_aae02 7 = .ok (.getfield 15, 3) := by decide +kernel
theorem dJ0_isLatin1_aae02_10 : decode cJ0_isLatin1_aae02 10 = .ok (.ifCond .ne 7, 3) := by decide +kernel
theorem dJ0_isLatin1_aae02_13 : decode cJ0_isLatin1_aae02 13 = .ok (.iconst 1, 1) := by decide +kernel
theorem dJ0_isLatin1_aae02_14 : decode cJ0_isLatin1_aae02 14 = .ok (.goto 4, 3) := by decide +kernel
theorem dJ0_isLatin1_aae02_17 : decode cJ0_isLatin1_aae02 17 = .ok (.iconst 0, 1) := by decide +kernel
theorem dJ0_isLatin1_aae02_18 : decode cJ0_isLatin1_aae02 18 = .ok (.ireturn, 1) := by decide +kernel
theorem dJ0_checkIndex_df160_0 : decode cJ0_checkIndex_df160 0 = .ok (.iload_n 0, 1) := by decide +kernel
theorem dJ0_checkIndex_df160_1 : decode cJ0_checkIndex_df160 1 = .ok (.iload_n 1, 1) := by decide +kernel
theorem dJ0_checkIndex_df160_2 : decode cJ0_checkIndex_df160 2 = .ok (.getstatic 1053, 3) := by decide +kernel
theorem dJ0_checkIndex_df160_5 : decode cJ0_checkIndex_df160 5 = .ok (.invokestatic 1059, 3) := by decide +kernel
theorem dJ0_checkIndex_df160_8 : decode cJ0_checkIndex_df160 8 = .ok (.pop, 1) := by decide +kernel
theorem dJ0_checkIndex_df160_9 : decode cJ0_checkIndex_df160 9 = .ok (.return_, 1) := by decide +kernel
theorem dJ1_charAt_3b067_0 : decode cJ1_charAt_3b067 0 = .ok (.iload_n 1, 1) := by decide +kernel
theorem dJ1_charAt_3b067_1 : decode cJ1_charAt_3b067 1 = .ok (.aload_n 0, 1) := by decide +kernel
theorem dJ1_charAt_3b067_2 : decode cJ1_charAt_3b067 2 = .ok (.arraylength, 1) := by decide +kernel
theorem dJ1_charAt_3b067_3 : decode cJ1_charAt_3b067 3 = .ok (.invokestatic 9, 3) := by decide +kernel
theorem dJ1_charAt_3b067_6 : decode cJ1_charAt_3b067 6 = .ok (.aload_n 0, 1) := by decide +kernel
theorem dJ1_charAt_3b067_7 : decode cJ1_charAt_3b067 7 = .ok (.iload_n 1, 1) := by decide +kernel
theorem dJ1_charAt_3b067_8 : decode cJ1_charAt_3b067 8 = .ok (.baload, 1) := by decide +kernel
theorem dJ1_charAt_3b067_9 : decode cJ1_charAt_3b067 9 = .ok (.sipush 255, 3) := by decide +kernel
theorem dJ1_charAt_3b067_12 : decode cJ1_charAt_3b067 12 = .ok (.iand, 1) := by decide +kernel
theorem dJ1_charAt_3b067_13 : decode cJ1_charAt_3b067 13 = .ok (.i2c, 1) := by decide +kernel
theorem dJ1_charAt_3b067_14 : decode cJ1_charAt_3b067 14 = .ok (.ireturn, 1) := by decide +kernel
theorem dJ3_checkIndex_8e157_0 : decode cJ3_checkIndex_8e157 0 = .ok (.iload_n 0, 1) := by decide +kernel
theorem dJ3_checkIndex_8e157_1 : decode cJ3_checkIndex_8e157 1 = .ok (.ifCond .lt 8, 3) := by decide +kernel
theorem dJ3_checkIndex_8e157_4 : decode cJ3_checkIndex_8e157 4 = .ok (.iload_n 0, 1) := by decide +kernel
theorem dJ3_checkIndex_8e157_5 : decode cJ3_checkIndex_8e157 5 = .ok (.iload_n 1, 1) := by decide +kernel
theorem dJ3_checkIndex_8e157_6 : decode cJ3_checkIndex_8e157 6 = .ok (.if_icmp .lt 10, 3) := by decide +kernel
theorem dJ3_checkIndex_8e157_9 : decode cJ3_checkIndex_8e157 9 = .ok (.aload_n 2, 1) := by decide +kernel
theorem dJ3_checkIndex_8e157_10 : decode cJ3_checkIndex_8e157 10 = .ok (.iload_n 0, 1) := by decide +kernel
theorem dJ3_checkIndex_8e157_11 : decode cJ3_checkIndex_8e157 11 = .ok (.iload_n 1, 1) := by decide +kernel
theorem dJ3_checkIndex_8e157_12 : decode cJ3_checkIndex_8e157 12 = .ok (.invokestatic 95, 3) := by decide +kernel
theorem dJ3_checkIndex_8e157_15 : decode cJ3_checkIndex_8e157 15 = .ok (.athrow, 1) := by decide +kernel
theorem dJ3_checkIndex_8e157_16 : decode cJ3_checkIndex_8e157 16 = .ok (.iload_n 0, 1) := by decide +kernel
theorem dJ3_checkIndex_8e157_17 : decode cJ3_checkIndex_8e157 17 = .ok (.ireturn, 1) := by decide +kernel
theorem dX4_is_0 : decode cX4_is 0 = .ok (.aload_n 0, 1) := by decide +kernel
theorem dX4_is_1 : decode cX4_is 1 = .ok (.getfield 49, 3) := by decide +kernel
theorem dX4_is_4 : decode cX4_is 4 = .ok (.iconst 1, 1) := by decide +kernel
theorem dX4_is_5 : decode cX4_is 5 = .ok (.if_icmp .ne 14, 3) := by decide +kernel
theorem dX4_is_8 : decode cX4_is 8 = .ok (.aload_n 0, 1) := by decide +kernel
theorem dX4_is_9 : decode cX4_is 9 = .ok (.getfield 78, 3) := by decide +kernel
theorem dX4_is_12 : decode cX4_is 12 = .ok (.aload_n 1, 1) := by decide +kernel
theorem dX4_is_13 : decode cX4_is 13 = .ok (.invokevirtual 81, 3) := by decide +kernel
theorem dX4_is_16 : decode cX4_is 16 = .ok (.if_icmp .eq 5, 3) := by decide +kernel
theorem dX4_is_19 : decode cX4_is 19 = .ok (.iconst 0, 1) := by decide +kernel
theorem dX4_is_20 : decode cX4_is 20 = .ok (.ireturn, 1) := by decide +kernel
theorem dX4_is_21 : decode cX4_is 21 = .ok (.iconst 0, 1) := by decide +kernel
theorem dX4_is_22 : decode cX4_is 22 = .ok (.istore_n 2, 1) := by decide +kernel
theorem dX4_is_23 : decode cX4_is 23 = .ok (.iload_n 2, 1) := by decide +kernel
theorem dX4_is_24 : decode cX4_is 24 = .ok (.aload_n 1, 1) := by decide +kernel
theorem dX4_is_25 : decode cX4_is 25 = .ok (.invokevirtual 81, 3) := by decide +kernel
theorem dX4_is_28 : decode cX4_is 28 = .ok (.if_icmp .ge 30, 3) := by decide +kernel
theorem dX4_is_31 : decode cX4_is 31 = .ok (.aload_n 0, 1) := by decide +kernel
theorem dX4_is_32 : decode cX4_is 32 = .ok (.getfield 15, 3) := by decide +kernel
theorem dX4_is_35 : decode cX4_is 35 = .ok (.aload_n 0, 1) := by decide +kernel
theorem dX4_is_36 : decode cX4_is 36 = .ok (.getfield 59, 3) := by decide +kernel
theorem dX4_is_39 : decode cX4_is 39 = .ok (.iload_n 2, 1) := by decide +kernel
theorem dX4_is_40 : decode cX4_is 40 = .ok (.iadd, 1) := by decide +kernel
theorem dX4_is_41 : decode cX4_is 41 = .ok (.baload, 1) := by decide +kernel
theorem dX4_is_42 : decode cX4_is 42 = .ok (.aload_n 1, 1) := by decide +kernel
theorem dX4_is_43 : decode cX4_is 43 = .ok (.iload_n 2, 1) := by decide +kernel
theorem dX4_is_44 : decode cX4_is 44 = .ok (.invokevirtual 86, 3) := by decide +kernel
theorem dX4_is_47 : decode cX4_is 47 = .ok (.if_icmp .eq 5, 3) := by decide +kernel
theorem dX4_is_50 : decode cX4_is 50 = .ok (.iconst 0, 1) := by decide +kernel
theorem dX4_is_51 : decode cX4_is 51 = .ok (.ireturn, 1) := by decide +kernel
theorem dX4_is_52 : decode cX4_is 52 = .ok (.iinc 2 1, 3) := by decide +kernel
theorem dX4_is_55 : decode cX4_is 55 = .ok (.goto (-32), 3) := by decide +kernel
theorem dX4_is_58 : decode cX4_is 58 = .ok (.iconst 1, 1) := by decide +kernel
theorem dX4_is_59 : decode cX4_is 59 = .ok (.ireturn, 1) := by decide +kernel
theorem tw_818 : Cond.methodLink RJ0 335 yJ0_coder_7d493 ∈ et_tb := et_mt 818 (by decide +kernel) rfl
theorem tw_828 : Cond.methodLink RJ0 492 yJ0_isLatin1_aae02 ∈ et_tb := et_mt 828 (by decide +kernel) rfl
theorem tw_832 : Cond.methodLink RJ0 495 yJ1_charAt_3b067 ∈ et_tb := et_mt 832 (by decide +kernel) rfl
theorem tw_835 : Cond.methodLink RJ1 9 yJ0_checkIndex_df160 ∈ et_tb := et_mt 835 (by decide +kernel) rfl
theorem tw_840 : Cond.methodLink RJ0 1059 yJ3_checkIndex_8e157 ∈ et_tb := et_mt 840 (by decide +kernel) rfl
theorem tw_822 : Cond.fieldLink RJ0 38 "java/lang/String" "COMPACT_STRINGS" "Z" ∈ et_tb := et_mt 822 (by decide +kernel) rfl
theorem tw_838 : Cond.fieldLink RJ0 1053 "jdk/internal/util/Preconditions" "SIOOBE_FORMATTER" "Ljava/util/function/BiFunction;" ∈ et_tb := et_mt 838 (by decide +kernel) rfl
theorem tw_1923 : Cond.fieldLink RJ0 9 "java/lang/String" "value" "[B" ∈ et_tb := et_mt 1923 (by decide +kernel) rfl
theorem tw_1924 : Cond.fieldLink RJ0 15 "java/lang/String" "coder" "B" ∈ et_tb := et_mt 1924 (by decide +kernel) rfl
theorem tw_814 : Cond.methodLink RX4 81 yJ0_length_8abf5 ∈ et_tb := et_mt 814 (by decide +kernel) rfl
theorem tw_824 : Cond.methodLink RX4 86 yJ0_charAt_5068e ∈ et_tb := et_mt 824 (by decide +kernel) rfl
theorem mw_J0_length_8abf5 : et_MD yJ0_length_8abf5 cJ0_length_8abf5 1 (some .int) 0 := ⟨et_mt 817 (by decide +kernel) rfl, et_mt 129 (by decide +kernel) rfl, ⟨by decide, by decide⟩, fun sig h => by have h2 : (parseMethodDescriptor (yJ0_length_8abf5).desc).map (fun d => d.parameters.length) = some 0 := (by decide +kernel); rw [h] at h2; exact (Option.some.inj h2).symm⟩
theorem iw_J0_length_8abf5 : Cond.instanceMethod yJ0_length_8abf5 ∈ et_tb ∧ Cond.selects RJ0 yJ0_length_8abf5 yJ0_length_8abf5 ∈ et_tb := ⟨et_mt 815 (by decide +kernel) rfl, et_mt 816 (by decide +kernel) rfl⟩
theorem mw_J0_charAt_5068e : et_MD yJ0_charAt_5068e cJ0_charAt_5068e 2 (some .char) 1 := ⟨et_mt 827 (by decide +kernel) rfl, et_mt 129 (by decide +kernel) rfl, ⟨by decide, by decide⟩, fun sig h => by have h2 : (parseMethodDescriptor (yJ0_charAt_5068e).desc).map (fun d => d.parameters.length) = some 1 := (by decide +kernel); rw [h] at h2; exact (Option.some.inj h2).symm⟩
theorem iw_J0_charAt_5068e : Cond.instanceMethod yJ0_charAt_5068e ∈ et_tb ∧ Cond.selects RJ0 yJ0_charAt_5068e yJ0_charAt_5068e ∈ et_tb := ⟨et_mt 825 (by decide +kernel) rfl, et_mt 826 (by decide +kernel) rfl⟩
theorem mw_J0_coder_7d493 : et_MD yJ0_coder_7d493 cJ0_coder_7d493 1 (some .byte) 0 := ⟨et_mt 821 (by decide +kernel) rfl, et_mt 129 (by decide +kernel) rfl, ⟨by decide, by decide⟩, fun sig h => by have h2 : (parseMethodDescriptor (yJ0_coder_7d493).desc).map (fun d => d.parameters.length) = some 0 := (by decide +kernel); rw [h] at h2; exact (Option.some.inj h2).symm⟩
theorem iw_J0_coder_7d493 : Cond.instanceMethod yJ0_coder_7d493 ∈ et_tb ∧ Cond.selects RJ0 yJ0_coder_7d493 yJ0_coder_7d493 ∈ et_tb := ⟨et_mt 819 (by decide +kernel) rfl, et_mt 820 (by decide +kernel) rfl⟩
theorem mw_J0_isLatin1_aae02 : et_MD yJ0_isLatin1_aae02 cJ0_isLatin1_aae02 1 (some .boolean) 0 := ⟨et_mt 831 (by decide +kernel) rfl, et_mt 129 (by decide +kernel) rfl, ⟨by decide, by decide⟩, fun sig h => by have h2 : (parseMethodDescriptor (yJ0_isLatin1_aae02).desc).map (fun d => d.parameters.length) = some 0 := (by decide +kernel); rw [h] at h2; exact (Option.some.inj h2).symm⟩
theorem iw_J0_isLatin1_aae02 : Cond.instanceMethod yJ0_isLatin1_aae02 ∈ et_tb ∧ Cond.selects RJ0 yJ0_isLatin1_aae02 yJ0_isLatin1_aae02 ∈ et_tb := ⟨et_mt 829 (by decide +kernel) rfl, et_mt 830 (by decide +kernel) rfl⟩
theorem mw_J0_checkIndex_df160 : et_MD yJ0_checkIndex_df160 cJ0_checkIndex_df160 2 (none) 2 := ⟨et_mt 837 (by decide +kernel) rfl, et_mt 129 (by decide +kernel) rfl, ⟨by decide, by decide⟩, fun sig h => by have h2 : (parseMethodDescriptor (yJ0_checkIndex_df160).desc).map (fun d => d.parameters.length) = some 2 := (by decide +kernel); rw [h] at h2; exact (Option.some.inj h2).symm⟩
theorem sw_J0_checkIndex_df160 : Cond.static yJ0_checkIndex_df160 ∈ et_tb := et_mt 836 (by decide +kernel) rfl
theorem mw_J1_charAt_3b067 : et_MD yJ1_charAt_3b067 cJ1_charAt_3b067 2 (some .char) 2 := ⟨et_mt 834 (by decide +kernel) rfl, et_mt 130 (by decide +kernel) rfl, ⟨by decide, by decide⟩, fun sig h => by have h2 : (parseMethodDescriptor (yJ1_charAt_3b067).desc).map (fun d => d.parameters.length) = some 2 := (by decide +kernel); rw [h] at h2; exact (Option.some.inj h2).symm⟩
theorem sw_J1_charAt_3b067 : Cond.static yJ1_charAt_3b067 ∈ et_tb := et_mt 833 (by decide +kernel) rfl
theorem mw_J3_checkIndex_8e157 : et_MD yJ3_checkIndex_8e157 cJ3_checkIndex_8e157 3 (some .int) 3 := ⟨et_mt 842 (by decide +kernel) rfl, et_mt 131 (by decide +kernel) rfl, ⟨by decide, by decide⟩, fun sig h => by have h2 : (parseMethodDescriptor (yJ3_checkIndex_8e157).desc).map (fun d => d.parameters.length) = some 3 := (by decide +kernel); rw [h] at h2; exact (Option.some.inj h2).symm⟩
theorem sw_J3_checkIndex_8e157 : Cond.static yJ3_checkIndex_8e157 ∈ et_tb := et_mt 841 (by decide +kernel) rfl
theorem et_uw {ws : List Cond} (ps : List Nat) (h : ws = ps.filterMap (fun i => lw_tbl[i]?)) (hg : ws.all et_gw = true) : ∀ q ∈ ws, q ∈ et_tb := by
  intro q hq
  have h1 := List.all_eq_true.mp hg q hq
  rw [h] at hq
  obtain ⟨i, -, hi⟩ := List.mem_filterMap.mp hq
  exact et_mt i hi h1
theorem is_w4 : ∀ q ∈ u_ws RX4 TX4 11, q ∈ et_tb := et_uw [279, 281, 283, 285, 287, 289, 291, 293, 295, 297, 299] (by decide +kernel) (by decide +kernel)
theorem fs_49 : et_FL RX4 49 4 3 (.int) false := ⟨RX4, TX4, 11, tyX4, rfl, by decide, is_w4, et_mt 270 (by decide +kernel) rfl, tyX4_ok, nmX4, rfl, rfl⟩
theorem fs_78 : et_FL RX4 78 4 5 (.int) false := ⟨RX4, TX4, 11, tyX4, rfl, by decide, is_w4, et_mt 272 (by decide +kernel) rfl, tyX4_ok, nmX4, rfl, rfl⟩
theorem fs_59 : et_FL RX4 59 4 4 (.int) false := ⟨RX4, TX4, 11, tyX4, rfl, by decide, is_w4, et_mt 271 (by decide +kernel) rfl, tyX4_ok, nmX4, rfl, rfl⟩
theorem fs_15 : et_FL RX4 15 4 0 (.array .byte) true := ⟨RX4, TX4, 11, tyX4, rfl, by decide, is_w4, et_mt 267 (by decide +kernel) rfl, tyX4_ok, nmX4, rfl, rfl⟩
section ZS
variable {α β : Type} {X : et_X} {w : et_W} {u pc nL : Nat} {enc : α → et_O} {b : ByteArray} {own : String} {ret : Option FieldType} {tb : List ExceptionTableEntry} {rm : Room} {lv r : List (Option Value)} {st : List Value} {g : et_G} {o : Option (α × et_G)} {idx n i : Nat}
theorem et_Sane.strs (h : et_Sane w) : et_Strs w := h.2.2.2.2.2.2
theorem et_vkS {s : State} (h : et_Sane w) (hU : et_U w s) : vk_S 13 et_sln et_sby (fun i => et_ad w (1000 + i)) (fun i => et_ad w (2000 + i)) (et_A w) s s.heap := (h.strs.1.kept (fun a h1 _ => hU.2.2 a h1)).moved hU.1.alike
theorem zi_ldcs {i q : Nat} (hX : et_Gd X w b own nL ret tb rm) (hd : decode b pc = .ok (.ldc i, 2)) (hs : et_SR own i q) (kk : et_Z X w u enc (pc + 2) lv (.ref (et_ad w q) :: st) g o) : et_Z X w u enc pc lv st g o := by
  obtain ⟨p, l, e, R, s, m, args, below, meth, c⟩ := X
  intro a1 g1 ho H locs ls hP hS hlv
  obtain ⟨hx, hb, hml, hown, hts, hr, hlocks, hsane, hU, htb, hlt, rfl⟩ := hX
  obtain ⟨rfl, k, hk, rfl, rfl⟩ := hs
  exact va_ldcS hx hb hown (vk_R.warm hU.1 (hsane.strs.2.1 k hk)) hd (kk a1 g1 ho H locs ls hP hS hlv)
theorem zi_gcs (hX : et_Gd X w b own nL ret tb rm) (hd : decode b pc = .ok (.getstatic idx, 3)) (hl : Cond.fieldLink own idx "java/lang/String" "COMPACT_STRINGS" "Z" ∈ et_tb) (kk : et_Z X w u enc (pc + 3) lv (.int 1 :: st) g o) : et_Z X w u enc pc lv st g o := by
  obtain ⟨p, l, e, R, s, m, args, below, meth, c⟩ := X
  intro a1 g1 ho H locs ls hP hS hlv
  obtain ⟨hx, hb, hml, hown, hts, hr, hlocks, hsane, hU, htb, hlt, rfl⟩ := hX
  exact va_gets hx hb ((hsane.strs.2.2.1.kept (fun a h1 _ => hU.2.2 a h1)).moved hU.1.alike) hS hown (hts _ hl) (fun _ h => h) hd (kk a1 g1 ho H locs ls hP hS hlv)
theorem zi_gsf (hX : et_Gd X w b own nL ret tb rm) (hd : decode b pc = .ok (.getstatic idx, 3)) (hl : Cond.fieldLink own idx "jdk/internal/util/Preconditions" "SIOOBE_FORMATTER" "Ljava/util/function/BiFunction;" ∈ et_tb) (kk : ∀ v : Value, v.category = 1 → et_Z X w u enc (pc + 3) lv (v :: st) g o) : et_Z X w u enc pc lv st g o := by
  obtain ⟨p, l, e, R, s, m, args, below, meth, c⟩ := X
  intro a1 g1 ho H locs ls hP hS hlv
  obtain ⟨hx, hb, hml, hown, hts, hr, hlocks, hsane, hU, htb, hlt, rfl⟩ := hX
  rcases ((hsane.strs.2.2.2.1.kept (fun a h1 _ => hU.2.2 a h1)).moved hU.1.alike : va_Zq _ _ _ (et_A w) s s.heap) with hz | ⟨t, hz⟩
  · exact va_gets hx hb hz hS hown (hts _ hl) (fun _ h => h) hd (kk .null rfl a1 g1 ho H locs ls hP hS hlv)
  · exact va_gets hx hb hz hS hown (hts _ hl) (fun _ h => h) hd (kk (.ref t) rfl a1 g1 ho H locs ls hP hS hlv)
theorem zi_sgc (hi : i < 13) (hX : et_Gd X w b own nL ret tb rm) (hd : decode b pc = .ok (.getfield idx, 3)) (hl : Cond.fieldLink own idx "java/lang/String" "coder" "B" ∈ et_tb) (kk : et_Z X w u enc (pc + 3) lv (.int 0 :: st) g o) : et_Z X w u enc pc lv (.ref (et_ad w (1000 + i)) :: st) g o := by
  obtain ⟨p, l, e, R, s, m, args, below, meth, c⟩ := X
  intro a1 g1 ho H locs ls hP hS hlv
  obtain ⟨hx, hb, hml, hown, hts, hr, hlocks, hsane, hU, htb, hlt, rfl⟩ := hX
  exact vk_getf hx hb ((et_vkS hsane hU).1 i hi).2.1 hS hown (hts _ hl) (fun _ h => h) hd (kk a1 g1 ho H locs ls hP hS hlv)
theorem zi_sgv (hi : i < 13) (hX : et_Gd X w b own nL ret tb rm) (hd : decode b pc = .ok (.getfield idx, 3)) (hl : Cond.fieldLink own idx "java/lang/String" "value" "[B" ∈ et_tb) (kk : et_Z X w u enc (pc + 3) lv (.ref (et_ad w (2000 + i)) :: st) g o) : et_Z X w u enc pc lv (.ref (et_ad w (1000 + i)) :: st) g o := by
  obtain ⟨p, l, e, R, s, m, args, below, meth, c⟩ := X
  intro a1 g1 ho H locs ls hP hS hlv
  obtain ⟨hx, hb, hml, hown, hts, hr, hlocks, hsane, hU, htb, hlt, rfl⟩ := hX
  exact vk_getf hx hb ((et_vkS hsane hU).1 i hi).2.2.1 hS hown (hts _ hl) (fun _ h => h) hd (kk a1 g1 ho H locs ls hP hS hlv)
theorem zi_sln (hi : i < 13) (hX : et_Gd X w b own nL ret tb rm) (hd : decode b pc = .ok (.arraylength, 1)) (kk : et_Z X w u enc (pc + 1) lv (.int (Int32.ofNat (et_sln.getD i 0)) :: st) g o) : et_Z X w u enc pc lv (.ref (et_ad w (2000 + i)) :: st) g o := by
  obtain ⟨p, l, e, R, s, m, args, below, meth, c⟩ := X
  intro a1 g1 ho H locs ls hP hS hlv
  obtain ⟨hx, hb, hml, hown, hts, hr, hlocks, hsane, hU, htb, hlt, rfl⟩ := hX
  exact va_tlen hx hb ((et_vkS hsane hU).1 i hi).2.2.2 hS rfl hd (kk a1 g1 ho H locs ls hP hS hlv)
theorem zi_sba (hi : i < 13) {j : Int32} (hX : et_Gd X w b own nL ret tb rm) (hd : decode b pc = .ok (.baload, 1)) (kk : et_Z X w u enc (pc + 1) lv (.int ((et_sby.getD i []).getD j.toNatClampNeg 0) :: st) g o) : et_Z X w u enc pc lv (.int j :: .ref (et_ad w (2000 + i)) :: st) g (et_ck (et_ib j (et_sln.getD i 0)) o) := by
  refine zi_ck fun hin => ?_
  obtain ⟨p, l, e, R, s, m, args, below, meth, c⟩ := X
  intro a1 g1 ho H locs ls hP hS hlv
  obtain ⟨hx, hb, hml, hown, hts, hr, hlocks, hsane, hU, htb, hlt, rfl⟩ := hX
  exact va_tb hx hb ((et_vkS hsane hU).1 i hi).2.2.2 hS (et_ib_in hin) rfl hd (kk a1 g1 ho H locs ls hP hS hlv)
theorem zi_if_eqF {x : Int32} {off : Int} (tgt : Nat) (hX : et_Gd X w b own nL ret tb rm) (hd : decode b pc = .ok (.ifCond .eq off, 3)) (ht : (pc : Int) + off = (tgt : Int)) (h : ¬ x = 0) (kf : et_Z X w u enc (pc + 3) lv st g o) : et_Z X w u enc pc lv (.int x :: st) g o := by
  obtain ⟨p, l, e, R, s, m, args, below, meth, c⟩ := X
  intro a1 g1 ho H locs ls hP hS hlv
  exact lv_if_eq hX.1 hX.2.1 hd ht (fun h2 => absurd h2 h) (fun _ => kf a1 g1 ho H locs ls hP hS hlv)
theorem zi_if_neF {x : Int32} {off : Int} (tgt : Nat) (hX : et_Gd X w b own nL ret tb rm) (hd : decode b pc = .ok (.ifCond .ne off, 3)) (ht : (pc : Int) + off = (tgt : Int)) (h : x = 0) (kf : et_Z X w u enc (pc + 3) lv st g o) : et_Z X w u enc pc lv (.int x :: st) g o := by
  obtain ⟨p, l, e, R, s, m, args, below, meth, c⟩ := X
  intro a1 g1 ho H locs ls hP hS hlv
  exact lv_if_ne hX.1 hX.2.1 hd ht (fun h2 => absurd h h2) (fun _ => kf a1 g1 ho H locs ls hP hS hlv)
theorem zi_if_ltF {x : Int32} {off : Int} (tgt : Nat) (hX : et_Gd X w b own nL ret tb rm) (hd : decode b pc = .ok (.ifCond .lt off, 3)) (ht : (pc : Int) + off = (tgt : Int)) (h : ¬ x < 0) (kf : et_Z X w u enc (pc + 3) lv st g o) : et_Z X w u enc pc lv (.int x :: st) g o := by
  obtain ⟨p, l, e, R, s, m, args, below, meth, c⟩ := X
  intro a1 g1 ho H locs ls hP hS hlv
  exact lv_if_lt hX.1 hX.2.1 hd ht (fun h2 => absurd h2 h) (fun _ => kf a1 g1 ho H locs ls hP hS hlv)
theorem zi_icmp_ltT {x y : Int32} {off : Int} (tgt : Nat) (hX : et_Gd X w b own nL ret tb rm) (hd : decode b pc = .ok (.if_icmp .lt off, 3)) (ht : (pc : Int) + off = (tgt : Int)) (h : x < y) (kt : et_Z X w u enc tgt lv st g o) : et_Z X w u enc pc lv (.int y :: .int x :: st) g o := by
  obtain ⟨p, l, e, R, s, m, args, below, meth, c⟩ := X
  intro a1 g1 ho H locs ls hP hS hlv
  exact lv_icmp_lt hX.1 hX.2.1 hd ht (fun _ => kt a1 g1 ho H locs ls hP hS hlv) (fun h2 => absurd h h2)
theorem zc_vstr (hi : i < 13) {encC : β → et_O} {y : MethodName} {b1 : ByteArray} {nL1 : Nat} {ret1 : Option FieldType} {rm1 : Room} {As : List Value} {F : Option (β × et_G)} (hX : et_Gd X w b own nL ret tb rm) (hd : decode b pc = .ok (.invokevirtual idx, 3)) (hl : Cond.methodLink own idx y ∈ et_tb) (hm : et_MD y b1 nL1 ret1 n) (hq : Cond.instanceMethod y ∈ et_tb ∧ Cond.selects "java/lang/String" y y ∈ et_tb)
    (hC : et_C w y (Cond.code y b1 nL1 ret1) rm1 encC (.ref (et_ad w (1000 + i)) :: As) g F) (hn : As.length = n) (hst : Nat.ble ((st.map fun v => v.category).sum) 8 = true) (hrs : et_rs rm rm1 nL1 u = true) : et_Call X w u pc rm1.cells lv (As.reverse ++ .ref (et_ad w (1000 + i)) :: st) st g encC F := by
  obtain ⟨p, l, e, R, s, m, args, below, meth, c⟩ := X
  intro x g1 hF H locs ls hP hS hlv
  obtain ⟨hx, hb, hml, hown, hts, hr, hlocks, hsane, hU, htb, hlt, rfl⟩ := hX
  obtain ⟨r1, r2, r3, r4⟩ := et_rs_ok hrs
  have hpre := et_pre (w := w) (g := g) (avs := .ref (et_ad w (1000 + i)) :: As) hU hS hP
  have hM := hC l hlt x g1 hF
  rw [r4] at hM
  exact ⟨_, vx_runV (C := "java/lang/String") (n := n) (nL := c.maxLocals) (Ts := et_tb) ⟨hx, hb, rfl, hown, hts⟩ hM ⟨et_cb hts hm hl r1 r4, hts _ hq.1, hts _ hq.2⟩ ⟨hpre.1, vk_recv (et_vkS hsane hU) hi hS, hpre.2⟩ rfl hn hlv.1 rfl (by simpa using Nat.le_of_ble_eq_true hst) hd ⟨r2, r3⟩⟩
/-- a call whose answer is known -/
theorem zi_callK {v : Int32} {mc : Nat} {st0 : List Value} (hc : et_Call X w u pc mc lv st0 st g et_eI (some (v, g))) (kk : et_Z X w (u + mc) enc (pc + 3) lv (.int v :: st) g o) : et_Z X w u enc pc lv st0 g o := by
  obtain ⟨p, l, e, R, s, m, args, below, meth, c⟩ := X
  intro a1 g2 ho H locs ls hP hS hlv
  obtain ⟨a, hr⟩ := hc v g rfl H locs ls hP hS hlv
  exact et_callE hr hS (fun v hv H1 locs1 hP1 hS1 => by cases hv; exact kk a1 g2 ho H1 locs1 ls hP1 hS1 hlv) (fun k hk => by cases hk)
end ZS
end
section
/-! String's own methods on the reader's constants, and 'is' -/
def rm_J0 : Room := { frames := 0, cells := 0, slots := 0, locals := 0 }
def rm_J1 : Room := { frames := 1, cells := 0, slots := 0, locals := 20 }
def rm_J2 : Room := { frames := 1, cells := 0, slots := 0, locals := 22 }
def rm_J3 : Room := { frames := 2, cells := 0, slots := 0, locals := 43 }
def rm_J4 : Room := { frames := 3, cells := 0, slots := 0, locals := 64 }
section STY
variable {w : et_W} {i : Nat}
theorem ct_Js_coder (hi : i < 13) (hw : et_Sane w) (g : et_G) : et_C w yJ0_coder_7d493 (Cond.code yJ0_coder_7d493 cJ0_coder_7d493 1 (some .byte)) rm_J0 et_eI [.ref (et_ad w (1000 + i))] g (some (0, g)) := et_mk (lv0 := [some (.ref (et_ad w (1000 + i)))]) hw (by decide) rfl rfl (fun X hX => by
  refine zi_gcs (pc := 0) hX dJ0_coder_7d493_0 tw_822 ?_
  refine zi_if_eqF (pc := 3) 13 hX dJ0_coder_7d493_3 (by decide) (by decide) ?_
  refine zi_aload0 (pc := 6) hX dJ0_coder_7d493_6 ?_
  refine zi_sgc hi (pc := 7) hX dJ0_coder_7d493_7 tw_1924 ?_
  refine zi_goto (pc := 10) 14 hX dJ0_coder_7d493_10 (by decide) ?_
  exact zi_ret (pc := 14) hX dJ0_coder_7d493_14 (by decide) rfl rfl rfl)
theorem ct_Js_isLatin1 (hi : i < 13) (hw : et_Sane w) (g : et_G) : et_C w yJ0_isLatin1_aae02 (Cond.code yJ0_isLatin1_aae02 cJ0_isLatin1_aae02 1 (some .boolean)) rm_J0 et_eI [.ref (et_ad w (1000 + i))] g (some (1, g)) := et_mk (lv0 := [some (.ref (et_ad w (1000 + i)))]) hw (by decide) rfl rfl (fun X hX => by
  refine zi_gcs (pc := 0) hX dJ0_isLatin1_aae02_0 tw_822 ?_
  refine zi_if_eqF (pc := 3) 17 hX dJ0_isLatin1_aae02_3 (by decide) (by decide) ?_
  refine zi_aload0 (pc := 6) hX dJ0_isLatin1_aae02_6 ?_
  refine zi_sgc hi (pc := 7) hX dJ0_isLatin1_aae02_7 tw_1924 ?_
  refine zi_if_neF (pc := 10) 17 hX dJ0_isLatin1_aae02_10 (by decide) rfl ?_
  refine zi_iconst (pc := 13) (v := 1) hX dJ0_isLatin1_aae02_13 (by decide) ?_
  refine zi_goto (pc := 14) 18 hX dJ0_isLatin1_aae02_14 (by decide) ?_
  exact zi_ret (pc := 18) hX dJ0_isLatin1_aae02_18 et_z1 rfl rfl rfl)
def et_len (i : Nat) : Int32 := Int32.ofNat (et_sln.getD i 0) >>> ((0 : Int32) &&& 31)
theorem ct_Js_length (hi : i < 13) (hw : et_Sane w) (g : et_G) : et_C w yJ0_length_8abf5 (Cond.code yJ0_length_8abf5 cJ0_length_8abf5 1 (some .int)) rm_J1 et_eI [.ref (et_ad w (1000 + i))] g (some (et_len i, g)) := et_mk (lv0 := [some (.ref (et_ad w (1000 + i)))]) hw (by decide) rfl rfl (fun X hX => by
  refine zi_aload0 (pc := 0) hX dJ0_length_8abf5_0 ?_
  refine zi_sgv hi (pc := 1) hX dJ0_length_8abf5_1 tw_1923 ?_
  refine zi_sln hi (pc := 4) hX dJ0_length_8abf5_4 ?_
  refine zi_aload0 (pc := 5) hX dJ0_length_8abf5_5 ?_
  refine zi_callK (zc_vstr (As := []) hi (pc := 6) hX dJ0_length_8abf5_6 tw_818 mw_J0_coder_7d493 iw_J0_coder_7d493 (ct_Js_coder hi hw g) rfl rfl rfl) ?_
  refine zi_ishr (pc := 9) hX dJ0_length_8abf5_9 ?_
  exact zi_ret (pc := 10) hX dJ0_length_8abf5_10 rfl rfl rfl rfl)
def et_ix (p n : Int32) : Bool := decide (¬ p < 0 ∧ p < n)
theorem ct_Jp_checkIndex (hw : et_Sane w) (p0 p1 : Int32) (v : Value) (hv : v.category = 1) (g : et_G) : et_C w yJ3_checkIndex_8e157 (Cond.code yJ3_checkIndex_8e157 cJ3_checkIndex_8e157 3 (some .int)) rm_J0 et_eI [.int p0, .int p1, v] g (et_ck (et_ix p0 p1) (some (p0, g))) := et_mk (lv0 := [some (.int p0), some (.int p1), some v]) hw (by decide) (by cases v <;> first | rfl | cases hv) rfl (fun X hX => by
  refine zi_ck fun hc => ?_
  obtain ⟨h1, h2⟩ := of_decide_eq_true hc
  refine zi_iload0 (pc := 0) hX dJ3_checkIndex_8e157_0 ?_
  refine zi_if_ltF (pc := 1) 9 hX dJ3_checkIndex_8e157_1 (by decide) h1 ?_
  refine zi_iload0 (pc := 4) hX dJ3_checkIndex_8e157_4 ?_
  refine zi_iload1 (pc := 5) hX dJ3_checkIndex_8e157_5 ?_
  refine zi_icmp_ltT (pc := 6) 16 hX dJ3_checkIndex_8e157_6 (by decide) h2 ?_
  refine zi_iload0 (pc := 16) hX dJ3_checkIndex_8e157_16 ?_
  exact zi_ret (pc := 17) hX dJ3_checkIndex_8e157_17 rfl rfl rfl rfl)
theorem ct_Js_checkIndex (hw : et_Sane w) (p0 p1 : Int32) (g : et_G) : et_C w yJ0_checkIndex_df160 (Cond.code yJ0_checkIndex_df160 cJ0_checkIndex_df160 2 (none)) rm_J2 et_eU [.int p0, .int p1] g (et_bd (et_ck (et_ix p0 p1) (some (p0, g))) (fun _ g => some ((), g))) := et_mk (lv0 := [some (.int p0), some (.int p1)]) hw (by decide) rfl rfl (fun X hX => by
  refine zi_iload0 (pc := 0) hX dJ0_checkIndex_df160_0 ?_
  refine zi_iload1 (pc := 1) hX dJ0_checkIndex_df160_1 ?_
  refine zi_gsf (pc := 2) hX dJ0_checkIndex_df160_2 tw_838 (fun v hv => ?_)
  refine zi_callI (zc_stat (As := [.int p0, .int p1, v]) (pc := 5) hX dJ0_checkIndex_df160_5 tw_840 mw_J3_checkIndex_8e157 sw_J3_checkIndex_8e157 (ct_Jp_checkIndex hw p0 p1 v hv g) rfl rfl rfl) (fun x g1 => ?_)
  refine zi_pop (pc := 8) hX dJ0_checkIndex_df160_8 rfl ?_
  exact zi_vret (pc := 9) hX dJ0_checkIndex_df160_9 rfl rfl rfl)
def et_ch1 (i : Nat) (p : Int32) : Int32 := ((((et_sby.getD i []).getD p.toNatClampNeg 0 &&& (255 : Int32)).toUInt32 % 65536).toInt32)
def et_nc (x : Int32) : Int32 := x.toUInt32.toUInt16.toUInt32.toInt32
def fn_Jl_charAt (i : Nat) (p : Int32) (g : et_G) : Option (Int32 × et_G) := et_bd (et_bd (et_ck (et_ix p (Int32.ofNat (et_sln.getD i 0))) (some (p, g))) (fun _ g => some ((), g))) (fun _ g1 => et_ck (et_ib p (et_sln.getD i 0)) (some (et_nc (et_ch1 i p), g1)))
theorem ct_Jl_charAt (hi : i < 13) (hw : et_Sane w) (p : Int32) (g : et_G) : et_C w yJ1_charAt_3b067 (Cond.code yJ1_charAt_3b067 cJ1_charAt_3b067 2 (some .char)) rm_J3 et_eI [.ref (et_ad w (2000 + i)), .int p] g (fn_Jl_charAt i p g) := et_mk (lv0 := [some (.ref (et_ad w (2000 + i))), some (.int p)]) hw (by decide) rfl rfl (fun X hX => by
  unfold fn_Jl_charAt
  refine zi_iload1 (pc := 0) hX dJ1_charAt_3b067_0 ?_
  refine zi_aload0 (pc := 1) hX dJ1_charAt_3b067_1 ?_
  refine zi_sln hi (pc := 2) hX dJ1_charAt_3b067_2 ?_
  refine zi_callU (zc_stat (As := [.int p, .int (Int32.ofNat (et_sln.getD i 0))]) (pc := 3) hX dJ1_charAt_3b067_3 tw_835 mw_J0_checkIndex_df160 sw_J0_checkIndex_df160 (ct_Js_checkIndex hw p (Int32.ofNat (et_sln.getD i 0)) g) rfl rfl rfl) (fun g1 => ?_)
  refine zi_aload0 (pc := 6) hX dJ1_charAt_3b067_6 ?_
  refine zi_iload1 (pc := 7) hX dJ1_charAt_3b067_7 ?_
  refine zi_sba hi (pc := 8) hX dJ1_charAt_3b067_8 ?_
  refine zi_sipush (pc := 9) (v := 255) hX dJ1_charAt_3b067_9 (by decide) ?_
  refine zi_iand (pc := 12) hX dJ1_charAt_3b067_12 ?_
  refine zi_i2c (pc := 13) hX dJ1_charAt_3b067_13 ?_
  exact zi_ret (pc := 14) hX dJ1_charAt_3b067_14 rfl rfl rfl rfl)
def fn_Js_charAt (i : Nat) (p : Int32) (g : et_G) : Option (Int32 × et_G) := et_bd (fn_Jl_charAt i p g) (fun x g1 => some (et_nc x, g1))
theorem ct_Js_charAt (hi : i < 13) (hw : et_Sane w) (p : Int32) (g : et_G) : et_C w yJ0_charAt_5068e (Cond.code yJ0_charAt_5068e cJ0_charAt_5068e 2 (some .char)) rm_J4 et_eI [.ref (et_ad w (1000 + i)), .int p] g (fn_Js_charAt i p g) := et_mk (lv0 := [some (.ref (et_ad w (1000 + i))), some (.int p)]) hw (by decide) rfl rfl (fun X hX => by
  unfold fn_Js_charAt
  refine zi_aload0 (pc := 0) hX dJ0_charAt_5068e_0 ?_
  refine zi_callK (zc_vstr (As := []) hi (pc := 1) hX dJ0_charAt_5068e_1 tw_828 mw_J0_isLatin1_aae02 iw_J0_isLatin1_aae02 (ct_Js_isLatin1 hi hw g) rfl rfl rfl) ?_
  refine zi_if_eqF (pc := 4) 16 hX dJ0_charAt_5068e_4 (by decide) (by decide) ?_
  refine zi_aload0 (pc := 7) hX dJ0_charAt_5068e_7 ?_
  refine zi_sgv hi (pc := 8) hX dJ0_charAt_5068e_8 tw_1923 ?_
  refine zi_iload1 (pc := 11) hX dJ0_charAt_5068e_11 ?_
  refine zi_callI (zc_stat (As := [.ref (et_ad w (2000 + i)), .int p]) (pc := 12) hX dJ0_charAt_5068e_12 tw_832 mw_J1_charAt_3b067 sw_J1_charAt_3b067 (ct_Jl_charAt hi hw p g) rfl rfl rfl) (fun x g1 => ?_)
  exact zi_ret (pc := 15) hX dJ0_charAt_5068e_15 rfl rfl rfl rfl)
def rm_is : Room := { frames := 4, cells := 0, slots := 0, locals := 85 }
def fn_Re_is_23 (i : Nat) : Nat → Int32 → et_G → Option (Int32 × et_G)
  | 0, _, _ => none
  | n + 1, x2, g =>
    if et_len i ≤ x2 then
      some ((1 : Int32), g)
    else
      et_ck (et_ib ((g.1 28 4) + x2) 800) (
      et_bd (fn_Js_charAt i x2 g) (fun v3 g4 =>
      if (g.1 1 ((g.1 28 4) + x2).toNatClampNeg) = v3 then
        et_b (x2 + (1 : Int32)) (fun v5 =>
        fn_Re_is_23 i n v5 g4)
      else
        some ((0 : Int32), g4)))
def fn_Re_is (i : Nat) (g : et_G) : Option (Int32 × et_G) :=
  if (g.1 28 3) = (1 : Int32) then
    if (g.1 28 5) = et_len i then
      fn_Re_is_23 i 1000000 (0 : Int32) g
    else
      some ((0 : Int32), g)
  else
    some ((0 : Int32), g)
theorem kj_1 (x : Int32) : x + Int32.ofInt 1 = x + 1 := by rw [show Int32.ofInt 1 = 1 from by decide]
theorem zp_Re_is_23 (hi : i < 13) {X : et_X} (hX : et_Gd X w cX4_is RX4 3 (some .boolean) [] rm_is) : ∀ (n : Nat) (x2 : Int32) (g : et_G), et_Z X w 0 et_eI 23 [some (.ref (et_ad w 28)), some (.ref (et_ad w (1000 + i))), some (.int x2)] [] g (fn_Re_is_23 i n x2 g) := by
  intro n
  induction n with
  | zero =>
    intro x2 g a g2 h
    cases h
  | succ n ih =>
    intro x2 g
    rw [fn_Re_is_23]
    refine zi_iload2 (pc := 23) hX dX4_is_23 ?_
    refine zi_aload1 (pc := 24) hX dX4_is_24 ?_
    refine zi_callK (zc_vstr (As := []) hi (pc := 25) hX dX4_is_25 tw_814 mw_J0_length_8abf5 iw_J0_length_8abf5 (ct_Js_length hi hX.sane g) rfl rfl rfl) ?_
    refine zi_icmp_ge (pc := 28) 58 hX dX4_is_28 (by decide) (fun _ => ?_) (fun _ => ?_)
    · refine zi_iconst (pc := 58) (v := 1) hX dX4_is_58 (by decide) ?_
      exact zi_ret (pc := 59) hX dX4_is_59 et_z1 rfl rfl rfl
    · refine zi_aload0 (pc := 31) hX dX4_is_31 ?_
      refine zi_getr (q := 1) (pc := 32) hX dX4_is_32 fs_15 ly_28 rfl ?_
      refine zi_aload0 (pc := 35) hX dX4_is_35 ?_
      refine zi_geti (pc := 36) hX dX4_is_36 fs_59 ly_28 rfl ?_
      refine zi_iload2 (pc := 39) hX dX4_is_39 ?_
      refine zi_iadd (pc := 40) hX dX4_is_40 ?_
      refine zi_bald (pc := 41) hX dX4_is_41 ly_1 ?_
      refine zi_aload1 (pc := 42) hX dX4_is_42 ?_
      refine zi_iload2 (pc := 43) hX dX4_is_43 ?_
      refine zi_callI (zc_vstr (As := [.int x2]) hi (pc := 44) hX dX4_is_44 tw_824 mw_J0_charAt_5068e iw_J0_charAt_5068e (ct_Js_charAt hi hX.sane x2 g) rfl rfl rfl) (fun v3 g4 => ?_)
      refine zi_icmp_eq (pc := 47) 52 hX dX4_is_47 (by decide) (fun _ => ?_) (fun _ => ?_)
      · refine zi_iincb2 (pc := 52) hX dX4_is_52 (kj_1 _) rfl rfl (fun v5 => ?_)
        refine zi_goto (pc := 55) 23 hX dX4_is_55 (by decide) ?_
        exact ih v5 g4
      · refine zi_iconst (pc := 50) (v := 0) hX dX4_is_50 (by decide) ?_
        exact zi_ret (pc := 51) hX dX4_is_51 et_z0 rfl rfl rfl
theorem ct_Re_is (hi : i < 13) (hw : et_Sane w) (g : et_G) : et_C w yX4_is (Cond.code yX4_is cX4_is 3 (some .boolean)) rm_is et_eI [.ref (et_ad w 28), .ref (et_ad w (1000 + i))] g (fn_Re_is i g) := et_mk (lv0 := [some (.ref (et_ad w 28)), some (.ref (et_ad w (1000 + i))), none]) hw (by decide) rfl rfl (fun X hX => by
  unfold fn_Re_is
  refine zi_aload0 (pc := 0) hX dX4_is_0 ?_
  refine zi_geti (pc := 1) hX dX4_is_1 fs_49 ly_28 rfl ?_
  refine zi_iconst (pc := 4) (v := 1) hX dX4_is_4 (by decide) ?_
  refine zi_icmp_ne (pc := 5) 19 hX dX4_is_5 (by decide) (fun _ => ?_) (fun _ => ?_)
  · refine zi_aload0 (pc := 8) hX dX4_is_8 ?_
    refine zi_geti (pc := 9) hX dX4_is_9 fs_78 ly_28 rfl ?_
    refine zi_aload1 (pc := 12) hX dX4_is_12 ?_
    refine zi_callK (zc_vstr (As := []) hi (pc := 13) hX dX4_is_13 tw_814 mw_J0_length_8abf5 iw_J0_length_8abf5 (ct_Js_length hi hX.sane g) rfl rfl rfl) ?_
    refine zi_icmp_eq (pc := 16) 21 hX dX4_is_16 (by decide) (fun _ => ?_) (fun _ => ?_)
    · refine zi_iconst (pc := 21) (v := 0) hX dX4_is_21 (by decide) ?_
      refine zi_istore2 (pc := 22) hX dX4_is_22 rfl rfl ?_
      exact zp_Re_is_23 hi hX 1000000 0 g
    · refine zi_iconst (pc := 19) (v := 0) hX dX4_is_19 (by decide) ?_
      exact zi_ret (pc := 20) hX dX4_is_20 et_z0 rfl rfl rfl
  · refine zi_iconst (pc := 19) (v := 0) hX dX4_is_19 (by decide) ?_
    exact zi_ret (pc := 20) hX dX4_is_20 et_z0 rfl rfl rfl)
end STY
end
