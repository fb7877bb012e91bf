def rm_Mo_silence : Room := { frames := 6, cells := 0, slots := 0, locals := 151 }
def fn_Mo_silence_126 (r36 : Int32 → Int32 → et_G → Option (Int32 × et_G)) (x1 : Int32) (x2 : Int32) (x3 : Int32) (x4 : Int32) (x5 : Int32) (g : et_G) : Option (Int32 × et_G) :=
  et_bd (fn_Mo_reckons x5 (0 : Int32) g) (fun _ g10 =>
  et_bd (fn_Mo_byTold x1 (23 : Int32) x2 (0 : Int32) g10) (fun v11 g12 =>
  if v11 < (1000 : Int32) then
    et_b (x4 + (1 : Int32)) (fun v13 =>
    r36 x3 v13 g12)
  else
    et_b (x4 + (1 : Int32)) (fun v14 =>
    r36 x4 v14 g12)))
def fn_Mo_silence_83 (r36 : Int32 → Int32 → et_G → Option (Int32 × et_G)) (x1 : Int32) (x2 : Int32) (x3 : Int32) (x4 : Int32) : Nat → Int32 → Int32 → et_G → Option (Int32 × et_G)
  | 0, _, _, _ => none
  | n + 1, x5, x6, g =>
    if (g.1 61 50) ≤ x6 then
      fn_Mo_silence_126 r36 x1 x2 x3 x4 x5 g
    else
      et_bd (fn_Mo_of x6 (0 : Int32) g) (fun v15 g16 =>
      if ((x4 >>> (v15 &&& 31)) &&& (1 : Int32)) = 0 then
        et_b (x5 ||| ((1 : Int32) <<< (x6 &&& 31))) (fun v19 =>
        et_b (x6 + (1 : Int32)) (fun v20 =>
        fn_Mo_silence_83 r36 x1 x2 x3 x4 n v19 v20 g16))
      else
        et_b (x5 ||| (0 : Int32)) (fun v17 =>
        et_b (x6 + (1 : Int32)) (fun v18 =>
        fn_Mo_silence_83 r36 x1 x2 x3 x4 n v17 v18 g16)))
def fn_Mo_silence_36 (x1 : Int32) (x2 : Int32) : Nat → Int32 → Int32 → et_G → Option (Int32 × et_G)
  | 0, _, _, _ => none
  | n + 1, x3, x4, g =>
    if ((1 : Int32) <<< ((g.1 61 4) &&& 31)) ≤ x4 then
      some (x3, g)
    else
      if ((x4 >>> (x1 &&& 31)) &&& (1 : Int32)) = (1 : Int32) then
        et_b (x4 + (1 : Int32)) (fun v8 =>
        fn_Mo_silence_36 x1 x2 n x3 v8 g)
      else
        if x3 = (-1 : Int32) then
          fn_Mo_silence_83 (fun z3 z4 g => fn_Mo_silence_36 x1 x2 n z3 z4 g) x1 x2 x3 x4 1000000 (0 : Int32) (0 : Int32) g
        else
          et_bd (fn_Mo_bits x4 g) (fun v21 g22 =>
          et_bd (fn_Mo_bits x3 g22) (fun v23 g24 =>
          if v21 < v23 then
            fn_Mo_silence_83 (fun z3 z4 g => fn_Mo_silence_36 x1 x2 n z3 z4 g) x1 x2 x3 x4 1000000 (0 : Int32) (0 : Int32) g24
          else
            et_b (x4 + (1 : Int32)) (fun v25 =>
            fn_Mo_silence_36 x1 x2 n x3 v25 g24)))
def fn_Mo_silence (p1 : Int32) (p2 : Int32) (g : et_G) : Option (Int32 × et_G) :=
  et_b (et_si g 61 0 (0 : Int32)) (fun g1 =>
  et_bd (fn_Mo_isWho p1 (0 : Int32) g1) (fun v2 g3 =>
  if v2 = 0 then
    some ((0 : Int32), g3)
  else
    et_bd (fn_Mo_isThing p2 g3) (fun v4 g5 =>
    if v4 = 0 then
      some ((0 : Int32), g5)
    else
      et_bd (fn_Mo_asks p1 (23 : Int32) g5) (fun _ g7 =>
      fn_Mo_silence_36 p1 p2 1000000 (-1 : Int32) (0 : Int32) g7))))
theorem zp_Mo_silence_126 {X : et_X} {w : et_W} (hX : et_Gd X w cX10_silence RX10 7 (some .int) [] rm_Mo_silence) (r36 : Int32 → Int32 → et_G → Option (Int32 × et_G)) (x1 : Int32) (x2 : Int32) (x3 : Int32) (x4 : Int32) (x5 : Int32) (hr36 : ∀ (y3 : Int32) (y4 : Int32) (g : et_G), et_Z X w 0 et_eI 36 [some (.ref (et_ad w 61)), some (.int x1), some (.int x2), some (.int y3), some (.int y4), none, none] [] g (r36 y3 y4 g)) (g : et_G) : et_Z X w 0 et_eI 126 [some (.ref (et_ad w 61)), some (.int x1), some (.int x2), some (.int x3), some (.int x4), some (.int x5), none] [] g (fn_Mo_silence_126 r36 x1 x2 x3 x4 x5 g) := by
  unfold fn_Mo_silence_126
  refine zi_aload0 (pc := 126) hX dX10_silence_126 ?_
  refine zi_iload5 (pc := 127) hX dX10_silence_127 ?_
  refine zi_iconst (pc := 129) hX dX10_silence_129 ki_0 ?_
  refine zi_callU (zc_virt (pc := 130) hX dX10_silence_130 tm_1789 md_X10_reckons mi_X10_reckons ly_61 (ct_Mo_reckons hX.sane x5 (0 : Int32) g) rfl rfl rfl) (fun g10 => ?_)
  refine zi_aload0 (pc := 133) hX dX10_silence_133 ?_
  refine zi_iload1 (pc := 134) hX dX10_silence_134 ?_
  refine zi_bipush (pc := 135) hX dX10_silence_135 kb_23 ?_
  refine zi_iload2 (pc := 137) hX dX10_silence_137 ?_
  refine zi_iconst (pc := 138) hX dX10_silence_138 ki_0 ?_
  refine zi_callI (zc_virt (pc := 139) hX dX10_silence_139 tm_1801 md_X10_byTold mi_X10_byTold ly_61 (ct_Mo_byTold hX.sane x1 (23 : Int32) x2 (0 : Int32) g10) rfl rfl rfl) (fun v11 g12 => ?_)
  refine zi_sipush (pc := 142) hX dX10_silence_142 ks_1000 ?_
  refine zi_icmp_lt (pc := 145) 151 hX dX10_silence_145 (by decide) (fun _ => ?_) (fun _ => ?_)
  · refine zi_iincb4 (pc := 151) hX dX10_silence_151 (kn_1 _) rfl rfl (fun v13 => ?_)
    refine zi_goto (pc := 154) 36 hX dX10_silence_154 (by decide) ?_
    refine zi_drop (le_s (le_s (le_s (le_s (le_s (le_n (le_s le_nil))))))) ?_; exact hr36 x3 v13 g12
  · refine zi_iload4 (pc := 148) hX dX10_silence_148 ?_
    refine zi_istore3 (pc := 150) hX dX10_silence_150 rfl rfl ?_
    refine zi_iincb4 (pc := 151) hX dX10_silence_151 (kn_1 _) rfl rfl (fun v14 => ?_)
    refine zi_goto (pc := 154) 36 hX dX10_silence_154 (by decide) ?_
    refine zi_drop (le_s (le_s (le_s (le_s (le_s (le_n (le_s le_nil))))))) ?_; exact hr36 x4 v14 g12
theorem zp_Mo_silence_83 {X : et_X} {w : et_W} (hX : et_Gd X w cX10_silence RX10 7 (some .int) [] rm_Mo_silence) (r36 : Int32 → Int32 → et_G → Option (Int32 × et_G)) (x1 : Int32) (x2 : Int32) (x3 : Int32) (x4 : Int32) (hr36 : ∀ (y3 : Int32) (y4 : Int32) (g : et_G), et_Z X w 0 et_eI 36 [some (.ref (et_ad w 61)), some (.int x1), some (.int x2), some (.int y3), some (.int y4), none, none] [] g (r36 y3 y4 g)) : ∀ (n : Nat) (x5 : Int32) (x6 : Int32) (g : et_G), et_Z X w 0 et_eI 83 [some (.ref (et_ad w 61)), some (.int x1), some (.int x2), some (.int x3), some (.int x4), some (.int x5), some (.int x6)] [] g (fn_Mo_silence_83 r36 x1 x2 x3 x4 n x5 x6 g) := by
  intro n
  induction n with
  | zero =>
    intro x5 x6 g a g2 h
    cases h
  | succ n ih =>
    intro x5 x6 g
    rw [fn_Mo_silence_83]
    refine zi_iload6 (pc := 83) hX dX10_silence_83 ?_
    refine zi_aload0 (pc := 85) hX dX10_silence_85 ?_
    refine zi_geti (pc := 86) hX dX10_silence_86 fl_1398 ly_61 rfl ?_
    refine zi_icmp_ge (pc := 89) 126 hX dX10_silence_89 (by decide) (fun _ => ?_) (fun _ => ?_)
    · refine zi_drop (le_s (le_s (le_s (le_s (le_s (le_s (le_n le_nil))))))) ?_; exact zp_Mo_silence_126 hX r36 x1 x2 x3 x4 x5 hr36 g
    · refine zi_iload5 (pc := 92) hX dX10_silence_92 ?_
      refine zi_iload4 (pc := 94) hX dX10_silence_94 ?_
      refine zi_aload0 (pc := 96) hX dX10_silence_96 ?_
      refine zi_iload6 (pc := 97) hX dX10_silence_97 ?_
      refine zi_iconst (pc := 99) hX dX10_silence_99 ki_0 ?_
      refine zi_callI (zc_virt (pc := 100) hX dX10_silence_100 tm_1773 md_X10_of mi_X10_of ly_61 (ct_Mo_of hX.sane x6 (0 : Int32) g) rfl rfl rfl) (fun v15 g16 => ?_)
      refine zi_ishr (pc := 103) hX dX10_silence_103 ?_
      refine zi_iconst (pc := 104) hX dX10_silence_104 ki_1 ?_
      refine zi_iand (pc := 105) hX dX10_silence_105 ?_
      refine zi_if_ne (pc := 106) 116 hX dX10_silence_106 (by decide) (fun _ => ?_) (fun _ => ?_)
      · refine zi_iconst (pc := 109) hX dX10_silence_109 ki_1 ?_
        refine zi_iload6 (pc := 110) hX dX10_silence_110 ?_
        refine zi_ishl (pc := 112) hX dX10_silence_112 ?_
        refine zi_goto (pc := 113) 117 hX dX10_silence_113 (by decide) ?_
        refine zi_ior (pc := 117) hX dX10_silence_117 ?_
        refine zi_bi (fun v19 => ?_)
        refine zi_istore5 (pc := 118) hX dX10_silence_118 rfl rfl ?_
        refine zi_iincb6 (pc := 120) hX dX10_silence_120 (kn_1 _) rfl rfl (fun v20 => ?_)
        refine zi_goto (pc := 123) 83 hX dX10_silence_123 (by decide) ?_
        exact ih v19 v20 g16
      · refine zi_iconst (pc := 116) hX dX10_silence_116 ki_0 ?_
        refine zi_ior (pc := 117) hX dX10_silence_117 ?_
        refine zi_bi (fun v17 => ?_)
        refine zi_istore5 (pc := 118) hX dX10_silence_118 rfl rfl ?_
        refine zi_iincb6 (pc := 120) hX dX10_silence_120 (kn_1 _) rfl rfl (fun v18 => ?_)
        refine zi_goto (pc := 123) 83 hX dX10_silence_123 (by decide) ?_
        exact ih v17 v18 g16
theorem zp_Mo_silence_36 {X : et_X} {w : et_W} (hX : et_Gd X w cX10_silence RX10 7 (some .int) [] rm_Mo_silence) (x1 : Int32) (x2 : Int32) : ∀ (n : Nat) (x3 : Int32) (x4 : Int32) (g : et_G), et_Z X w 0 et_eI 36 [some (.ref (et_ad w 61)), some (.int x1), some (.int x2), some (.int x3), some (.int x4), none, none] [] g (fn_Mo_silence_36 x1 x2 n x3 x4 g) := by
  intro n
  induction n with
  | zero =>
    intro x3 x4 g a g2 h
    cases h
  | succ n ih =>
    intro x3 x4 g
    rw [fn_Mo_silence_36]
    refine zi_iload4 (pc := 36) hX dX10_silence_36 ?_
    refine zi_iconst (pc := 38) hX dX10_silence_38 ki_1 ?_
    refine zi_aload0 (pc := 39) hX dX10_silence_39 ?_
    refine zi_geti (pc := 40) hX dX10_silence_40 fl_1352 ly_61 rfl ?_
    refine zi_ishl (pc := 43) hX dX10_silence_43 ?_
    refine zi_icmp_ge (pc := 44) 157 hX dX10_silence_44 (by decide) (fun _ => ?_) (fun _ => ?_)
    · refine zi_iload3 (pc := 157) hX dX10_silence_157 ?_
      exact zi_ret (pc := 158) hX dX10_silence_158 rfl rfl rfl rfl
    · refine zi_iload4 (pc := 47) hX dX10_silence_47 ?_
      refine zi_iload1 (pc := 49) hX dX10_silence_49 ?_
      refine zi_ishr (pc := 50) hX dX10_silence_50 ?_
      refine zi_iconst (pc := 51) hX dX10_silence_51 ki_1 ?_
      refine zi_iand (pc := 52) hX dX10_silence_52 ?_
      refine zi_iconst (pc := 53) hX dX10_silence_53 ki_1 ?_
      refine zi_icmp_eq (pc := 54) 151 hX dX10_silence_54 (by decide) (fun _ => ?_) (fun _ => ?_)
      · refine zi_iincb4 (pc := 151) hX dX10_silence_151 (kn_1 _) rfl rfl (fun v8 => ?_)
        refine zi_goto (pc := 154) 36 hX dX10_silence_154 (by decide) ?_
        exact ih x3 v8 g
      · refine zi_iload3 (pc := 57) hX dX10_silence_57 ?_
        refine zi_iconst (pc := 58) hX dX10_silence_58 ki_m1 ?_
        refine zi_icmp_eq (pc := 59) 77 hX dX10_silence_59 (by decide) (fun _ => ?_) (fun _ => ?_)
        · refine zi_iconst (pc := 77) hX dX10_silence_77 ki_0 ?_
          refine zi_istore5 (pc := 78) hX dX10_silence_78 rfl rfl ?_
          refine zi_iconst (pc := 80) hX dX10_silence_80 ki_0 ?_
          refine zi_istore6 (pc := 81) hX dX10_silence_81 rfl rfl ?_
          exact zp_Mo_silence_83 hX (fun z3 z4 g => fn_Mo_silence_36 x1 x2 n z3 z4 g) x1 x2 x3 x4 (fun z3 z4 g => ih z3 z4 g) 1000000 (0 : Int32) (0 : Int32) g
        · refine zi_iload4 (pc := 62) hX dX10_silence_62 ?_
          refine zi_callI (zc_stat (pc := 64) hX dX10_silence_64 tm_1686 md_X10_bits st_X10_bits (ct_Mo_bits hX.sane x4 g) rfl rfl rfl) (fun v21 g22 => ?_)
          refine zi_iload3 (pc := 67) hX dX10_silence_67 ?_
          refine zi_callI (zc_stat (pc := 68) hX dX10_silence_68 tm_1686 md_X10_bits st_X10_bits (ct_Mo_bits hX.sane x3 g22) rfl rfl rfl) (fun v23 g24 => ?_)
          refine zi_icmp_lt (pc := 71) 77 hX dX10_silence_71 (by decide) (fun _ => ?_) (fun _ => ?_)
          · refine zi_iconst (pc := 77) hX dX10_silence_77 ki_0 ?_
            refine zi_istore5 (pc := 78) hX dX10_silence_78 rfl rfl ?_
            refine zi_iconst (pc := 80) hX dX10_silence_80 ki_0 ?_
            refine zi_istore6 (pc := 81) hX dX10_silence_81 rfl rfl ?_
            exact zp_Mo_silence_83 hX (fun z3 z4 g => fn_Mo_silence_36 x1 x2 n z3 z4 g) x1 x2 x3 x4 (fun z3 z4 g => ih z3 z4 g) 1000000 (0 : Int32) (0 : Int32) g24
          · refine zi_goto (pc := 74) 151 hX dX10_silence_74 (by decide) ?_
            refine zi_iincb4 (pc := 151) hX dX10_silence_151 (kn_1 _) rfl rfl (fun v25 => ?_)
            refine zi_goto (pc := 154) 36 hX dX10_silence_154 (by decide) ?_
            exact ih x3 v25 g24
theorem zw_Mo_silence {X : et_X} {w : et_W} (hX : et_Gd X w cX10_silence RX10 7 (some .int) [] rm_Mo_silence) (p1 : Int32) (p2 : Int32) (g : et_G) : et_Z X w 0 et_eI 0 [some (.ref (et_ad w 61)), some (.int p1), some (.int p2), none, none, none, none] [] g (fn_Mo_silence p1 p2 g) := by
  unfold fn_Mo_silence
  refine zi_aload0 (pc := 0) hX dX10_silence_0 ?_
  refine zi_iconst (pc := 1) hX dX10_silence_1 ki_0 ?_
  refine zi_puti (pc := 2) hX dX10_silence_2 fl_1348 ly_61 rfl rfl rfl (zi_bg (fun g1 => ?_))
  refine zi_aload0 (pc := 5) hX dX10_silence_5 ?_
  refine zi_iload1 (pc := 6) hX dX10_silence_6 ?_
  refine zi_iconst (pc := 7) hX dX10_silence_7 ki_0 ?_
  refine zi_callI (zc_virt (pc := 8) hX dX10_silence_8 tm_1693 md_X10_isWho mi_X10_isWho ly_61 (ct_Mo_isWho hX.sane p1 (0 : Int32) g1) rfl rfl rfl) (fun v2 g3 => ?_)
  refine zi_if_eq (pc := 11) 22 hX dX10_silence_11 (by decide) (fun _ => ?_) (fun _ => ?_)
  · refine zi_iconst (pc := 22) hX dX10_silence_22 ki_0 ?_
    exact zi_ret (pc := 23) hX dX10_silence_23 rfl rfl rfl rfl
  · refine zi_aload0 (pc := 14) hX dX10_silence_14 ?_
    refine zi_iload2 (pc := 15) hX dX10_silence_15 ?_
    refine zi_callI (zc_virt (pc := 16) hX dX10_silence_16 tm_1701 md_X10_isThing mi_X10_isThing ly_61 (ct_Mo_isThing hX.sane p2 g3) rfl rfl rfl) (fun v4 g5 => ?_)
    refine zi_if_ne (pc := 19) 24 hX dX10_silence_19 (by decide) (fun _ => ?_) (fun _ => ?_)
    · refine zi_iconst (pc := 22) hX dX10_silence_22 ki_0 ?_
      exact zi_ret (pc := 23) hX dX10_silence_23 rfl rfl rfl rfl
    · refine zi_aload0 (pc := 24) hX dX10_silence_24 ?_
      refine zi_iload1 (pc := 25) hX dX10_silence_25 ?_
      refine zi_bipush (pc := 26) hX dX10_silence_26 kb_23 ?_
      refine zi_callU (zc_virt (pc := 28) hX dX10_silence_28 tm_1777 md_X10_asks mi_X10_asks ly_61 (ct_Mo_asks hX.sane p1 (23 : Int32) g5) rfl rfl rfl) (fun g7 => ?_)
      refine zi_iconst (pc := 31) hX dX10_silence_31 ki_m1 ?_
      refine zi_istore3 (pc := 32) hX dX10_silence_32 rfl rfl ?_
      refine zi_iconst (pc := 33) hX dX10_silence_33 ki_0 ?_
      refine zi_istore4 (pc := 34) hX dX10_silence_34 rfl rfl ?_
      exact zp_Mo_silence_36 hX p1 p2 1000000 (-1 : Int32) (0 : Int32) g7
theorem ct_Mo_silence {w : et_W} (hw : et_Sane w) (p1 : Int32) (p2 : Int32) (g : et_G) : et_C w yX10_silence (Cond.code yX10_silence cX10_silence 7 (some .int)) rm_Mo_silence et_eI [.ref (et_ad w 61), .int p1, .int p2] g (fn_Mo_silence p1 p2 g) := et_mk hw (by decide) rfl rfl (fun X hX => zw_Mo_silence hX p1 p2 g)
def rm_Mo_tell : Room := { frames := 3, cells := 0, slots := 0, locals := 74 }
def fn_Mo_tell (p1 : Int32) (p2 : Int32) (p3 : Int32) (g : et_G) : Option (Int32 × et_G) :=
  et_b (et_si g 61 0 (0 : Int32)) (fun g1 =>
  et_bd (fn_Mo_isWho p1 (0 : Int32) g1) (fun v2 g3 =>
  if v2 = 0 then
    some ((0 : Int32), g3)
  else
    et_bd (fn_Mo_isThing p2 g3) (fun v4 g5 =>
    if v4 = 0 then
      some ((0 : Int32), g5)
    else
      et_bd (fn_Mo_placeOf p2 g5) (fun v6 g7 =>
      if v6 = (-1 : Int32) then
        et_bd (fn_Mo_refuses (2 : Int32) g7) (fun v19 g20 =>
        some (v19, g20))
      else
        et_bd (fn_Mo_worldsOf p2 p3 g7) (fun v8 g9 =>
        et_bd (fn_Mo_knows p1 v8 g9) (fun v10 g11 =>
        et_bd (fn_Mo_real g11) (fun v12 g13 =>
        if ((v10 >>> (v12 &&& 31)) &&& (1 : Int32)) = 0 then
          et_bd (fn_Mo_refuses (2 : Int32) g13) (fun v17 g18 =>
          some (v17, g18))
        else
          et_b (et_si g13 61 68 ((g13.1 61 68) &&& v10)) (fun g14 =>
          et_bd (fn_Mo_bits (g14.1 61 68) g14) (fun v15 g16 =>
          some (v15, g16))))))))))
theorem zw_Mo_tell {X : et_X} {w : et_W} (hX : et_Gd X w cX10_tell RX10 5 (some .int) [] rm_Mo_tell) (p1 : Int32) (p2 : Int32) (p3 : Int32) (g : et_G) : et_Z X w 0 et_eI 0 [some (.ref (et_ad w 61)), some (.int p1), some (.int p2), some (.int p3), none] [] g (fn_Mo_tell p1 p2 p3 g) := by
  unfold fn_Mo_tell
  refine zi_aload0 (pc := 0) hX dX10_tell_0 ?_
  refine zi_iconst (pc := 1) hX dX10_tell_1 ki_0 ?_
  refine zi_puti (pc := 2) hX dX10_tell_2 fl_1348 ly_61 rfl rfl rfl (zi_bg (fun g1 => ?_))
  refine zi_aload0 (pc := 5) hX dX10_tell_5 ?_
  refine zi_iload1 (pc := 6) hX dX10_tell_6 ?_
  refine zi_iconst (pc := 7) hX dX10_tell_7 ki_0 ?_
  refine zi_callI (zc_virt (pc := 8) hX dX10_tell_8 tm_1693 md_X10_isWho mi_X10_isWho ly_61 (ct_Mo_isWho hX.sane p1 (0 : Int32) g1) rfl rfl rfl) (fun v2 g3 => ?_)
  refine zi_if_eq (pc := 11) 22 hX dX10_tell_11 (by decide) (fun _ => ?_) (fun _ => ?_)
  · refine zi_iconst (pc := 22) hX dX10_tell_22 ki_0 ?_
    exact zi_ret (pc := 23) hX dX10_tell_23 rfl rfl rfl rfl
  · refine zi_aload0 (pc := 14) hX dX10_tell_14 ?_
    refine zi_iload2 (pc := 15) hX dX10_tell_15 ?_
    refine zi_callI (zc_virt (pc := 16) hX dX10_tell_16 tm_1701 md_X10_isThing mi_X10_isThing ly_61 (ct_Mo_isThing hX.sane p2 g3) rfl rfl rfl) (fun v4 g5 => ?_)
    refine zi_if_ne (pc := 19) 24 hX dX10_tell_19 (by decide) (fun _ => ?_) (fun _ => ?_)
    · refine zi_iconst (pc := 22) hX dX10_tell_22 ki_0 ?_
      exact zi_ret (pc := 23) hX dX10_tell_23 rfl rfl rfl rfl
    · refine zi_aload0 (pc := 24) hX dX10_tell_24 ?_
      refine zi_iload2 (pc := 25) hX dX10_tell_25 ?_
      refine zi_callI (zc_virt (pc := 26) hX dX10_tell_26 tm_1871 md_X10_placeOf mi_X10_placeOf ly_61 (ct_Mo_placeOf hX.sane p2 g5) rfl rfl rfl) (fun v6 g7 => ?_)
      refine zi_iconst (pc := 29) hX dX10_tell_29 ki_m1 ?_
      refine zi_icmp_ne (pc := 30) 39 hX dX10_tell_30 (by decide) (fun _ => ?_) (fun _ => ?_)
      · refine zi_aload0 (pc := 33) hX dX10_tell_33 ?_
        refine zi_iconst (pc := 34) hX dX10_tell_34 ki_2 ?_
        refine zi_callI (zc_virt (pc := 35) hX dX10_tell_35 tm_1741 md_X10_refuses mi_X10_refuses ly_61 (ct_Mo_refuses hX.sane (2 : Int32) g7) rfl rfl rfl) (fun v19 g20 => ?_)
        exact zi_ret (pc := 38) hX dX10_tell_38 rfl rfl rfl rfl
      · refine zi_aload0 (pc := 39) hX dX10_tell_39 ?_
        refine zi_iload1 (pc := 40) hX dX10_tell_40 ?_
        refine zi_aload0 (pc := 41) hX dX10_tell_41 ?_
        refine zi_iload2 (pc := 42) hX dX10_tell_42 ?_
        refine zi_iload3 (pc := 43) hX dX10_tell_43 ?_
        refine zi_callI (zc_virt (pc := 44) hX dX10_tell_44 tm_1875 md_X10_worldsOf mi_X10_worldsOf ly_61 (ct_Mo_worldsOf hX.sane p2 p3 g7) rfl rfl rfl) (fun v8 g9 => ?_)
        refine zi_callI (zc_virt (pc := 47) hX dX10_tell_47 tm_1879 md_X10_knows mi_X10_knows ly_61 (ct_Mo_knows hX.sane p1 v8 g9) rfl rfl rfl) (fun v10 g11 => ?_)
        refine zi_istore4 (pc := 50) hX dX10_tell_50 rfl rfl ?_
        refine zi_iload4 (pc := 52) hX dX10_tell_52 ?_
        refine zi_aload0 (pc := 54) hX dX10_tell_54 ?_
        refine zi_callI (zc_virt (pc := 55) hX dX10_tell_55 tm_1890 md_X10_real mi_X10_real ly_61 (ct_Mo_real hX.sane g11) rfl rfl rfl) (fun v12 g13 => ?_)
        refine zi_ishr (pc := 58) hX dX10_tell_58 ?_
        refine zi_iconst (pc := 59) hX dX10_tell_59 ki_1 ?_
        refine zi_iand (pc := 60) hX dX10_tell_60 ?_
        refine zi_if_ne (pc := 61) 70 hX dX10_tell_61 (by decide) (fun _ => ?_) (fun _ => ?_)
        · refine zi_aload0 (pc := 64) hX dX10_tell_64 ?_
          refine zi_iconst (pc := 65) hX dX10_tell_65 ki_2 ?_
          refine zi_callI (zc_virt (pc := 66) hX dX10_tell_66 tm_1741 md_X10_refuses mi_X10_refuses ly_61 (ct_Mo_refuses hX.sane (2 : Int32) g13) rfl rfl rfl) (fun v17 g18 => ?_)
          exact zi_ret (pc := 69) hX dX10_tell_69 rfl rfl rfl rfl
        · refine zi_aload0 (pc := 70) hX dX10_tell_70 ?_
          refine zi_dup (pc := 71) hX dX10_tell_71 rfl ?_
          refine zi_geti (pc := 72) hX dX10_tell_72 fl_1416 ly_61 rfl ?_
          refine zi_iload4 (pc := 75) hX dX10_tell_75 ?_
          refine zi_iand (pc := 77) hX dX10_tell_77 ?_
          refine zi_puti (pc := 78) hX dX10_tell_78 fl_1416 ly_61 rfl rfl rfl (zi_bg (fun g14 => ?_))
          refine zi_aload0 (pc := 81) hX dX10_tell_81 ?_
          refine zi_geti (pc := 82) hX dX10_tell_82 fl_1416 ly_61 rfl ?_
          refine zi_callI (zc_stat (pc := 85) hX dX10_tell_85 tm_1686 md_X10_bits st_X10_bits (ct_Mo_bits hX.sane (g14.1 61 68) g14) rfl rfl rfl) (fun v15 g16 => ?_)
          exact zi_ret (pc := 88) hX dX10_tell_88 rfl rfl rfl rfl
theorem ct_Mo_tell {w : et_W} (hw : et_Sane w) (p1 : Int32) (p2 : Int32) (p3 : Int32) (g : et_G) : et_C w yX10_tell (Cond.code yX10_tell cX10_tell 5 (some .int)) rm_Mo_tell et_eI [.ref (et_ad w 61), .int p1, .int p2, .int p3] g (fn_Mo_tell p1 p2 p3 g) := et_mk hw (by decide) rfl rfl (fun X hX => zw_Mo_tell hX p1 p2 p3 g)
def rm_Mo_thing : Room := { frames := 2, cells := 0, slots := 0, locals := 43 }
def fn_Mo_thing (p1 : Int32) (p2 : Int32) (g : et_G) : Option (Int32 × et_G) :=
  et_b (et_si g 61 0 (0 : Int32)) (fun g1 =>
  et_bd (fn_Mo_isThing p1 g1) (fun v2 g3 =>
  if v2 = 0 then
    some ((0 : Int32), g3)
  else
    et_bd (fn_Mo_within p2 (0 : Int32) (4 : Int32) g3) (fun v4 g5 =>
    et_bd (fn_Mo_right v4 (1 : Int32) g5) (fun v6 g7 =>
    if v6 = 0 then
      some ((0 : Int32), g7)
    else
      et_ck (et_ib (((5 : Int32) * p1) + p2) 40) (
      some (g7.1 66 (((5 : Int32) * p1) + p2).toNatClampNeg, g7))))))
theorem zw_Mo_thing {X : et_X} {w : et_W} (hX : et_Gd X w cX10_thing RX10 3 (some .int) [] rm_Mo_thing) (p1 : Int32) (p2 : Int32) (g : et_G) : et_Z X w 0 et_eI 0 [some (.ref (et_ad w 61)), some (.int p1), some (.int p2)] [] g (fn_Mo_thing p1 p2 g) := by
  unfold fn_Mo_thing
  refine zi_aload0 (pc := 0) hX dX10_thing_0 ?_
  refine zi_iconst (pc := 1) hX dX10_thing_1 ki_0 ?_
  refine zi_puti (pc := 2) hX dX10_thing_2 fl_1348 ly_61 rfl rfl rfl (zi_bg (fun g1 => ?_))
  refine zi_aload0 (pc := 5) hX dX10_thing_5 ?_
  refine zi_iload1 (pc := 6) hX dX10_thing_6 ?_
  refine zi_callI (zc_virt (pc := 7) hX dX10_thing_7 tm_1701 md_X10_isThing mi_X10_isThing ly_61 (ct_Mo_isThing hX.sane p1 g1) rfl rfl rfl) (fun v2 g3 => ?_)
  refine zi_if_eq (pc := 10) 40 hX dX10_thing_10 (by decide) (fun _ => ?_) (fun _ => ?_)
  · refine zi_iconst (pc := 40) hX dX10_thing_40 ki_0 ?_
    exact zi_ret (pc := 41) hX dX10_thing_41 rfl rfl rfl rfl
  · refine zi_aload0 (pc := 13) hX dX10_thing_13 ?_
    refine zi_iload2 (pc := 14) hX dX10_thing_14 ?_
    refine zi_iconst (pc := 15) hX dX10_thing_15 ki_0 ?_
    refine zi_iconst (pc := 16) hX dX10_thing_16 ki_4 ?_
    refine zi_callI (zc_stat (pc := 17) hX dX10_thing_17 tm_1683 md_X10_within st_X10_within (ct_Mo_within hX.sane p2 (0 : Int32) (4 : Int32) g3) rfl rfl rfl) (fun v4 g5 => ?_)
    refine zi_iconst (pc := 20) hX dX10_thing_20 ki_1 ?_
    refine zi_callI (zc_virt (pc := 21) hX dX10_thing_21 tm_1587 md_X10_right mi_X10_right ly_61 (ct_Mo_right hX.sane v4 (1 : Int32) g5) rfl rfl rfl) (fun v6 g7 => ?_)
    refine zi_if_eq (pc := 24) 40 hX dX10_thing_24 (by decide) (fun _ => ?_) (fun _ => ?_)
    · refine zi_iconst (pc := 40) hX dX10_thing_40 ki_0 ?_
      exact zi_ret (pc := 41) hX dX10_thing_41 rfl rfl rfl rfl
    · refine zi_aload0 (pc := 27) hX dX10_thing_27 ?_
      refine zi_getr (q := 66) (pc := 28) hX dX10_thing_28 fl_1359 ly_61 rfl ?_
      refine zi_iconst (pc := 31) hX dX10_thing_31 ki_5 ?_
      refine zi_iload1 (pc := 32) hX dX10_thing_32 ?_
      refine zi_imul (pc := 33) hX dX10_thing_33 ?_
      refine zi_iload2 (pc := 34) hX dX10_thing_34 ?_
      refine zi_iadd (pc := 35) hX dX10_thing_35 ?_
      refine zi_iald (pc := 36) hX dX10_thing_36 ly_66 ?_
      refine zi_goto (pc := 37) 41 hX dX10_thing_37 (by decide) ?_
      exact zi_ret (pc := 41) hX dX10_thing_41 rfl rfl rfl rfl
theorem ct_Mo_thing {w : et_W} (hw : et_Sane w) (p1 : Int32) (p2 : Int32) (g : et_G) : et_C w yX10_thing (Cond.code yX10_thing cX10_thing 3 (some .int)) rm_Mo_thing et_eI [.ref (et_ad w 61), .int p1, .int p2] g (fn_Mo_thing p1 p2 g) := et_mk hw (by decide) rfl rfl (fun X hX => zw_Mo_thing hX p1 p2 g)
def rm_Mo_thrown : Room := { frames := 0, cells := 0, slots := 0, locals := 0 }
def fn_Mo_thrown (g : et_G) : Option (Int32 × et_G) :=
  some (g.1 61 0, g)
theorem zw_Mo_thrown {X : et_X} {w : et_W} (hX : et_Gd X w cX10_thrown RX10 1 (some .int) [] rm_Mo_thrown) (g : et_G) : et_Z X w 0 et_eI 0 [some (.ref (et_ad w 61))] [] g (fn_Mo_thrown g) := by
  unfold fn_Mo_thrown
  refine zi_aload0 (pc := 0) hX dX10_thrown_0 ?_
  refine zi_geti (pc := 1) hX dX10_thrown_1 fl_1348 ly_61 rfl ?_
  exact zi_ret (pc := 4) hX dX10_thrown_4 rfl rfl rfl rfl
theorem ct_Mo_thrown {w : et_W} (hw : et_Sane w) (g : et_G) : et_C w yX10_thrown (Cond.code yX10_thrown cX10_thrown 1 (some .int)) rm_Mo_thrown et_eI [.ref (et_ad w 61)] g (fn_Mo_thrown g) := et_mk hw (by decide) rfl rfl (fun X hX => zw_Mo_thrown hX g)
def rm_Mo_unsay : Room := { frames := 0, cells := 0, slots := 0, locals := 0 }
def fn_Mo_unsay (g : et_G) : Option (Int32 × et_G) :=
  et_b (et_si g 61 0 (0 : Int32)) (fun g1 =>
  if (g1.1 61 50) = 0 then
    some ((-1 : Int32), g1)
  else
    et_b (et_si g1 61 50 ((g1.1 61 50) - (1 : Int32))) (fun g2 =>
    some (g2.1 61 50, g2)))
theorem zw_Mo_unsay {X : et_X} {w : et_W} (hX : et_Gd X w cX10_unsay RX10 1 (some .int) [] rm_Mo_unsay) (g : et_G) : et_Z X w 0 et_eI 0 [some (.ref (et_ad w 61))] [] g (fn_Mo_unsay g) := by
  unfold fn_Mo_unsay
  refine zi_aload0 (pc := 0) hX dX10_unsay_0 ?_
  refine zi_iconst (pc := 1) hX dX10_unsay_1 ki_0 ?_
  refine zi_puti (pc := 2) hX dX10_unsay_2 fl_1348 ly_61 rfl rfl rfl (zi_bg (fun g1 => ?_))
  refine zi_aload0 (pc := 5) hX dX10_unsay_5 ?_
  refine zi_geti (pc := 6) hX dX10_unsay_6 fl_1398 ly_61 rfl ?_
  refine zi_if_ne (pc := 9) 14 hX dX10_unsay_9 (by decide) (fun _ => ?_) (fun _ => ?_)
  · refine zi_iconst (pc := 12) hX dX10_unsay_12 ki_m1 ?_
    exact zi_ret (pc := 13) hX dX10_unsay_13 rfl rfl rfl rfl
  · refine zi_aload0 (pc := 14) hX dX10_unsay_14 ?_
    refine zi_dup (pc := 15) hX dX10_unsay_15 rfl ?_
    refine zi_geti (pc := 16) hX dX10_unsay_16 fl_1398 ly_61 rfl ?_
    refine zi_iconst (pc := 19) hX dX10_unsay_19 ki_1 ?_
    refine zi_isub (pc := 20) hX dX10_unsay_20 ?_
    refine zi_puti (pc := 21) hX dX10_unsay_21 fl_1398 ly_61 rfl rfl rfl (zi_bg (fun g2 => ?_))
    refine zi_aload0 (pc := 24) hX dX10_unsay_24 ?_
    refine zi_geti (pc := 25) hX dX10_unsay_25 fl_1398 ly_61 rfl ?_
    exact zi_ret (pc := 28) hX dX10_unsay_28 rfl rfl rfl rfl
theorem ct_Mo_unsay {w : et_W} (hw : et_Sane w) (g : et_G) : et_C w yX10_unsay (Cond.code yX10_unsay cX10_unsay 1 (some .int)) rm_Mo_unsay et_eI [.ref (et_ad w 61)] g (fn_Mo_unsay g) := et_mk hw (by decide) rfl rfl (fun X hX => zw_Mo_unsay hX g)
def rm_Mo_blanks : Room := { frames := 0, cells := 0, slots := 0, locals := 0 }
def fn_Mo_blanks_2 (x2 : Int32) : Nat → Int32 → et_G → Option (Int32 × et_G)
  | 0, _, _ => none
  | n + 1, x3, g =>
    if x2 ≤ x3 then
      some (x3, g)
    else
      et_ck (et_ib x3 800) (
      if (g.1 71 x3.toNatClampNeg) = (32 : Int32) then
        et_b (x3 + (1 : Int32)) (fun v1 =>
        fn_Mo_blanks_2 x2 n v1 g)
      else
        et_ck (et_ib x3 800) (
        if (g.1 71 x3.toNatClampNeg) = (10 : Int32) then
          et_b (x3 + (1 : Int32)) (fun v2 =>
          fn_Mo_blanks_2 x2 n v2 g)
        else
          some (x3, g)))
def fn_Mo_blanks (p1 : Int32) (p2 : Int32) (g : et_G) : Option (Int32 × et_G) :=
  fn_Mo_blanks_2 p2 1000000 p1 g
theorem zp_Mo_blanks_2 {X : et_X} {w : et_W} (hX : et_Gd X w cX10_blanks RX10 4 (some .int) [] rm_Mo_blanks) (x2 : Int32) : ∀ (n : Nat) (x3 : Int32) (g : et_G), et_Z X w 0 et_eI 2 [some (.ref (et_ad w 61)), none, some (.int x2), some (.int x3)] [] g (fn_Mo_blanks_2 x2 n x3 g) := by
  intro n
  induction n with
  | zero =>
    intro x3 g a g2 h
    cases h
  | succ n ih =>
    intro x3 g
    rw [fn_Mo_blanks_2]
    refine zi_iload3 (pc := 2) hX dX10_blanks_2 ?_
    refine zi_iload2 (pc := 3) hX dX10_blanks_3 ?_
    refine zi_icmp_ge (pc := 4) 35 hX dX10_blanks_4 (by decide) (fun _ => ?_) (fun _ => ?_)
    · refine zi_iload3 (pc := 35) hX dX10_blanks_35 ?_
      exact zi_ret (pc := 36) hX dX10_blanks_36 rfl rfl rfl rfl
    · refine zi_aload0 (pc := 7) hX dX10_blanks_7 ?_
      refine zi_getr (q := 71) (pc := 8) hX dX10_blanks_8 fl_1364 ly_61 rfl ?_
      refine zi_iload3 (pc := 11) hX dX10_blanks_11 ?_
      refine zi_iald (pc := 12) hX dX10_blanks_12 ly_71 ?_
      refine zi_bipush (pc := 13) hX dX10_blanks_13 kb_32 ?_
      refine zi_icmp_eq (pc := 15) 29 hX dX10_blanks_15 (by decide) (fun _ => ?_) (fun _ => ?_)
      · refine zi_iincb3 (pc := 29) hX dX10_blanks_29 (kn_1 _) rfl rfl (fun v1 => ?_)
        refine zi_goto (pc := 32) 2 hX dX10_blanks_32 (by decide) ?_
        exact ih v1 g
      · refine zi_aload0 (pc := 18) hX dX10_blanks_18 ?_
        refine zi_getr (q := 71) (pc := 19) hX dX10_blanks_19 fl_1364 ly_61 rfl ?_
        refine zi_iload3 (pc := 22) hX dX10_blanks_22 ?_
        refine zi_iald (pc := 23) hX dX10_blanks_23 ly_71 ?_
        refine zi_bipush (pc := 24) hX dX10_blanks_24 kb_10 ?_
        refine zi_icmp_ne (pc := 26) 35 hX dX10_blanks_26 (by decide) (fun _ => ?_) (fun _ => ?_)
        · refine zi_iincb3 (pc := 29) hX dX10_blanks_29 (kn_1 _) rfl rfl (fun v2 => ?_)
          refine zi_goto (pc := 32) 2 hX dX10_blanks_32 (by decide) ?_
          exact ih v2 g
        · refine zi_iload3 (pc := 35) hX dX10_blanks_35 ?_
          exact zi_ret (pc := 36) hX dX10_blanks_36 rfl rfl rfl rfl
theorem zw_Mo_blanks {X : et_X} {w : et_W} (hX : et_Gd X w cX10_blanks RX10 4 (some .int) [] rm_Mo_blanks) (p1 : Int32) (p2 : Int32) (g : et_G) : et_Z X w 0 et_eI 0 [some (.ref (et_ad w 61)), some (.int p1), some (.int p2), none] [] g (fn_Mo_blanks p1 p2 g) := by
  unfold fn_Mo_blanks
  refine zi_iload1 (pc := 0) hX dX10_blanks_0 ?_
  refine zi_istore3 (pc := 1) hX dX10_blanks_1 rfl rfl ?_
  refine zi_drop (le_s (le_n (le_s (le_s le_nil)))) ?_; exact zp_Mo_blanks_2 hX p2 1000000 p1 g
theorem ct_Mo_blanks {w : et_W} (hw : et_Sane w) (p1 : Int32) (p2 : Int32) (g : et_G) : et_C w yX10_blanks (Cond.code yX10_blanks cX10_blanks 4 (some .int)) rm_Mo_blanks et_eI [.ref (et_ad w 61), .int p1, .int p2] g (fn_Mo_blanks p1 p2 g) := et_mk hw (by decide) rfl rfl (fun X hX => zw_Mo_blanks hX p1 p2 g)
def rm_Mo_isLetter : Room := { frames := 0, cells := 0, slots := 0, locals := 0 }
def fn_Mo_isLetter (p0 : Int32) (g : et_G) : Option (Int32 × et_G) :=
  if p0 < (97 : Int32) then
    some ((0 : Int32), g)
  else
    if (122 : Int32) < p0 then
      some ((0 : Int32), g)
    else
      some ((1 : Int32), g)
theorem zw_Mo_isLetter {X : et_X} {w : et_W} (hX : et_Gd X w cX10_isLetter RX10 1 (some .boolean) [] rm_Mo_isLetter) (p0 : Int32) (g : et_G) : et_Z X w 0 et_eI 0 [some (.int p0)] [] g (fn_Mo_isLetter p0 g) := by
  unfold fn_Mo_isLetter
  refine zi_iload0 (pc := 0) hX dX10_isLetter_0 ?_
  refine zi_bipush (pc := 1) hX dX10_isLetter_1 kb_97 ?_
  refine zi_icmp_lt (pc := 3) 16 hX dX10_isLetter_3 (by decide) (fun _ => ?_) (fun _ => ?_)
  · refine zi_iconst (pc := 16) hX dX10_isLetter_16 ki_0 ?_
    exact zi_ret (pc := 17) hX dX10_isLetter_17 et_z0 rfl rfl rfl
  · refine zi_iload0 (pc := 6) hX dX10_isLetter_6 ?_
    refine zi_bipush (pc := 7) hX dX10_isLetter_7 kb_122 ?_
    refine zi_icmp_gt (pc := 9) 16 hX dX10_isLetter_9 (by decide) (fun _ => ?_) (fun _ => ?_)
    · refine zi_iconst (pc := 16) hX dX10_isLetter_16 ki_0 ?_
      exact zi_ret (pc := 17) hX dX10_isLetter_17 et_z0 rfl rfl rfl
    · refine zi_iconst (pc := 12) hX dX10_isLetter_12 ki_1 ?_
      refine zi_goto (pc := 13) 17 hX dX10_isLetter_13 (by decide) ?_
      exact zi_ret (pc := 17) hX dX10_isLetter_17 et_z1 rfl rfl rfl
theorem ct_Mo_isLetter {w : et_W} (hw : et_Sane w) (p0 : Int32) (g : et_G) : et_C w yX10_isLetter (Cond.code yX10_isLetter cX10_isLetter 1 (some .boolean)) rm_Mo_isLetter et_eI [.int p0] g (fn_Mo_isLetter p0 g) := et_mk hw (by decide) rfl rfl (fun X hX => zw_Mo_isLetter hX p0 g)
def rm_Mo_lettersTo : Room := { frames := 1, cells := 0, slots := 0, locals := 20 }
def fn_Mo_lettersTo_2 (x2 : Int32) : Nat → Int32 → et_G → Option (Int32 × et_G)
  | 0, _, _ => none
  | n + 1, x3, g =>
    if x2 ≤ x3 then
      some (x3, g)
    else
      et_ck (et_ib x3 800) (
      et_bd (fn_Mo_isLetter (g.1 71 x3.toNatClampNeg) g) (fun v1 g2 =>
      if v1 = 0 then
        some (x3, g2)
      else
        et_b (x3 + (1 : Int32)) (fun v3 =>
        fn_Mo_lettersTo_2 x2 n v3 g2)))
def fn_Mo_lettersTo (p1 : Int32) (p2 : Int32) (g : et_G) : Option (Int32 × et_G) :=
  fn_Mo_lettersTo_2 p2 1000000 p1 g
theorem zp_Mo_lettersTo_2 {X : et_X} {w : et_W} (hX : et_Gd X w cX10_lettersTo RX10 4 (some .int) [] rm_Mo_lettersTo) (x2 : Int32) : ∀ (n : Nat) (x3 : Int32) (g : et_G), et_Z X w 0 et_eI 2 [some (.ref (et_ad w 61)), none, some (.int x2), some (.int x3)] [] g (fn_Mo_lettersTo_2 x2 n x3 g) := by
  intro n
  induction n with
  | zero =>
    intro x3 g a g2 h
    cases h
  | succ n ih =>
    intro x3 g
    rw [fn_Mo_lettersTo_2]
    refine zi_iload3 (pc := 2) hX dX10_lettersTo_2 ?_
    refine zi_iload2 (pc := 3) hX dX10_lettersTo_3 ?_
    refine zi_icmp_ge (pc := 4) 25 hX dX10_lettersTo_4 (by decide) (fun _ => ?_) (fun _ => ?_)
    · refine zi_iload3 (pc := 25) hX dX10_lettersTo_25 ?_
      exact zi_ret (pc := 26) hX dX10_lettersTo_26 rfl rfl rfl rfl
    · refine zi_aload0 (pc := 7) hX dX10_lettersTo_7 ?_
      refine zi_getr (q := 71) (pc := 8) hX dX10_lettersTo_8 fl_1364 ly_61 rfl ?_
      refine zi_iload3 (pc := 11) hX dX10_lettersTo_11 ?_
      refine zi_iald (pc := 12) hX dX10_lettersTo_12 ly_71 ?_
      refine zi_callI (zc_stat (pc := 13) hX dX10_lettersTo_13 tm_1603 md_X10_isLetter st_X10_isLetter (ct_Mo_isLetter hX.sane (g.1 71 x3.toNatClampNeg) g) rfl rfl rfl) (fun v1 g2 => ?_)
      refine zi_if_eq (pc := 16) 25 hX dX10_lettersTo_16 (by decide) (fun _ => ?_) (fun _ => ?_)
      · refine zi_iload3 (pc := 25) hX dX10_lettersTo_25 ?_
        exact zi_ret (pc := 26) hX dX10_lettersTo_26 rfl rfl rfl rfl
      · refine zi_iincb3 (pc := 19) hX dX10_lettersTo_19 (kn_1 _) rfl rfl (fun v3 => ?_)
        refine zi_goto (pc := 22) 2 hX dX10_lettersTo_22 (by decide) ?_
        exact ih v3 g2
theorem zw_Mo_lettersTo {X : et_X} {w : et_W} (hX : et_Gd X w cX10_lettersTo RX10 4 (some .int) [] rm_Mo_lettersTo) (p1 : Int32) (p2 : Int32) (g : et_G) : et_Z X w 0 et_eI 0 [some (.ref (et_ad w 61)), some (.int p1), some (.int p2), none] [] g (fn_Mo_lettersTo p1 p2 g) := by
  unfold fn_Mo_lettersTo
  refine zi_iload1 (pc := 0) hX dX10_lettersTo_0 ?_
  refine zi_istore3 (pc := 1) hX dX10_lettersTo_1 rfl rfl ?_
  refine zi_drop (le_s (le_n (le_s (le_s le_nil)))) ?_; exact zp_Mo_lettersTo_2 hX p2 1000000 p1 g
theorem ct_Mo_lettersTo {w : et_W} (hw : et_Sane w) (p1 : Int32) (p2 : Int32) (g : et_G) : et_C w yX10_lettersTo (Cond.code yX10_lettersTo cX10_lettersTo 4 (some .int)) rm_Mo_lettersTo et_eI [.ref (et_ad w 61), .int p1, .int p2] g (fn_Mo_lettersTo p1 p2 g) := et_mk hw (by decide) rfl rfl (fun X hX => zw_Mo_lettersTo hX p1 p2 g)
def rm_Mo_copies_83_85 : Room := { frames := 0, cells := 0, slots := 0, locals := 0 }
def fn_Mo_copies_83_85_2 : Nat → Int32 → et_G → Option (Unit × et_G)
  | 0, _, _ => none
  | n + 1, x3, g =>
    if (180 : Int32) ≤ x3 then
      some ((), g)
    else
      et_ck (et_ib x3 180) (
      et_ck (et_ib x3 180) (et_b (et_si g 85 x3.toNatClampNeg (g.1 83 x3.toNatClampNeg)) (fun g1 =>
      et_b (x3 + (1 : Int32)) (fun v2 =>
      fn_Mo_copies_83_85_2 n v2 g1))))
def fn_Mo_copies_83_85 (g : et_G) : Option (Unit × et_G) :=
  fn_Mo_copies_83_85_2 1000000 (0 : Int32) g
theorem zp_Mo_copies_83_85_2 {X : et_X} {w : et_W} (hX : et_Gd X w cX10_copies RX10 4 (none) [] rm_Mo_copies_83_85) : ∀ (n : Nat) (x3 : Int32) (g : et_G), et_Z X w 0 et_eU 2 [none, some (.ref (et_ad w 83)), some (.ref (et_ad w 85)), some (.int x3)] [] g (fn_Mo_copies_83_85_2 n x3 g) := by
  intro n
  induction n with
  | zero =>
    intro x3 g a g2 h
    cases h
  | succ n ih =>
    intro x3 g
    rw [fn_Mo_copies_83_85_2]
    refine zi_iload3 (pc := 2) hX dX10_copies_2 ?_
    refine zi_aload1 (pc := 3) hX dX10_copies_3 ?_
    refine zi_alen (pc := 4) hX dX10_copies_4 ly_83 0 (et_t0 w) ka_180 ?_
    refine zi_icmp_ge (pc := 5) 20 hX dX10_copies_5 (by decide) (fun _ => ?_) (fun _ => ?_)
    · exact zi_vret (pc := 20) hX dX10_copies_20 rfl rfl rfl
    · refine zi_aload2 (pc := 8) hX dX10_copies_8 ?_
      refine zi_iload3 (pc := 9) hX dX10_copies_9 ?_
      refine zi_aload1 (pc := 10) hX dX10_copies_10 ?_
      refine zi_iload3 (pc := 11) hX dX10_copies_11 ?_
      refine zi_iald (pc := 12) hX dX10_copies_12 ly_83 ?_
      refine zi_iast (pc := 13) hX dX10_copies_13 ly_85 (zi_bg (fun g1 => ?_))
      refine zi_iincb3 (pc := 14) hX dX10_copies_14 (kn_1 _) rfl rfl (fun v2 => ?_)
      refine zi_goto (pc := 17) 2 hX dX10_copies_17 (by decide) ?_
      exact ih v2 g1
theorem zw_Mo_copies_83_85 {X : et_X} {w : et_W} (hX : et_Gd X w cX10_copies RX10 4 (none) [] rm_Mo_copies_83_85) (g : et_G) : et_Z X w 0 et_eU 0 [some (.ref (et_ad w 61)), some (.ref (et_ad w 83)), some (.ref (et_ad w 85)), none] [] g (fn_Mo_copies_83_85 g) := by
  unfold fn_Mo_copies_83_85
  refine zi_iconst (pc := 0) hX dX10_copies_0 ki_0 ?_
  refine zi_istore3 (pc := 1) hX dX10_copies_1 rfl rfl ?_
  refine zi_drop (le_n (le_s (le_s (le_s le_nil)))) ?_; exact zp_Mo_copies_83_85_2 hX 1000000 (0 : Int32) g
theorem ct_Mo_copies_83_85 {w : et_W} (hw : et_Sane w) (g : et_G) : et_C w yX10_copies (Cond.code yX10_copies cX10_copies 4 (none)) rm_Mo_copies_83_85 et_eU [.ref (et_ad w 61), .ref (et_ad w 83), .ref (et_ad w 85)] g (fn_Mo_copies_83_85 g) := et_mk hw (by decide) rfl rfl (fun X hX => zw_Mo_copies_83_85 hX g)
def rm_Mo_copies_85_83 : Room := { frames := 0, cells := 0, slots := 0, locals := 0 }
def fn_Mo_copies_85_83_2 : Nat → Int32 → et_G → Option (Unit × et_G)
  | 0, _, _ => none
  | n + 1, x3, g =>
    if (180 : Int32) ≤ x3 then
      some ((), g)
    else
      et_ck (et_ib x3 180) (
      et_ck (et_ib x3 180) (et_b (et_si g 83 x3.toNatClampNeg (g.1 85 x3.toNatClampNeg)) (fun g1 =>
      et_b (x3 + (1 : Int32)) (fun v2 =>
      fn_Mo_copies_85_83_2 n v2 g1))))
def fn_Mo_copies_85_83 (g : et_G) : Option (Unit × et_G) :=
  fn_Mo_copies_85_83_2 1000000 (0 : Int32) g
theorem zp_Mo_copies_85_83_2 {X : et_X} {w : et_W} (hX : et_Gd X w cX10_copies RX10 4 (none) [] rm_Mo_copies_85_83) : ∀ (n : Nat) (x3 : Int32) (g : et_G), et_Z X w 0 et_eU 2 [none, some (.ref (et_ad w 85)), some (.ref (et_ad w 83)), some (.int x3)] [] g (fn_Mo_copies_85_83_2 n x3 g) := by
  intro n
  induction n with
  | zero =>
    intro x3 g a g2 h
    cases h
  | succ n ih =>
    intro x3 g
    rw [fn_Mo_copies_85_83_2]
    refine zi_iload3 (pc := 2) hX dX10_copies_2 ?_
    refine zi_aload1 (pc := 3) hX dX10_copies_3 ?_
    refine zi_alen (pc := 4) hX dX10_copies_4 ly_85 0 (et_t0 w) ka_180 ?_
    refine zi_icmp_ge (pc := 5) 20 hX dX10_copies_5 (by decide) (fun _ => ?_) (fun _ => ?_)
    · exact zi_vret (pc := 20) hX dX10_copies_20 rfl rfl rfl
    · refine zi_aload2 (pc := 8) hX dX10_copies_8 ?_
      refine zi_iload3 (pc := 9) hX dX10_copies_9 ?_
      refine zi_aload1 (pc := 10) hX dX10_copies_10 ?_
      refine zi_iload3 (pc := 11) hX dX10_copies_11 ?_
      refine zi_iald (pc := 12) hX dX10_copies_12 ly_85 ?_
      refine zi_iast (pc := 13) hX dX10_copies_13 ly_83 (zi_bg (fun g1 => ?_))
      refine zi_iincb3 (pc := 14) hX dX10_copies_14 (kn_1 _) rfl rfl (fun v2 => ?_)
      refine zi_goto (pc := 17) 2 hX dX10_copies_17 (by decide) ?_
      exact ih v2 g1
theorem zw_Mo_copies_85_83 {X : et_X} {w : et_W} (hX : et_Gd X w cX10_copies RX10 4 (none) [] rm_Mo_copies_85_83) (g : et_G) : et_Z X w 0 et_eU 0 [some (.ref (et_ad w 61)), some (.ref (et_ad w 85)), some (.ref (et_ad w 83)), none] [] g (fn_Mo_copies_85_83 g) := by
  unfold fn_Mo_copies_85_83
  refine zi_iconst (pc := 0) hX dX10_copies_0 ki_0 ?_
  refine zi_istore3 (pc := 1) hX dX10_copies_1 rfl rfl ?_
  refine zi_drop (le_n (le_s (le_s (le_s le_nil)))) ?_; exact zp_Mo_copies_85_83_2 hX 1000000 (0 : Int32) g
theorem ct_Mo_copies_85_83 {w : et_W} (hw : et_Sane w) (g : et_G) : et_C w yX10_copies (Cond.code yX10_copies cX10_copies 4 (none)) rm_Mo_copies_85_83 et_eU [.ref (et_ad w 61), .ref (et_ad w 85), .ref (et_ad w 83)] g (fn_Mo_copies_85_83 g) := et_mk hw (by decide) rfl rfl (fun X hX => zw_Mo_copies_85_83 hX g)
def rm_Mo_isNot : Room := { frames := 0, cells := 0, slots := 0, locals := 0 }
def fn_Mo_isNot_25 (x1 : Int32) : Nat → Int32 → et_G → Option (Int32 × et_G)
  | 0, _, _ => none
  | n + 1, x3, g =>
    et_ck (et_ib (0 : Int32) 9) (
    if (g.1 65 (0 : Int32).toNatClampNeg) ≤ x3 then
      some ((1 : Int32), g)
    else
      et_ck (et_ib (x1 + x3) 800) (
      et_ck (et_ib ((1 : Int32) + x3) 9) (
      if (g.1 71 (x1 + x3).toNatClampNeg) = (g.1 65 ((1 : Int32) + x3).toNatClampNeg) then
        et_b (x3 + (1 : Int32)) (fun v1 =>
        fn_Mo_isNot_25 x1 n v1 g)
      else
        some ((0 : Int32), g))))
def fn_Mo_isNot (p1 : Int32) (p2 : Int32) (g : et_G) : Option (Int32 × et_G) :=
  et_ck (et_ib (0 : Int32) 9) (
  if (g.1 65 (0 : Int32).toNatClampNeg) = 0 then
    some ((0 : Int32), g)
  else
    et_ck (et_ib (0 : Int32) 9) (
    if (p2 - p1) = (g.1 65 (0 : Int32).toNatClampNeg) then
      fn_Mo_isNot_25 p1 1000000 (0 : Int32) g
    else
      some ((0 : Int32), g)))
theorem zp_Mo_isNot_25 {X : et_X} {w : et_W} (hX : et_Gd X w cX10_isNot RX10 4 (some .boolean) [] rm_Mo_isNot) (x1 : Int32) : ∀ (n : Nat) (x3 : Int32) (g : et_G), et_Z X w 0 et_eI 25 [some (.ref (et_ad w 61)), some (.int x1), none, some (.int x3)] [] g (fn_Mo_isNot_25 x1 n x3 g) := by
  intro n
  induction n with
  | zero =>
    intro x3 g a g2 h
    cases h
  | succ n ih =>
    intro x3 g
    rw [fn_Mo_isNot_25]
    refine zi_iload3 (pc := 25) hX dX10_isNot_25 ?_
    refine zi_aload0 (pc := 26) hX dX10_isNot_26 ?_
    refine zi_getr (q := 65) (pc := 27) hX dX10_isNot_27 fl_1358 ly_61 rfl ?_
    refine zi_iconst (pc := 30) hX dX10_isNot_30 ki_0 ?_
    refine zi_iald (pc := 31) hX dX10_isNot_31 ly_65 ?_
    refine zi_icmp_ge (pc := 32) 62 hX dX10_isNot_32 (by decide) (fun _ => ?_) (fun _ => ?_)
    · refine zi_iconst (pc := 62) hX dX10_isNot_62 ki_1 ?_
      exact zi_ret (pc := 63) hX dX10_isNot_63 et_z1 rfl rfl rfl
    · refine zi_aload0 (pc := 35) hX dX10_isNot_35 ?_
      refine zi_getr (q := 71) (pc := 36) hX dX10_isNot_36 fl_1364 ly_61 rfl ?_
      refine zi_iload1 (pc := 39) hX dX10_isNot_39 ?_
      refine zi_iload3 (pc := 40) hX dX10_isNot_40 ?_
      refine zi_iadd (pc := 41) hX dX10_isNot_41 ?_
      refine zi_iald (pc := 42) hX dX10_isNot_42 ly_71 ?_
      refine zi_aload0 (pc := 43) hX dX10_isNot_43 ?_
      refine zi_getr (q := 65) (pc := 44) hX dX10_isNot_44 fl_1358 ly_61 rfl ?_
      refine zi_iconst (pc := 47) hX dX10_isNot_47 ki_1 ?_
      refine zi_iload3 (pc := 48) hX dX10_isNot_48 ?_
      refine zi_iadd (pc := 49) hX dX10_isNot_49 ?_
      refine zi_iald (pc := 50) hX dX10_isNot_50 ly_65 ?_
      refine zi_icmp_eq (pc := 51) 56 hX dX10_isNot_51 (by decide) (fun _ => ?_) (fun _ => ?_)
      · refine zi_iincb3 (pc := 56) hX dX10_isNot_56 (kn_1 _) rfl rfl (fun v1 => ?_)
        refine zi_goto (pc := 59) 25 hX dX10_isNot_59 (by decide) ?_
        exact ih v1 g
      · refine zi_iconst (pc := 54) hX dX10_isNot_54 ki_0 ?_
        exact zi_ret (pc := 55) hX dX10_isNot_55 et_z0 rfl rfl rfl
theorem zw_Mo_isNot {X : et_X} {w : et_W} (hX : et_Gd X w cX10_isNot RX10 4 (some .boolean) [] rm_Mo_isNot) (p1 : Int32) (p2 : Int32) (g : et_G) : et_Z X w 0 et_eI 0 [some (.ref (et_ad w 61)), some (.int p1), some (.int p2), none] [] g (fn_Mo_isNot p1 p2 g) := by
  unfold fn_Mo_isNot
  refine zi_aload0 (pc := 0) hX dX10_isNot_0 ?_
  refine zi_getr (q := 65) (pc := 1) hX dX10_isNot_1 fl_1358 ly_61 rfl ?_
  refine zi_iconst (pc := 4) hX dX10_isNot_4 ki_0 ?_
  refine zi_iald (pc := 5) hX dX10_isNot_5 ly_65 ?_
  refine zi_if_eq (pc := 6) 21 hX dX10_isNot_6 (by decide) (fun _ => ?_) (fun _ => ?_)
  · refine zi_iconst (pc := 21) hX dX10_isNot_21 ki_0 ?_
    exact zi_ret (pc := 22) hX dX10_isNot_22 et_z0 rfl rfl rfl
  · refine zi_iload2 (pc := 9) hX dX10_isNot_9 ?_
    refine zi_iload1 (pc := 10) hX dX10_isNot_10 ?_
    refine zi_isub (pc := 11) hX dX10_isNot_11 ?_
    refine zi_aload0 (pc := 12) hX dX10_isNot_12 ?_
    refine zi_getr (q := 65) (pc := 13) hX dX10_isNot_13 fl_1358 ly_61 rfl ?_
    refine zi_iconst (pc := 16) hX dX10_isNot_16 ki_0 ?_
    refine zi_iald (pc := 17) hX dX10_isNot_17 ly_65 ?_
    refine zi_icmp_eq (pc := 18) 23 hX dX10_isNot_18 (by decide) (fun _ => ?_) (fun _ => ?_)
    · refine zi_iconst (pc := 23) hX dX10_isNot_23 ki_0 ?_
      refine zi_istore3 (pc := 24) hX dX10_isNot_24 rfl rfl ?_
      refine zi_drop (le_s (le_s (le_n (le_s le_nil)))) ?_; exact zp_Mo_isNot_25 hX p1 1000000 (0 : Int32) g
    · refine zi_iconst (pc := 21) hX dX10_isNot_21 ki_0 ?_
      exact zi_ret (pc := 22) hX dX10_isNot_22 et_z0 rfl rfl rfl
theorem ct_Mo_isNot {w : et_W} (hw : et_Sane w) (p1 : Int32) (p2 : Int32) (g : et_G) : et_C w yX10_isNot (Cond.code yX10_isNot cX10_isNot 4 (some .boolean)) rm_Mo_isNot et_eI [.ref (et_ad w 61), .int p1, .int p2] g (fn_Mo_isNot p1 p2 g) := et_mk hw (by decide) rfl rfl (fun X hX => zw_Mo_isNot hX p1 p2 g)
def rm_Mo_utter : Room := { frames := 3, cells := 0, slots := 0, locals := 76 }
def fn_Mo_utter_144 (g : et_G) : Option (Int32 × et_G) :=
  et_bd (fn_Mo_refuses (1 : Int32) g) (fun v15 g16 =>
  some (v15, g16))
def fn_Mo_utter_244 (g : et_G) : Option (Int32 × et_G) :=
  et_bd (fn_Mo_refuses (1 : Int32) g) (fun v29 g30 =>
  some (v29, g30))
def fn_Mo_utter_308 (g : et_G) : Option (Int32 × et_G) :=
  et_bd (fn_Mo_refuses (1 : Int32) g) (fun v31 g32 =>
  some (v31, g32))
def fn_Mo_utter_298 (s0 : Int32) (s1 : Int32) (s2 : Int32) (s3 : Int32) (s4 : Int32) (g : et_G) : Option (Int32 × et_G) :=
  et_bd (fn_Mo_adds5 s4 s3 s2 s1 s0 g) (fun v34 g35 =>
  some (v34, g35))
def fn_Mo_utter_279 (x1 : Int32) (x2 : Int32) (x8 : Int32) (x11 : Int32) (x12 : Int32) (g : et_G) : Option (Int32 × et_G) :=
  if x8 = 0 then
    fn_Mo_utter_298 (0 : Int32) (x11 - x11 / (5 : Int32) * (5 : Int32)) x12 x2 x1 g
  else
    fn_Mo_utter_298 (1 : Int32) (x11 - x11 / (5 : Int32) * (5 : Int32)) x12 x2 x1 g
def fn_Mo_utter_253 (x1 : Int32) (x2 : Int32) (x8 : Int32) (x11 : Int32) : Nat → Int32 → et_G → Option (Int32 × et_G)
  | 0, _, _ => none
  | n + 1, x12, g =>
    if (g.1 61 5) ≤ x12 then
      fn_Mo_utter_308 g
    else
      et_ck (et_ib ((5 : Int32) * x12) 40) (
      if (g.1 66 ((5 : Int32) * x12).toNatClampNeg) = (x11 / (15 : Int32)) then
        fn_Mo_utter_279 x1 x2 x8 x11 x12 g
      else
        et_b (x12 + (1 : Int32)) (fun v33 =>
        fn_Mo_utter_253 x1 x2 x8 x11 n v33 g))
def fn_Mo_utter_193 (x1 : Int32) (x2 : Int32) (x8 : Int32) (x9 : Int32) (s0 : Int32) (s1 : Int32) (g : et_G) : Option (Int32 × et_G) :=
  et_bd (fn_Mo_finds s1 s0 g) (fun _ g23 =>
  et_b (g23.1 61 49) (fun v24 =>
  et_ck (et_ib (0 : Int32) 180) (
  et_b (g23.1 83 (0 : Int32).toNatClampNeg) (fun v25 =>
  et_b (et_si g23 61 49 x9) (fun g26 =>
  et_bd (fn_Mo_copies_85_83 g26) (fun _ g28 =>
  if v24 = (1 : Int32) then
    if ((v25 / (5 : Int32)) - (v25 / (5 : Int32)) / (3 : Int32) * (3 : Int32)) = (2 : Int32) then
      fn_Mo_utter_253 x1 x2 x8 v25 1000000 (0 : Int32) g28
    else
      fn_Mo_utter_244 g28
  else
    fn_Mo_utter_244 g28))))))
def fn_Mo_utter_181 (x1 : Int32) (x2 : Int32) (x5 : Int32) (x7 : Int32) (x8 : Int32) (x9 : Int32) (s0 : Int32) (g : et_G) : Option (Int32 × et_G) :=
  if x8 = 0 then
    fn_Mo_utter_193 x1 x2 x8 x9 x5 s0 g
  else
    fn_Mo_utter_193 x1 x2 x8 x9 x7 s0 g
def fn_Mo_utter_150 (x1 : Int32) (x2 : Int32) (x4 : Int32) (x5 : Int32) (x6 : Int32) (x7 : Int32) (x8 : Int32) (g : et_G) : Option (Int32 × et_G) :=
  et_b (g.1 61 49) (fun v19 =>
  et_bd (fn_Mo_copies_83_85 g) (fun _ g21 =>
  if x8 = 0 then
    fn_Mo_utter_181 x1 x2 x5 x7 x8 v19 x4 g21
  else
    fn_Mo_utter_181 x1 x2 x5 x7 x8 v19 x6 g21))
def fn_Mo_utter_108 (x1 : Int32) (x2 : Int32) (x3 : Int32) (x4 : Int32) (x5 : Int32) (x6 : Int32) (x7 : Int32) (s0 : Int32) (g : et_G) : Option (Int32 × et_G) :=
  if x5 = x4 then
    fn_Mo_utter_144 g
  else
    et_bd (fn_Mo_blanks x7 x3 g) (fun v17 g18 =>
    if v17 < x3 then
      fn_Mo_utter_144 g18
    else
      if s0 = 0 then
        fn_Mo_utter_150 x1 x2 x4 x5 x6 x7 s0 g18
      else
        et_bd (fn_Mo_isNot x4 x5 g18) (fun v36 g37 =>
        if v36 = 0 then
          fn_Mo_utter_144 g37
        else
          fn_Mo_utter_150 x1 x2 x4 x5 x6 x7 s0 g37))
def fn_Mo_utter_32 (x1 : Int32) (x2 : Int32) (x3 : Int32) (s0 : Int32) (g : et_G) : Option (Int32 × et_G) :=
  et_bd (fn_Mo_right s0 (2 : Int32) g) (fun v4 g5 =>
  if v4 = 0 then
    some ((0 : Int32), g5)
  else
    et_b (et_si g5 61 17 (0 : Int32)) (fun g6 =>
    if (g6.1 61 50) = (20 : Int32) then
      et_bd (fn_Mo_refuses (1 : Int32) g6) (fun v38 g39 =>
      some (v38, g39))
    else
      et_bd (fn_Mo_blanks (0 : Int32) x3 g6) (fun v7 g8 =>
      et_bd (fn_Mo_lettersTo v7 x3 g8) (fun v9 g10 =>
      et_bd (fn_Mo_blanks v9 x3 g10) (fun v11 g12 =>
      et_bd (fn_Mo_lettersTo v11 x3 g12) (fun v13 g14 =>
      if v13 ≤ v11 then
        fn_Mo_utter_108 x1 x2 x3 v7 v9 v11 v13 (0 : Int32) g14
      else
        fn_Mo_utter_108 x1 x2 x3 v7 v9 v11 v13 (1 : Int32) g14))))))
def fn_Mo_utter_31 (x1 : Int32) (x2 : Int32) (x3 : Int32) (g : et_G) : Option (Int32 × et_G) :=
  fn_Mo_utter_32 x1 x2 x3 (0 : Int32) g
def fn_Mo_utter (p1 : Int32) (p2 : Int32) (p3 : Int32) (g : et_G) : Option (Int32 × et_G) :=
  et_b (et_si g 61 0 (0 : Int32)) (fun g1 =>
  et_bd (fn_Mo_isWho p1 p2 g1) (fun v2 g3 =>
  if v2 = 0 then
    some ((0 : Int32), g3)
  else
    if p3 < 0 then
      fn_Mo_utter_31 p1 p2 p3 g3
    else
      if (g3.1 61 17) < p3 then
        fn_Mo_utter_31 p1 p2 p3 g3
      else
        fn_Mo_utter_32 p1 p2 p3 (1 : Int32) g3))
theorem zp_Mo_utter_144 {X : et_X} {w : et_W} (hX : et_Gd X w cX10_utter RX10 13 (some .int) [] rm_Mo_utter) (g : et_G) : et_Z X w 0 et_eI 144 [some (.ref (et_ad w 61)), none, none, none, none, none, none, none, none, none, none, none, none] [] g (fn_Mo_utter_144 g) := by
  unfold fn_Mo_utter_144
  refine zi_aload0 (pc := 144) hX dX10_utter_144 ?_
  refine zi_iconst (pc := 145) hX dX10_utter_145 ki_1 ?_
  refine zi_callI (zc_virt (pc := 146) hX dX10_utter_146 tm_1741 md_X10_refuses mi_X10_refuses ly_61 (ct_Mo_refuses hX.sane (1 : Int32) g) rfl rfl rfl) (fun v15 g16 => ?_)
  exact zi_ret (pc := 149) hX dX10_utter_149 rfl rfl rfl rfl
theorem zp_Mo_utter_244 {X : et_X} {w : et_W} (hX : et_Gd X w cX10_utter RX10 13 (some .int) [] rm_Mo_utter) (g : et_G) : et_Z X w 0 et_eI 244 [some (.ref (et_ad w 61)), none, none, none, none, none, none, none, none, none, none, none, none] [] g (fn_Mo_utter_244 g) := by
  unfold fn_Mo_utter_244
  refine zi_aload0 (pc := 244) hX dX10_utter_244 ?_
  refine zi_iconst (pc := 245) hX dX10_utter_245 ki_1 ?_
  refine zi_callI (zc_virt (pc := 246) hX dX10_utter_246 tm_1741 md_X10_refuses mi_X10_refuses ly_61 (ct_Mo_refuses hX.sane (1 : Int32) g) rfl rfl rfl) (fun v29 g30 => ?_)
  exact zi_ret (pc := 249) hX dX10_utter_249 rfl rfl rfl rfl
theorem zp_Mo_utter_308 {X : et_X} {w : et_W} (hX : et_Gd X w cX10_utter RX10 13 (some .int) [] rm_Mo_utter) (g : et_G) : et_Z X w 0 et_eI 308 [some (.ref (et_ad w 61)), none, none, none, none, none, none, none, none, none, none, none, none] [] g (fn_Mo_utter_308 g) := by
  unfold fn_Mo_utter_308
  refine zi_aload0 (pc := 308) hX dX10_utter_308 ?_
  refine zi_iconst (pc := 309) hX dX10_utter_309 ki_1 ?_
  refine zi_callI (zc_virt (pc := 310) hX dX10_utter_310 tm_1741 md_X10_refuses mi_X10_refuses ly_61 (ct_Mo_refuses hX.sane (1 : Int32) g) rfl rfl rfl) (fun v31 g32 => ?_)
  exact zi_ret (pc := 313) hX dX10_utter_313 rfl rfl rfl rfl
theorem zp_Mo_utter_298 {X : et_X} {w : et_W} (hX : et_Gd X w cX10_utter RX10 13 (some .int) [] rm_Mo_utter) (s0 : Int32) (s1 : Int32) (s2 : Int32) (s3 : Int32) (s4 : Int32) (g : et_G) : et_Z X w 0 et_eI 298 [none, none, none, none, none, none, none, none, none, none, none, none, none] [.int s0, .int s1, .int s2, .int s3, .int s4, .ref (et_ad w 61)] g (fn_Mo_utter_298 s0 s1 s2 s3 s4 g) := by
  unfold fn_Mo_utter_298
  refine zi_callI (zc_virt (pc := 298) hX dX10_utter_298 tm_1745 md_X10_adds5 mi_X10_adds5 ly_61 (ct_Mo_adds5 hX.sane s4 s3 s2 s1 s0 g) rfl rfl rfl) (fun v34 g35 => ?_)
  exact zi_ret (pc := 301) hX dX10_utter_301 rfl rfl rfl rfl
theorem zp_Mo_utter_279 {X : et_X} {w : et_W} (hX : et_Gd X w cX10_utter RX10 13 (some .int) [] rm_Mo_utter) (x1 : Int32) (x2 : Int32) (x8 : Int32) (x11 : Int32) (x12 : Int32) (g : et_G) : et_Z X w 0 et_eI 279 [some (.ref (et_ad w 61)), some (.int x1), some (.int x2), none, none, none, none, none, some (.int x8), none, none, some (.int x11), some (.int x12)] [] g (fn_Mo_utter_279 x1 x2 x8 x11 x12 g) := by
  unfold fn_Mo_utter_279
  refine zi_aload0 (pc := 279) hX dX10_utter_279 ?_
  refine zi_iload1 (pc := 280) hX dX10_utter_280 ?_
  refine zi_iload2 (pc := 281) hX dX10_utter_281 ?_
  refine zi_iload12 (pc := 282) hX dX10_utter_282 ?_
  refine zi_iload11 (pc := 284) hX dX10_utter_284 ?_
  refine zi_iconst (pc := 286) hX dX10_utter_286 ki_5 ?_
  refine zi_irem (pc := 287) hX dX10_utter_287 (by decide) ?_
  refine zi_iload8 (pc := 288) hX dX10_utter_288 ?_
  refine zi_if_eq (pc := 290) 297 hX dX10_utter_290 (by decide) (fun _ => ?_) (fun _ => ?_)
  · refine zi_iconst (pc := 297) hX dX10_utter_297 ki_0 ?_
    refine zi_drop (le_n (le_n (le_n (le_s (le_s (le_s (le_s (le_s (le_n (le_s (le_s (le_n (le_n le_nil))))))))))))) ?_; exact zp_Mo_utter_298 hX (0 : Int32) (x11 - x11 / (5 : Int32) * (5 : Int32)) x12 x2 x1 g
  · refine zi_iconst (pc := 293) hX dX10_utter_293 ki_1 ?_
    refine zi_goto (pc := 294) 298 hX dX10_utter_294 (by decide) ?_
    refine zi_drop (le_n (le_n (le_n (le_s (le_s (le_s (le_s (le_s (le_n (le_s (le_s (le_n (le_n le_nil))))))))))))) ?_; exact zp_Mo_utter_298 hX (1 : Int32) (x11 - x11 / (5 : Int32) * (5 : Int32)) x12 x2 x1 g
theorem zp_Mo_utter_253 {X : et_X} {w : et_W} (hX : et_Gd X w cX10_utter RX10 13 (some .int) [] rm_Mo_utter) (x1 : Int32) (x2 : Int32) (x8 : Int32) (x11 : Int32) : ∀ (n : Nat) (x12 : Int32) (g : et_G), et_Z X w 0 et_eI 253 [some (.ref (et_ad w 61)), some (.int x1), some (.int x2), none, none, none, none, none, some (.int x8), none, none, some (.int x11), some (.int x12)] [] g (fn_Mo_utter_253 x1 x2 x8 x11 n x12 g) := by
  intro n
  induction n with
  | zero =>
    intro x12 g a g2 h
    cases h
  | succ n ih =>
    intro x12 g
    rw [fn_Mo_utter_253]
    refine zi_iload12 (pc := 253) hX dX10_utter_253 ?_
    refine zi_aload0 (pc := 255) hX dX10_utter_255 ?_
    refine zi_geti (pc := 256) hX dX10_utter_256 fl_1353 ly_61 rfl ?_
    refine zi_icmp_ge (pc := 259) 308 hX dX10_utter_259 (by decide) (fun _ => ?_) (fun _ => ?_)
    · refine zi_drop (le_s (le_n (le_n (le_s (le_s (le_s (le_s (le_s (le_n (le_s (le_s (le_n (le_n le_nil))))))))))))) ?_; exact zp_Mo_utter_308 hX g
    · refine zi_aload0 (pc := 262) hX dX10_utter_262 ?_
      refine zi_getr (q := 66) (pc := 263) hX dX10_utter_263 fl_1359 ly_61 rfl ?_
      refine zi_iconst (pc := 266) hX dX10_utter_266 ki_5 ?_
      refine zi_iload12 (pc := 267) hX dX10_utter_267 ?_
      refine zi_imul (pc := 269) hX dX10_utter_269 ?_
      refine zi_iald (pc := 270) hX dX10_utter_270 ly_66 ?_
      refine zi_iload11 (pc := 271) hX dX10_utter_271 ?_
      refine zi_bipush (pc := 273) hX dX10_utter_273 kb_15 ?_
      refine zi_idiv (pc := 275) hX dX10_utter_275 (by decide) ?_
      refine zi_icmp_ne (pc := 276) 302 hX dX10_utter_276 (by decide) (fun _ => ?_) (fun _ => ?_)
      · exact zp_Mo_utter_279 hX x1 x2 x8 x11 x12 g
      · refine zi_iincb12 (pc := 302) hX dX10_utter_302 (kn_1 _) rfl rfl (fun v33 => ?_)
        refine zi_goto (pc := 305) 253 hX dX10_utter_305 (by decide) ?_
        exact ih v33 g
theorem zp_Mo_utter_193 {X : et_X} {w : et_W} (hX : et_Gd X w cX10_utter RX10 13 (some .int) [] rm_Mo_utter) (x1 : Int32) (x2 : Int32) (x8 : Int32) (x9 : Int32) (s0 : Int32) (s1 : Int32) (g : et_G) : et_Z X w 0 et_eI 193 [some (.ref (et_ad w 61)), some (.int x1), some (.int x2), none, none, none, none, none, some (.int x8), some (.int x9), none, none, none] [.int s0, .int s1, .ref (et_ad w 61)] g (fn_Mo_utter_193 x1 x2 x8 x9 s0 s1 g) := by
  unfold fn_Mo_utter_193
  refine zi_callU (zc_virt (pc := 193) hX dX10_utter_193 tm_1729 md_X10_finds mi_X10_finds ly_61 (ct_Mo_finds hX.sane s1 s0 g) rfl rfl rfl) (fun g23 => ?_)
  refine zi_aload0 (pc := 196) hX dX10_utter_196 ?_
  refine zi_geti (pc := 197) hX dX10_utter_197 fl_1397 ly_61 rfl ?_
  refine zi_bi (fun v24 => ?_)
  refine zi_istore10 (pc := 200) hX dX10_utter_200 rfl rfl ?_
  refine zi_aload0 (pc := 202) hX dX10_utter_202 ?_
  refine zi_getr (q := 83) (pc := 203) hX dX10_utter_203 fl_1395 ly_61 rfl ?_
  refine zi_iconst (pc := 206) hX dX10_utter_206 ki_0 ?_
  refine zi_iald (pc := 207) hX dX10_utter_207 ly_83 ?_
  refine zi_bi (fun v25 => ?_)
  refine zi_istore11 (pc := 208) hX dX10_utter_208 rfl rfl ?_
  refine zi_aload0 (pc := 210) hX dX10_utter_210 ?_
  refine zi_iload9 (pc := 211) hX dX10_utter_211 ?_
  refine zi_puti (pc := 213) hX dX10_utter_213 fl_1397 ly_61 rfl rfl rfl (zi_bg (fun g26 => ?_))
  refine zi_aload0 (pc := 216) hX dX10_utter_216 ?_
  refine zi_aload0 (pc := 217) hX dX10_utter_217 ?_
  refine zi_getr (q := 85) (pc := 218) hX dX10_utter_218 fl_1400 ly_61 rfl ?_
  refine zi_aload0 (pc := 221) hX dX10_utter_221 ?_
  refine zi_getr (q := 83) (pc := 222) hX dX10_utter_222 fl_1395 ly_61 rfl ?_
  refine zi_callU (zc_virt (pc := 225) hX dX10_utter_225 tm_1671 md_X10_copies mi_X10_copies ly_61 (ct_Mo_copies_85_83 hX.sane g26) rfl rfl rfl) (fun g28 => ?_)
  refine zi_iload10 (pc := 228) hX dX10_utter_228 ?_
  refine zi_iconst (pc := 230) hX dX10_utter_230 ki_1 ?_
  refine zi_icmp_ne (pc := 231) 244 hX dX10_utter_231 (by decide) (fun _ => ?_) (fun _ => ?_)
  · refine zi_iload11 (pc := 234) hX dX10_utter_234 ?_
    refine zi_iconst (pc := 236) hX dX10_utter_236 ki_5 ?_
    refine zi_idiv (pc := 237) hX dX10_utter_237 (by decide) ?_
    refine zi_iconst (pc := 238) hX dX10_utter_238 ki_3 ?_
    refine zi_irem (pc := 239) hX dX10_utter_239 (by decide) ?_
    refine zi_iconst (pc := 240) hX dX10_utter_240 ki_2 ?_
    refine zi_icmp_eq (pc := 241) 250 hX dX10_utter_241 (by decide) (fun _ => ?_) (fun _ => ?_)
    · refine zi_iconst (pc := 250) hX dX10_utter_250 ki_0 ?_
      refine zi_istore12 (pc := 251) hX dX10_utter_251 rfl rfl ?_
      refine zi_drop (le_s (le_s (le_s (le_s (le_s (le_s (le_s (le_s (le_s (le_n (le_n (le_s (le_s le_nil))))))))))))) ?_; exact zp_Mo_utter_253 hX x1 x2 x8 v25 1000000 (0 : Int32) g28
    · refine zi_drop (le_s (le_n (le_n (le_s (le_s (le_s (le_s (le_s (le_n (le_n (le_n (le_n (le_s le_nil))))))))))))) ?_; exact zp_Mo_utter_244 hX g28
  · refine zi_drop (le_s (le_n (le_n (le_s (le_s (le_s (le_s (le_s (le_n (le_n (le_n (le_n (le_s le_nil))))))))))))) ?_; exact zp_Mo_utter_244 hX g28
theorem zp_Mo_utter_181 {X : et_X} {w : et_W} (hX : et_Gd X w cX10_utter RX10 13 (some .int) [] rm_Mo_utter) (x1 : Int32) (x2 : Int32) (x5 : Int32) (x7 : Int32) (x8 : Int32) (x9 : Int32) (s0 : Int32) (g : et_G) : et_Z X w 0 et_eI 181 [some (.ref (et_ad w 61)), some (.int x1), some (.int x2), none, none, some (.int x5), none, some (.int x7), some (.int x8), some (.int x9), none, none, none] [.int s0, .ref (et_ad w 61)] g (fn_Mo_utter_181 x1 x2 x5 x7 x8 x9 s0 g) := by
  unfold fn_Mo_utter_181
  refine zi_iload8 (pc := 181) hX dX10_utter_181 ?_
  refine zi_if_eq (pc := 183) 191 hX dX10_utter_183 (by decide) (fun _ => ?_) (fun _ => ?_)
  · refine zi_iload5 (pc := 191) hX dX10_utter_191 ?_
    refine zi_drop (le_s (le_s (le_s (le_s (le_s (le_n (le_s (le_n (le_s (le_s (le_s (le_s (le_s le_nil))))))))))))) ?_; exact zp_Mo_utter_193 hX x1 x2 x8 x9 x5 s0 g
  · refine zi_iload7 (pc := 186) hX dX10_utter_186 ?_
    refine zi_goto (pc := 188) 193 hX dX10_utter_188 (by decide) ?_
    refine zi_drop (le_s (le_s (le_s (le_s (le_s (le_n (le_s (le_n (le_s (le_s (le_s (le_s (le_s le_nil))))))))))))) ?_; exact zp_Mo_utter_193 hX x1 x2 x8 x9 x7 s0 g
theorem zp_Mo_utter_150 {X : et_X} {w : et_W} (hX : et_Gd X w cX10_utter RX10 13 (some .int) [] rm_Mo_utter) (x1 : Int32) (x2 : Int32) (x4 : Int32) (x5 : Int32) (x6 : Int32) (x7 : Int32) (x8 : Int32) (g : et_G) : et_Z X w 0 et_eI 150 [some (.ref (et_ad w 61)), some (.int x1), some (.int x2), none, some (.int x4), some (.int x5), some (.int x6), some (.int x7), some (.int x8), none, none, none, none] [] g (fn_Mo_utter_150 x1 x2 x4 x5 x6 x7 x8 g) := by
  unfold fn_Mo_utter_150
  refine zi_aload0 (pc := 150) hX dX10_utter_150 ?_
  refine zi_geti (pc := 151) hX dX10_utter_151 fl_1397 ly_61 rfl ?_
  refine zi_bi (fun v19 => ?_)
  refine zi_istore9 (pc := 154) hX dX10_utter_154 rfl rfl ?_
  refine zi_aload0 (pc := 156) hX dX10_utter_156 ?_
  refine zi_aload0 (pc := 157) hX dX10_utter_157 ?_
  refine zi_getr (q := 83) (pc := 158) hX dX10_utter_158 fl_1395 ly_61 rfl ?_
  refine zi_aload0 (pc := 161) hX dX10_utter_161 ?_
  refine zi_getr (q := 85) (pc := 162) hX dX10_utter_162 fl_1400 ly_61 rfl ?_
  refine zi_callU (zc_virt (pc := 165) hX dX10_utter_165 tm_1671 md_X10_copies mi_X10_copies ly_61 (ct_Mo_copies_83_85 hX.sane g) rfl rfl rfl) (fun g21 => ?_)
  refine zi_aload0 (pc := 168) hX dX10_utter_168 ?_
  refine zi_iload8 (pc := 169) hX dX10_utter_169 ?_
  refine zi_if_eq (pc := 171) 179 hX dX10_utter_171 (by decide) (fun _ => ?_) (fun _ => ?_)
  · refine zi_iload4 (pc := 179) hX dX10_utter_179 ?_
    refine zi_drop (le_s (le_s (le_s (le_s (le_n (le_s (le_n (le_s (le_s (le_s (le_s (le_s (le_s le_nil))))))))))))) ?_; exact zp_Mo_utter_181 hX x1 x2 x5 x7 x8 v19 x4 g21
  · refine zi_iload6 (pc := 174) hX dX10_utter_174 ?_
    refine zi_goto (pc := 176) 181 hX dX10_utter_176 (by decide) ?_
    refine zi_drop (le_s (le_s (le_s (le_s (le_n (le_s (le_n (le_s (le_s (le_s (le_s (le_s (le_s le_nil))))))))))))) ?_; exact zp_Mo_utter_181 hX x1 x2 x5 x7 x8 v19 x6 g21
theorem zp_Mo_utter_108 {X : et_X} {w : et_W} (hX : et_Gd X w cX10_utter RX10 13 (some .int) [] rm_Mo_utter) (x1 : Int32) (x2 : Int32) (x3 : Int32) (x4 : Int32) (x5 : Int32) (x6 : Int32) (x7 : Int32) (s0 : Int32) (g : et_G) : et_Z X w 0 et_eI 108 [some (.ref (et_ad w 61)), some (.int x1), some (.int x2), some (.int x3), some (.int x4), some (.int x5), some (.int x6), some (.int x7), none, none, none, none, none] [.int s0] g (fn_Mo_utter_108 x1 x2 x3 x4 x5 x6 x7 s0 g) := by
  unfold fn_Mo_utter_108
  refine zi_istore8 (pc := 108) hX dX10_utter_108 rfl rfl ?_
  refine zi_iload5 (pc := 110) hX dX10_utter_110 ?_
  refine zi_iload4 (pc := 112) hX dX10_utter_112 ?_
  refine zi_icmp_eq (pc := 114) 144 hX dX10_utter_114 (by decide) (fun _ => ?_) (fun _ => ?_)
  · refine zi_drop (le_s (le_n (le_n (le_n (le_n (le_n (le_n (le_n (le_n (le_s (le_s (le_s (le_s le_nil))))))))))))) ?_; exact zp_Mo_utter_144 hX g
  · refine zi_aload0 (pc := 117) hX dX10_utter_117 ?_
    refine zi_iload7 (pc := 118) hX dX10_utter_118 ?_
    refine zi_iload3 (pc := 120) hX dX10_utter_120 ?_
    refine zi_callI (zc_virt (pc := 121) hX dX10_utter_121 tm_1753 md_X10_blanks mi_X10_blanks ly_61 (ct_Mo_blanks hX.sane x7 x3 g) rfl rfl rfl) (fun v17 g18 => ?_)
    refine zi_iload3 (pc := 124) hX dX10_utter_124 ?_
    refine zi_icmp_lt (pc := 125) 144 hX dX10_utter_125 (by decide) (fun _ => ?_) (fun _ => ?_)
    · refine zi_drop (le_s (le_n (le_n (le_n (le_n (le_n (le_n (le_n (le_n (le_s (le_s (le_s (le_s le_nil))))))))))))) ?_; exact zp_Mo_utter_144 hX g18
    · refine zi_iload8 (pc := 128) hX dX10_utter_128 ?_
      refine zi_if_eq (pc := 130) 150 hX dX10_utter_130 (by decide) (fun _ => ?_) (fun _ => ?_)
      · refine zi_drop (le_s (le_s (le_s (le_n (le_s (le_s (le_s (le_s (le_s (le_s (le_s (le_s (le_s le_nil))))))))))))) ?_; exact zp_Mo_utter_150 hX x1 x2 x4 x5 x6 x7 s0 g18
      · refine zi_aload0 (pc := 133) hX dX10_utter_133 ?_
        refine zi_iload4 (pc := 134) hX dX10_utter_134 ?_
        refine zi_iload5 (pc := 136) hX dX10_utter_136 ?_
        refine zi_callI (zc_virt (pc := 138) hX dX10_utter_138 tm_1761 md_X10_isNot mi_X10_isNot ly_61 (ct_Mo_isNot hX.sane x4 x5 g18) rfl rfl rfl) (fun v36 g37 => ?_)
        refine zi_if_ne (pc := 141) 150 hX dX10_utter_141 (by decide) (fun _ => ?_) (fun _ => ?_)
        · refine zi_drop (le_s (le_n (le_n (le_n (le_n (le_n (le_n (le_n (le_n (le_s (le_s (le_s (le_s le_nil))))))))))))) ?_; exact zp_Mo_utter_144 hX g37
        · refine zi_drop (le_s (le_s (le_s (le_n (le_s (le_s (le_s (le_s (le_s (le_s (le_s (le_s (le_s le_nil))))))))))))) ?_; exact zp_Mo_utter_150 hX x1 x2 x4 x5 x6 x7 s0 g37
theorem zp_Mo_utter_32 {X : et_X} {w : et_W} (hX : et_Gd X w cX10_utter RX10 13 (some .int) [] rm_Mo_utter) (x1 : Int32) (x2 : Int32) (x3 : Int32) (s0 : Int32) (g : et_G) : et_Z X w 0 et_eI 32 [some (.ref (et_ad w 61)), some (.int x1), some (.int x2), some (.int x3), none, none, none, none, none, none, none, none, none] [.int s0, .ref (et_ad w 61)] g (fn_Mo_utter_32 x1 x2 x3 s0 g) := by
  unfold fn_Mo_utter_32
  refine zi_iconst (pc := 32) hX dX10_utter_32 ki_2 ?_
  refine zi_callI (zc_virt (pc := 33) hX dX10_utter_33 tm_1587 md_X10_right mi_X10_right ly_61 (ct_Mo_right hX.sane s0 (2 : Int32) g) rfl rfl rfl) (fun v4 g5 => ?_)
  refine zi_if_ne (pc := 36) 41 hX dX10_utter_36 (by decide) (fun _ => ?_) (fun _ => ?_)
  · refine zi_iconst (pc := 39) hX dX10_utter_39 ki_0 ?_
    exact zi_ret (pc := 40) hX dX10_utter_40 rfl rfl rfl rfl
  · refine zi_aload0 (pc := 41) hX dX10_utter_41 ?_
    refine zi_iconst (pc := 42) hX dX10_utter_42 ki_0 ?_
    refine zi_puti (pc := 43) hX dX10_utter_43 fl_1365 ly_61 rfl rfl rfl (zi_bg (fun g6 => ?_))
    refine zi_aload0 (pc := 46) hX dX10_utter_46 ?_
    refine zi_geti (pc := 47) hX dX10_utter_47 fl_1398 ly_61 rfl ?_
    refine zi_bipush (pc := 50) hX dX10_utter_50 kb_20 ?_
    refine zi_icmp_ne (pc := 52) 61 hX dX10_utter_52 (by decide) (fun _ => ?_) (fun _ => ?_)
    · refine zi_aload0 (pc := 55) hX dX10_utter_55 ?_
      refine zi_iconst (pc := 56) hX dX10_utter_56 ki_1 ?_
      refine zi_callI (zc_virt (pc := 57) hX dX10_utter_57 tm_1741 md_X10_refuses mi_X10_refuses ly_61 (ct_Mo_refuses hX.sane (1 : Int32) g6) rfl rfl rfl) (fun v38 g39 => ?_)
      exact zi_ret (pc := 60) hX dX10_utter_60 rfl rfl rfl rfl
    · refine zi_aload0 (pc := 61) hX dX10_utter_61 ?_
      refine zi_iconst (pc := 62) hX dX10_utter_62 ki_0 ?_
      refine zi_iload3 (pc := 63) hX dX10_utter_63 ?_
      refine zi_callI (zc_virt (pc := 64) hX dX10_utter_64 tm_1753 md_X10_blanks mi_X10_blanks ly_61 (ct_Mo_blanks hX.sane (0 : Int32) x3 g6) rfl rfl rfl) (fun v7 g8 => ?_)
      refine zi_istore4 (pc := 67) hX dX10_utter_67 rfl rfl ?_
      refine zi_aload0 (pc := 69) hX dX10_utter_69 ?_
      refine zi_iload4 (pc := 70) hX dX10_utter_70 ?_
      refine zi_iload3 (pc := 72) hX dX10_utter_72 ?_
      refine zi_callI (zc_virt (pc := 73) hX dX10_utter_73 tm_1757 md_X10_lettersTo mi_X10_lettersTo ly_61 (ct_Mo_lettersTo hX.sane v7 x3 g8) rfl rfl rfl) (fun v9 g10 => ?_)
      refine zi_istore5 (pc := 76) hX dX10_utter_76 rfl rfl ?_
      refine zi_aload0 (pc := 78) hX dX10_utter_78 ?_
      refine zi_iload5 (pc := 79) hX dX10_utter_79 ?_
      refine zi_iload3 (pc := 81) hX dX10_utter_81 ?_
      refine zi_callI (zc_virt (pc := 82) hX dX10_utter_82 tm_1753 md_X10_blanks mi_X10_blanks ly_61 (ct_Mo_blanks hX.sane v9 x3 g10) rfl rfl rfl) (fun v11 g12 => ?_)
      refine zi_istore6 (pc := 85) hX dX10_utter_85 rfl rfl ?_
      refine zi_aload0 (pc := 87) hX dX10_utter_87 ?_
      refine zi_iload6 (pc := 88) hX dX10_utter_88 ?_
      refine zi_iload3 (pc := 90) hX dX10_utter_90 ?_
      refine zi_callI (zc_virt (pc := 91) hX dX10_utter_91 tm_1757 md_X10_lettersTo mi_X10_lettersTo ly_61 (ct_Mo_lettersTo hX.sane v11 x3 g12) rfl rfl rfl) (fun v13 g14 => ?_)
      refine zi_istore7 (pc := 94) hX dX10_utter_94 rfl rfl ?_
      refine zi_iload7 (pc := 96) hX dX10_utter_96 ?_
      refine zi_iload6 (pc := 98) hX dX10_utter_98 ?_
      refine zi_icmp_le (pc := 100) 107 hX dX10_utter_100 (by decide) (fun _ => ?_) (fun _ => ?_)
      · refine zi_iconst (pc := 107) hX dX10_utter_107 ki_0 ?_
        exact zp_Mo_utter_108 hX x1 x2 x3 v7 v9 v11 v13 (0 : Int32) g14
      · refine zi_iconst (pc := 103) hX dX10_utter_103 ki_1 ?_
        refine zi_goto (pc := 104) 108 hX dX10_utter_104 (by decide) ?_
        exact zp_Mo_utter_108 hX x1 x2 x3 v7 v9 v11 v13 (1 : Int32) g14
theorem zp_Mo_utter_31 {X : et_X} {w : et_W} (hX : et_Gd X w cX10_utter RX10 13 (some .int) [] rm_Mo_utter) (x1 : Int32) (x2 : Int32) (x3 : Int32) (g : et_G) : et_Z X w 0 et_eI 31 [some (.ref (et_ad w 61)), some (.int x1), some (.int x2), some (.int x3), none, none, none, none, none, none, none, none, none] [.ref (et_ad w 61)] g (fn_Mo_utter_31 x1 x2 x3 g) := by
  unfold fn_Mo_utter_31
  refine zi_iconst (pc := 31) hX dX10_utter_31 ki_0 ?_
  exact zp_Mo_utter_32 hX x1 x2 x3 (0 : Int32) g
theorem zw_Mo_utter {X : et_X} {w : et_W} (hX : et_Gd X w cX10_utter RX10 13 (some .int) [] rm_Mo_utter) (p1 : Int32) (p2 : Int32) (p3 : Int32) (g : et_G) : et_Z X w 0 et_eI 0 [some (.ref (et_ad w 61)), some (.int p1), some (.int p2), some (.int p3), none, none, none, none, none, none, none, none, none] [] g (fn_Mo_utter p1 p2 p3 g) := by
  unfold fn_Mo_utter
  refine zi_aload0 (pc := 0) hX dX10_utter_0 ?_
  refine zi_iconst (pc := 1) hX dX10_utter_1 ki_0 ?_
  refine zi_puti (pc := 2) hX dX10_utter_2 fl_1348 ly_61 rfl rfl rfl (zi_bg (fun g1 => ?_))
  refine zi_aload0 (pc := 5) hX dX10_utter_5 ?_
  refine zi_iload1 (pc := 6) hX dX10_utter_6 ?_
  refine zi_iload2 (pc := 7) hX dX10_utter_7 ?_
  refine zi_callI (zc_virt (pc := 8) hX dX10_utter_8 tm_1693 md_X10_isWho mi_X10_isWho ly_61 (ct_Mo_isWho hX.sane p1 p2 g1) rfl rfl rfl) (fun v2 g3 => ?_)
  refine zi_if_eq (pc := 11) 39 hX dX10_utter_11 (by decide) (fun _ => ?_) (fun _ => ?_)
  · refine zi_iconst (pc := 39) hX dX10_utter_39 ki_0 ?_
    exact zi_ret (pc := 40) hX dX10_utter_40 rfl rfl rfl rfl
  · refine zi_aload0 (pc := 14) hX dX10_utter_14 ?_
    refine zi_iload3 (pc := 15) hX dX10_utter_15 ?_
    refine zi_if_lt (pc := 16) 31 hX dX10_utter_16 (by decide) (fun _ => ?_) (fun _ => ?_)
    · exact zp_Mo_utter_31 hX p1 p2 p3 g3
    · refine zi_iload3 (pc := 19) hX dX10_utter_19 ?_
      refine zi_aload0 (pc := 20) hX dX10_utter_20 ?_
      refine zi_geti (pc := 21) hX dX10_utter_21 fl_1365 ly_61 rfl ?_
      refine zi_icmp_gt (pc := 24) 31 hX dX10_utter_24 (by decide) (fun _ => ?_) (fun _ => ?_)
      · exact zp_Mo_utter_31 hX p1 p2 p3 g3
      · refine zi_iconst (pc := 27) hX dX10_utter_27 ki_1 ?_
        refine zi_goto (pc := 28) 32 hX dX10_utter_28 (by decide) ?_
        exact zp_Mo_utter_32 hX p1 p2 p3 (1 : Int32) g3
theorem ct_Mo_utter {w : et_W} (hw : et_Sane w) (p1 : Int32) (p2 : Int32) (p3 : Int32) (g : et_G) : et_C w yX10_utter (Cond.code yX10_utter cX10_utter 13 (some .int)) rm_Mo_utter et_eI [.ref (et_ad w 61), .int p1, .int p2, .int p3] g (fn_Mo_utter p1 p2 p3 g) := et_mk hw (by decide) rfl rfl (fun X hX => zw_Mo_utter hX p1 p2 p3 g)
def rm_Mo_empties : Room := { frames := 0, cells := 0, slots := 0, locals := 0 }
def fn_Mo_empties_119 : Nat → Int32 → et_G → Option (Unit × et_G)
  | 0, _, _ => none
  | n + 1, x1, g =>
    if (10 : Int32) ≤ x1 then
      some ((), g)
    else
      et_ck (et_ib x1 10) (et_b (et_si g 81 x1.toNatClampNeg (500 : Int32)) (fun g11 =>
      et_b (x1 + (1 : Int32)) (fun v12 =>
      fn_Mo_empties_119 n v12 g11)))
def fn_Mo_empties_97 : Nat → Int32 → et_G → Option (Unit × et_G)
  | 0, _, _ => none
  | n + 1, x1, g =>
    if (144 : Int32) ≤ x1 then
      fn_Mo_empties_119 1000000 (0 : Int32) g
    else
      et_ck (et_ib x1 144) (et_b (et_si g 80 x1.toNatClampNeg (-1 : Int32)) (fun g13 =>
      et_b (x1 + (1 : Int32)) (fun v14 =>
      fn_Mo_empties_97 n v14 g13)))
def fn_Mo_empties_76 : Nat → Int32 → et_G → Option (Unit × et_G)
  | 0, _, _ => none
  | n + 1, x1, g =>
    if (6 : Int32) ≤ x1 then
      fn_Mo_empties_97 1000000 (0 : Int32) g
    else
      et_ck (et_ib x1 6) (et_b (et_si g 79 x1.toNatClampNeg (0 : Int32)) (fun g15 =>
      et_b (x1 + (1 : Int32)) (fun v16 =>
      fn_Mo_empties_76 n v16 g15)))
def fn_Mo_empties_54 : Nat → Int32 → et_G → Option (Unit × et_G)
  | 0, _, _ => none
  | n + 1, x1, g =>
    if (135 : Int32) ≤ x1 then
      fn_Mo_empties_76 1000000 (0 : Int32) g
    else
      et_ck (et_ib x1 135) (et_b (et_si g 74 x1.toNatClampNeg (0 : Int32)) (fun g17 =>
      et_b (x1 + (1 : Int32)) (fun v18 =>
      fn_Mo_empties_54 n v18 g17)))
def fn_Mo_empties (g : et_G) : Option (Unit × et_G) :=
  et_b (et_si g 61 28 (0 : Int32)) (fun g1 =>
  et_b (et_si g1 61 29 (0 : Int32)) (fun g2 =>
  et_b (et_si g2 61 30 (1 : Int32)) (fun g3 =>
  et_b (et_si g3 61 31 (0 : Int32)) (fun g4 =>
  et_b (et_si g4 61 32 (0 : Int32)) (fun g5 =>
  et_b (et_si g5 61 33 (0 : Int32)) (fun g6 =>
  et_b (et_si g6 61 34 (0 : Int32)) (fun g7 =>
  et_b (et_si g7 61 35 (0 : Int32)) (fun g8 =>
  et_b (et_si g8 61 36 (0 : Int32)) (fun g9 =>
  et_ck (et_ib (0 : Int32) 9) (et_b (et_si g9 76 (0 : Int32).toNatClampNeg (0 : Int32)) (fun g10 =>
  fn_Mo_empties_54 1000000 (0 : Int32) g10)))))))))))
theorem zp_Mo_empties_119 {X : et_X} {w : et_W} (hX : et_Gd X w cX10_empties RX10 2 (none) [] rm_Mo_empties) : ∀ (n : Nat) (x1 : Int32) (g : et_G), et_Z X w 0 et_eU 119 [some (.ref (et_ad w 61)), some (.int x1)] [] g (fn_Mo_empties_119 n x1 g) := by
  intro n
  induction n with
  | zero =>
    intro x1 g a g2 h
    cases h
  | succ n ih =>
    intro x1 g
    rw [fn_Mo_empties_119]
    refine zi_iload1 (pc := 119) hX dX10_empties_119 ?_
    refine zi_bipush (pc := 120) hX dX10_empties_120 kb_10 ?_
    refine zi_icmp_ge (pc := 122) 140 hX dX10_empties_122 (by decide) (fun _ => ?_) (fun _ => ?_)
    · exact zi_vret (pc := 140) hX dX10_empties_140 rfl rfl rfl
    · refine zi_aload0 (pc := 125) hX dX10_empties_125 ?_
      refine zi_getr (q := 81) (pc := 126) hX dX10_empties_126 fl_1393 ly_61 rfl ?_
      refine zi_iload1 (pc := 129) hX dX10_empties_129 ?_
      refine zi_sipush (pc := 130) hX dX10_empties_130 ks_500 ?_
      refine zi_iast (pc := 133) hX dX10_empties_133 ly_81 (zi_bg (fun g11 => ?_))
      refine zi_iincb1 (pc := 134) hX dX10_empties_134 (kn_1 _) rfl rfl (fun v12 => ?_)
      refine zi_goto (pc := 137) 119 hX dX10_empties_137 (by decide) ?_
      exact ih v12 g11
theorem zp_Mo_empties_97 {X : et_X} {w : et_W} (hX : et_Gd X w cX10_empties RX10 2 (none) [] rm_Mo_empties) : ∀ (n : Nat) (x1 : Int32) (g : et_G), et_Z X w 0 et_eU 97 [some (.ref (et_ad w 61)), some (.int x1)] [] g (fn_Mo_empties_97 n x1 g) := by
  intro n
  induction n with
  | zero =>
    intro x1 g a g2 h
    cases h
  | succ n ih =>
    intro x1 g
    rw [fn_Mo_empties_97]
    refine zi_iload1 (pc := 97) hX dX10_empties_97 ?_
    refine zi_sipush (pc := 98) hX dX10_empties_98 ks_144 ?_
    refine zi_icmp_ge (pc := 101) 117 hX dX10_empties_101 (by decide) (fun _ => ?_) (fun _ => ?_)
    · refine zi_iconst (pc := 117) hX dX10_empties_117 ki_0 ?_
      refine zi_istore1 (pc := 118) hX dX10_empties_118 rfl rfl ?_
      exact zp_Mo_empties_119 hX 1000000 (0 : Int32) g
    · refine zi_aload0 (pc := 104) hX dX10_empties_104 ?_
      refine zi_getr (q := 80) (pc := 105) hX dX10_empties_105 fl_1392 ly_61 rfl ?_
      refine zi_iload1 (pc := 108) hX dX10_empties_108 ?_
      refine zi_iconst (pc := 109) hX dX10_empties_109 ki_m1 ?_
      refine zi_iast (pc := 110) hX dX10_empties_110 ly_80 (zi_bg (fun g13 => ?_))
      refine zi_iincb1 (pc := 111) hX dX10_empties_111 (kn_1 _) rfl rfl (fun v14 => ?_)
      refine zi_goto (pc := 114) 97 hX dX10_empties_114 (by decide) ?_
      exact ih v14 g13
theorem zp_Mo_empties_76 {X : et_X} {w : et_W} (hX : et_Gd X w cX10_empties RX10 2 (none) [] rm_Mo_empties) : ∀ (n : Nat) (x1 : Int32) (g : et_G), et_Z X w 0 et_eU 76 [some (.ref (et_ad w 61)), some (.int x1)] [] g (fn_Mo_empties_76 n x1 g) := by
  intro n
  induction n with
  | zero =>
    intro x1 g a g2 h
    cases h
  | succ n ih =>
    intro x1 g
    rw [fn_Mo_empties_76]
    refine zi_iload1 (pc := 76) hX dX10_empties_76 ?_
    refine zi_bipush (pc := 77) hX dX10_empties_77 kb_6 ?_
    refine zi_icmp_ge (pc := 79) 95 hX dX10_empties_79 (by decide) (fun _ => ?_) (fun _ => ?_)
    · refine zi_iconst (pc := 95) hX dX10_empties_95 ki_0 ?_
      refine zi_istore1 (pc := 96) hX dX10_empties_96 rfl rfl ?_
      exact zp_Mo_empties_97 hX 1000000 (0 : Int32) g
    · refine zi_aload0 (pc := 82) hX dX10_empties_82 ?_
      refine zi_getr (q := 79) (pc := 83) hX dX10_empties_83 fl_1391 ly_61 rfl ?_
      refine zi_iload1 (pc := 86) hX dX10_empties_86 ?_
      refine zi_iconst (pc := 87) hX dX10_empties_87 ki_0 ?_
      refine zi_iast (pc := 88) hX dX10_empties_88 ly_79 (zi_bg (fun g15 => ?_))
      refine zi_iincb1 (pc := 89) hX dX10_empties_89 (kn_1 _) rfl rfl (fun v16 => ?_)
      refine zi_goto (pc := 92) 76 hX dX10_empties_92 (by decide) ?_
      exact ih v16 g15
theorem zp_Mo_empties_54 {X : et_X} {w : et_W} (hX : et_Gd X w cX10_empties RX10 2 (none) [] rm_Mo_empties) : ∀ (n : Nat) (x1 : Int32) (g : et_G), et_Z X w 0 et_eU 54 [some (.ref (et_ad w 61)), some (.int x1)] [] g (fn_Mo_empties_54 n x1 g) := by
  intro n
  induction n with
  | zero =>
    intro x1 g a g2 h
    cases h
  | succ n ih =>
    intro x1 g
    rw [fn_Mo_empties_54]
    refine zi_iload1 (pc := 54) hX dX10_empties_54 ?_
    refine zi_sipush (pc := 55) hX dX10_empties_55 ks_135 ?_
    refine zi_icmp_ge (pc := 58) 74 hX dX10_empties_58 (by decide) (fun _ => ?_) (fun _ => ?_)
    · refine zi_iconst (pc := 74) hX dX10_empties_74 ki_0 ?_
      refine zi_istore1 (pc := 75) hX dX10_empties_75 rfl rfl ?_
      exact zp_Mo_empties_76 hX 1000000 (0 : Int32) g
    · refine zi_aload0 (pc := 61) hX dX10_empties_61 ?_
      refine zi_getr (q := 74) (pc := 62) hX dX10_empties_62 fl_1386 ly_61 rfl ?_
      refine zi_iload1 (pc := 65) hX dX10_empties_65 ?_
      refine zi_iconst (pc := 66) hX dX10_empties_66 ki_0 ?_
      refine zi_iast (pc := 67) hX dX10_empties_67 ly_74 (zi_bg (fun g17 => ?_))
      refine zi_iincb1 (pc := 68) hX dX10_empties_68 (kn_1 _) rfl rfl (fun v18 => ?_)
      refine zi_goto (pc := 71) 54 hX dX10_empties_71 (by decide) ?_
      exact ih v18 g17
theorem zw_Mo_empties {X : et_X} {w : et_W} (hX : et_Gd X w cX10_empties RX10 2 (none) [] rm_Mo_empties) (g : et_G) : et_Z X w 0 et_eU 0 [some (.ref (et_ad w 61)), none] [] g (fn_Mo_empties g) := by
  unfold fn_Mo_empties
  refine zi_aload0 (pc := 0) hX dX10_empties_0 ?_
  refine zi_iconst (pc := 1) hX dX10_empties_1 ki_0 ?_
  refine zi_puti (pc := 2) hX dX10_empties_2 fl_1376 ly_61 rfl rfl rfl (zi_bg (fun g1 => ?_))
  refine zi_aload0 (pc := 5) hX dX10_empties_5 ?_
  refine zi_iconst (pc := 6) hX dX10_empties_6 ki_0 ?_
  refine zi_puti (pc := 7) hX dX10_empties_7 fl_1377 ly_61 rfl rfl rfl (zi_bg (fun g2 => ?_))
  refine zi_aload0 (pc := 10) hX dX10_empties_10 ?_
  refine zi_iconst (pc := 11) hX dX10_empties_11 ki_1 ?_
  refine zi_puti (pc := 12) hX dX10_empties_12 fl_1378 ly_61 rfl rfl rfl (zi_bg (fun g3 => ?_))
  refine zi_aload0 (pc := 15) hX dX10_empties_15 ?_
  refine zi_iconst (pc := 16) hX dX10_empties_16 ki_0 ?_
  refine zi_puti (pc := 17) hX dX10_empties_17 fl_1379 ly_61 rfl rfl rfl (zi_bg (fun g4 => ?_))
  refine zi_aload0 (pc := 20) hX dX10_empties_20 ?_
  refine zi_iconst (pc := 21) hX dX10_empties_21 ki_0 ?_
  refine zi_puti (pc := 22) hX dX10_empties_22 fl_1380 ly_61 rfl rfl rfl (zi_bg (fun g5 => ?_))
  refine zi_aload0 (pc := 25) hX dX10_empties_25 ?_
  refine zi_iconst (pc := 26) hX dX10_empties_26 ki_0 ?_
  refine zi_puti (pc := 27) hX dX10_empties_27 fl_1381 ly_61 rfl rfl rfl (zi_bg (fun g6 => ?_))
  refine zi_aload0 (pc := 30) hX dX10_empties_30 ?_
  refine zi_iconst (pc := 31) hX dX10_empties_31 ki_0 ?_
  refine zi_puti (pc := 32) hX dX10_empties_32 fl_1382 ly_61 rfl et_z0 et_f0 (zi_bg (fun g7 => ?_))
  refine zi_aload0 (pc := 35) hX dX10_empties_35 ?_
  refine zi_iconst (pc := 36) hX dX10_empties_36 ki_0 ?_
  refine zi_puti (pc := 37) hX dX10_empties_37 fl_1383 ly_61 rfl et_z0 et_f0 (zi_bg (fun g8 => ?_))
  refine zi_aload0 (pc := 40) hX dX10_empties_40 ?_
  refine zi_iconst (pc := 41) hX dX10_empties_41 ki_0 ?_
  refine zi_puti (pc := 42) hX dX10_empties_42 fl_1384 ly_61 rfl et_z0 et_f0 (zi_bg (fun g9 => ?_))
  refine zi_aload0 (pc := 45) hX dX10_empties_45 ?_
  refine zi_getr (q := 76) (pc := 46) hX dX10_empties_46 fl_1388 ly_61 rfl ?_
  refine zi_iconst (pc := 49) hX dX10_empties_49 ki_0 ?_
  refine zi_iconst (pc := 50) hX dX10_empties_50 ki_0 ?_
  refine zi_iast (pc := 51) hX dX10_empties_51 ly_76 (zi_bg (fun g10 => ?_))
  refine zi_iconst (pc := 52) hX dX10_empties_52 ki_0 ?_
  refine zi_istore1 (pc := 53) hX dX10_empties_53 rfl rfl ?_
  exact zp_Mo_empties_54 hX 1000000 (0 : Int32) g10
theorem ct_Mo_empties {w : et_W} (hw : et_Sane w) (g : et_G) : et_C w yX10_empties (Cond.code yX10_empties cX10_empties 2 (none)) rm_Mo_empties et_eU [.ref (et_ad w 61)] g (fn_Mo_empties g) := et_mk hw (by decide) rfl rfl (fun X hX => zw_Mo_empties hX g)
def rm_Mo_byteAt : Room := { frames := 0, cells := 0, slots := 0, locals := 0 }
def fn_Mo_byteAt (p1 : Int32) (g : et_G) : Option (Int32 × et_G) :=
  if (g.1 61 21) ≤ p1 then
    some ((0 : Int32), g)
  else
    et_ck (et_ib p1 800) (
    some (g.1 71 p1.toNatClampNeg, g))
theorem zw_Mo_byteAt {X : et_X} {w : et_W} (hX : et_Gd X w cX10_byteAt RX10 2 (some .int) [] rm_Mo_byteAt) (p1 : Int32) (g : et_G) : et_Z X w 0 et_eI 0 [some (.ref (et_ad w 61)), some (.int p1)] [] g (fn_Mo_byteAt p1 g) := by
  unfold fn_Mo_byteAt
  refine zi_iload1 (pc := 0) hX dX10_byteAt_0 ?_
  refine zi_aload0 (pc := 1) hX dX10_byteAt_1 ?_
  refine zi_geti (pc := 2) hX dX10_byteAt_2 fl_1369 ly_61 rfl ?_
  refine zi_icmp_ge (pc := 5) 17 hX dX10_byteAt_5 (by decide) (fun _ => ?_) (fun _ => ?_)
  · refine zi_iconst (pc := 17) hX dX10_byteAt_17 ki_0 ?_
    exact zi_ret (pc := 18) hX dX10_byteAt_18 rfl rfl rfl rfl
  · refine zi_aload0 (pc := 8) hX dX10_byteAt_8 ?_
    refine zi_getr (q := 71) (pc := 9) hX dX10_byteAt_9 fl_1364 ly_61 rfl ?_
    refine zi_iload1 (pc := 12) hX dX10_byteAt_12 ?_
    refine zi_iald (pc := 13) hX dX10_byteAt_13 ly_71 ?_
    refine zi_goto (pc := 14) 18 hX dX10_byteAt_14 (by decide) ?_
    exact zi_ret (pc := 18) hX dX10_byteAt_18 rfl rfl rfl rfl
theorem ct_Mo_byteAt {w : et_W} (hw : et_Sane w) (p1 : Int32) (g : et_G) : et_C w yX10_byteAt (Cond.code yX10_byteAt cX10_byteAt 2 (some .int)) rm_Mo_byteAt et_eI [.ref (et_ad w 61), .int p1] g (fn_Mo_byteAt p1 g) := et_mk hw (by decide) rfl rfl (fun X hX => zw_Mo_byteAt hX p1 g)
def rm_Mo_isDigit : Room := { frames := 0, cells := 0, slots := 0, locals := 0 }
def fn_Mo_isDigit (p0 : Int32) (g : et_G) : Option (Int32 × et_G) :=
  if p0 < (48 : Int32) then
    some ((0 : Int32), g)
  else
    if (57 : Int32) < p0 then
      some ((0 : Int32), g)
    else
      some ((1 : Int32), g)
theorem zw_Mo_isDigit {X : et_X} {w : et_W} (hX : et_Gd X w cX10_isDigit RX10 1 (some .boolean) [] rm_Mo_isDigit) (p0 : Int32) (g : et_G) : et_Z X w 0 et_eI 0 [some (.int p0)] [] g (fn_Mo_isDigit p0 g) := by
  unfold fn_Mo_isDigit
  refine zi_iload0 (pc := 0) hX dX10_isDigit_0 ?_
  refine zi_bipush (pc := 1) hX dX10_isDigit_1 kb_48 ?_
  refine zi_icmp_lt (pc := 3) 16 hX dX10_isDigit_3 (by decide) (fun _ => ?_) (fun _ => ?_)
  · refine zi_iconst (pc := 16) hX dX10_isDigit_16 ki_0 ?_
    exact zi_ret (pc := 17) hX dX10_isDigit_17 et_z0 rfl rfl rfl
  · refine zi_iload0 (pc := 6) hX dX10_isDigit_6 ?_
    refine zi_bipush (pc := 7) hX dX10_isDigit_7 kb_57 ?_
    refine zi_icmp_gt (pc := 9) 16 hX dX10_isDigit_9 (by decide) (fun _ => ?_) (fun _ => ?_)
    · refine zi_iconst (pc := 16) hX dX10_isDigit_16 ki_0 ?_
      exact zi_ret (pc := 17) hX dX10_isDigit_17 et_z0 rfl rfl rfl
    · refine zi_iconst (pc := 12) hX dX10_isDigit_12 ki_1 ?_
      refine zi_goto (pc := 13) 17 hX dX10_isDigit_13 (by decide) ?_
      exact zi_ret (pc := 17) hX dX10_isDigit_17 et_z1 rfl rfl rfl
theorem ct_Mo_isDigit {w : et_W} (hw : et_Sane w) (p0 : Int32) (g : et_G) : et_C w yX10_isDigit (Cond.code yX10_isDigit cX10_isDigit 1 (some .boolean)) rm_Mo_isDigit et_eI [.int p0] g (fn_Mo_isDigit p0 g) := et_mk hw (by decide) rfl rfl (fun X hX => zw_Mo_isDigit hX p0 g)
