def rm_Mo_isTold : Room := { frames := 1, cells := 0, slots := 0, locals := 22 }
def fn_Mo_isTold (p1 : Int32) (p2 : Int32) (p3 : Int32) (p4 : Int32) (p5 : Int32) (g : et_G) : Option (Int32 × et_G) :=
  if (((g.1 61 60) >>> (p1 &&& 31)) &&& (1 : Int32)) = 0 then
    some ((0 : Int32), g)
  else
    et_bd (fn_Mo_of p1 (0 : Int32) g) (fun v1 g2 =>
    if v1 = p2 then
      some ((0 : Int32), g2)
    else
      et_bd (fn_Mo_of p1 (2 : Int32) g2) (fun v3 g4 =>
      if v3 = p4 then
        et_bd (fn_Mo_of p1 (4 : Int32) g4) (fun v5 g6 =>
        if v5 = p5 then
          et_bd (fn_Mo_of p1 (1 : Int32) g6) (fun v7 g8 =>
          if v7 ≤ p3 then
            et_bd (fn_Mo_of p1 (1 : Int32) g8) (fun v9 g10 =>
            et_ck (et_ib (((24 : Int32) * p2) + v9) 144) (
            et_bd (fn_Mo_of p1 (0 : Int32) g10) (fun v11 g12 =>
            et_bd (fn_Mo_of p1 (1 : Int32) g12) (fun v13 g14 =>
            et_ck (et_ib (((24 : Int32) * v11) + v13) 144) (
            if (g10.1 69 (((24 : Int32) * p2) + v9).toNatClampNeg) = (g14.1 69 (((24 : Int32) * v11) + v13).toNatClampNeg) then
              if (((g14.1 61 61) >>> (p1 &&& 31)) &&& (1 : Int32)) = (1 : Int32) then
                some ((1 : Int32), g14)
              else
                et_bd (fn_Mo_of p1 (3 : Int32) g14) (fun v15 g16 =>
                if v15 = (4 : Int32) then
                  some ((0 : Int32), g16)
                else
                  some ((1 : Int32), g16))
            else
              some ((0 : Int32), g14))))))
          else
            some ((0 : Int32), g8))
        else
          some ((0 : Int32), g6))
      else
        some ((0 : Int32), g4)))
theorem zw_Mo_isTold {X : et_X} {w : et_W} (hX : et_Gd X w cX10_isTold RX10 6 (some .boolean) [] rm_Mo_isTold) (p1 : Int32) (p2 : Int32) (p3 : Int32) (p4 : Int32) (p5 : Int32) (g : et_G) : et_Z X w 0 et_eI 0 [some (.ref (et_ad w 61)), some (.int p1), some (.int p2), some (.int p3), some (.int p4), some (.int p5)] [] g (fn_Mo_isTold p1 p2 p3 p4 p5 g) := by
  unfold fn_Mo_isTold
  refine zi_aload0 (pc := 0) hX dX10_isTold_0 ?_
  refine zi_geti (pc := 1) hX dX10_isTold_1 fl_1408 ly_61 rfl ?_
  refine zi_iload1 (pc := 4) hX dX10_isTold_4 ?_
  refine zi_ishr (pc := 5) hX dX10_isTold_5 ?_
  refine zi_iconst (pc := 6) hX dX10_isTold_6 ki_1 ?_
  refine zi_iand (pc := 7) hX dX10_isTold_7 ?_
  refine zi_if_eq (pc := 8) 53 hX dX10_isTold_8 (by decide) (fun _ => ?_) (fun _ => ?_)
  · refine zi_iconst (pc := 53) hX dX10_isTold_53 ki_0 ?_
    exact zi_ret (pc := 54) hX dX10_isTold_54 et_z0 rfl rfl rfl
  · refine zi_aload0 (pc := 11) hX dX10_isTold_11 ?_
    refine zi_iload1 (pc := 12) hX dX10_isTold_12 ?_
    refine zi_iconst (pc := 13) hX dX10_isTold_13 ki_0 ?_
    refine zi_callI (zc_virt (pc := 14) hX dX10_isTold_14 tm_1773 md_X10_of mi_X10_of ly_61 (ct_Mo_of hX.sane p1 (0 : Int32) g) rfl rfl rfl) (fun v1 g2 => ?_)
    refine zi_iload2 (pc := 17) hX dX10_isTold_17 ?_
    refine zi_icmp_eq (pc := 18) 53 hX dX10_isTold_18 (by decide) (fun _ => ?_) (fun _ => ?_)
    · refine zi_iconst (pc := 53) hX dX10_isTold_53 ki_0 ?_
      exact zi_ret (pc := 54) hX dX10_isTold_54 et_z0 rfl rfl rfl
    · refine zi_aload0 (pc := 21) hX dX10_isTold_21 ?_
      refine zi_iload1 (pc := 22) hX dX10_isTold_22 ?_
      refine zi_iconst (pc := 23) hX dX10_isTold_23 ki_2 ?_
      refine zi_callI (zc_virt (pc := 24) hX dX10_isTold_24 tm_1773 md_X10_of mi_X10_of ly_61 (ct_Mo_of hX.sane p1 (2 : Int32) g2) rfl rfl rfl) (fun v3 g4 => ?_)
      refine zi_iload4 (pc := 27) hX dX10_isTold_27 ?_
      refine zi_icmp_ne (pc := 29) 53 hX dX10_isTold_29 (by decide) (fun _ => ?_) (fun _ => ?_)
      · refine zi_aload0 (pc := 32) hX dX10_isTold_32 ?_
        refine zi_iload1 (pc := 33) hX dX10_isTold_33 ?_
        refine zi_iconst (pc := 34) hX dX10_isTold_34 ki_4 ?_
        refine zi_callI (zc_virt (pc := 35) hX dX10_isTold_35 tm_1773 md_X10_of mi_X10_of ly_61 (ct_Mo_of hX.sane p1 (4 : Int32) g4) rfl rfl rfl) (fun v5 g6 => ?_)
        refine zi_iload5 (pc := 38) hX dX10_isTold_38 ?_
        refine zi_icmp_ne (pc := 40) 53 hX dX10_isTold_40 (by decide) (fun _ => ?_) (fun _ => ?_)
        · refine zi_aload0 (pc := 43) hX dX10_isTold_43 ?_
          refine zi_iload1 (pc := 44) hX dX10_isTold_44 ?_
          refine zi_iconst (pc := 45) hX dX10_isTold_45 ki_1 ?_
          refine zi_callI (zc_virt (pc := 46) hX dX10_isTold_46 tm_1773 md_X10_of mi_X10_of ly_61 (ct_Mo_of hX.sane p1 (1 : Int32) g6) rfl rfl rfl) (fun v7 g8 => ?_)
          refine zi_iload3 (pc := 49) hX dX10_isTold_49 ?_
          refine zi_icmp_le (pc := 50) 55 hX dX10_isTold_50 (by decide) (fun _ => ?_) (fun _ => ?_)
          · refine zi_aload0 (pc := 55) hX dX10_isTold_55 ?_
            refine zi_getr (q := 69) (pc := 56) hX dX10_isTold_56 fl_1362 ly_61 rfl ?_
            refine zi_bipush (pc := 59) hX dX10_isTold_59 kb_24 ?_
            refine zi_iload2 (pc := 61) hX dX10_isTold_61 ?_
            refine zi_imul (pc := 62) hX dX10_isTold_62 ?_
            refine zi_aload0 (pc := 63) hX dX10_isTold_63 ?_
            refine zi_iload1 (pc := 64) hX dX10_isTold_64 ?_
            refine zi_iconst (pc := 65) hX dX10_isTold_65 ki_1 ?_
            refine zi_callI (zc_virt (pc := 66) hX dX10_isTold_66 tm_1773 md_X10_of mi_X10_of ly_61 (ct_Mo_of hX.sane p1 (1 : Int32) g8) rfl rfl rfl) (fun v9 g10 => ?_)
            refine zi_iadd (pc := 69) hX dX10_isTold_69 ?_
            refine zi_iald (pc := 70) hX dX10_isTold_70 ly_69 ?_
            refine zi_aload0 (pc := 71) hX dX10_isTold_71 ?_
            refine zi_getr (q := 69) (pc := 72) hX dX10_isTold_72 fl_1362 ly_61 rfl ?_
            refine zi_bipush (pc := 75) hX dX10_isTold_75 kb_24 ?_
            refine zi_aload0 (pc := 77) hX dX10_isTold_77 ?_
            refine zi_iload1 (pc := 78) hX dX10_isTold_78 ?_
            refine zi_iconst (pc := 79) hX dX10_isTold_79 ki_0 ?_
            refine zi_callI (zc_virt (pc := 80) hX dX10_isTold_80 tm_1773 md_X10_of mi_X10_of ly_61 (ct_Mo_of hX.sane p1 (0 : Int32) g10) rfl rfl rfl) (fun v11 g12 => ?_)
            refine zi_imul (pc := 83) hX dX10_isTold_83 ?_
            refine zi_aload0 (pc := 84) hX dX10_isTold_84 ?_
            refine zi_iload1 (pc := 85) hX dX10_isTold_85 ?_
            refine zi_iconst (pc := 86) hX dX10_isTold_86 ki_1 ?_
            refine zi_callI (zc_virt (pc := 87) hX dX10_isTold_87 tm_1773 md_X10_of mi_X10_of ly_61 (ct_Mo_of hX.sane p1 (1 : Int32) g12) rfl rfl rfl) (fun v13 g14 => ?_)
            refine zi_iadd (pc := 90) hX dX10_isTold_90 ?_
            refine zi_iald (pc := 91) hX dX10_isTold_91 ly_69 ?_
            refine zi_icmp_eq (pc := 92) 97 hX dX10_isTold_92 (by decide) (fun _ => ?_) (fun _ => ?_)
            · refine zi_aload0 (pc := 97) hX dX10_isTold_97 ?_
              refine zi_geti (pc := 98) hX dX10_isTold_98 fl_1409 ly_61 rfl ?_
              refine zi_iload1 (pc := 101) hX dX10_isTold_101 ?_
              refine zi_ishr (pc := 102) hX dX10_isTold_102 ?_
              refine zi_iconst (pc := 103) hX dX10_isTold_103 ki_1 ?_
              refine zi_iand (pc := 104) hX dX10_isTold_104 ?_
              refine zi_iconst (pc := 105) hX dX10_isTold_105 ki_1 ?_
              refine zi_icmp_eq (pc := 106) 119 hX dX10_isTold_106 (by decide) (fun _ => ?_) (fun _ => ?_)
              · refine zi_iconst (pc := 119) hX dX10_isTold_119 ki_1 ?_
                refine zi_goto (pc := 120) 124 hX dX10_isTold_120 (by decide) ?_
                exact zi_ret (pc := 124) hX dX10_isTold_124 et_z1 rfl rfl rfl
              · refine zi_aload0 (pc := 109) hX dX10_isTold_109 ?_
                refine zi_iload1 (pc := 110) hX dX10_isTold_110 ?_
                refine zi_iconst (pc := 111) hX dX10_isTold_111 ki_3 ?_
                refine zi_callI (zc_virt (pc := 112) hX dX10_isTold_112 tm_1773 md_X10_of mi_X10_of ly_61 (ct_Mo_of hX.sane p1 (3 : Int32) g14) rfl rfl rfl) (fun v15 g16 => ?_)
                refine zi_iconst (pc := 115) hX dX10_isTold_115 ki_4 ?_
                refine zi_icmp_eq (pc := 116) 123 hX dX10_isTold_116 (by decide) (fun _ => ?_) (fun _ => ?_)
                · refine zi_iconst (pc := 123) hX dX10_isTold_123 ki_0 ?_
                  exact zi_ret (pc := 124) hX dX10_isTold_124 et_z0 rfl rfl rfl
                · refine zi_iconst (pc := 119) hX dX10_isTold_119 ki_1 ?_
                  refine zi_goto (pc := 120) 124 hX dX10_isTold_120 (by decide) ?_
                  exact zi_ret (pc := 124) hX dX10_isTold_124 et_z1 rfl rfl rfl
            · refine zi_iconst (pc := 95) hX dX10_isTold_95 ki_0 ?_
              exact zi_ret (pc := 96) hX dX10_isTold_96 et_z0 rfl rfl rfl
          · refine zi_iconst (pc := 53) hX dX10_isTold_53 ki_0 ?_
            exact zi_ret (pc := 54) hX dX10_isTold_54 et_z0 rfl rfl rfl
        · refine zi_iconst (pc := 53) hX dX10_isTold_53 ki_0 ?_
          exact zi_ret (pc := 54) hX dX10_isTold_54 et_z0 rfl rfl rfl
      · refine zi_iconst (pc := 53) hX dX10_isTold_53 ki_0 ?_
        exact zi_ret (pc := 54) hX dX10_isTold_54 et_z0 rfl rfl rfl
theorem ct_Mo_isTold {w : et_W} (hw : et_Sane w) (p1 : Int32) (p2 : Int32) (p3 : Int32) (p4 : Int32) (p5 : Int32) (g : et_G) : et_C w yX10_isTold (Cond.code yX10_isTold cX10_isTold 6 (some .boolean)) rm_Mo_isTold et_eI [.ref (et_ad w 61), .int p1, .int p2, .int p3, .int p4, .int p5] g (fn_Mo_isTold p1 p2 p3 p4 p5 g) := et_mk hw (by decide) rfl rfl (fun X hX => zw_Mo_isTold hX p1 p2 p3 p4 p5 g)
def rm_Mo_byTold : Room := { frames := 2, cells := 0, slots := 0, locals := 47 }
def fn_Mo_byTold_8 (x1 : Int32) (x2 : Int32) (x3 : Int32) (x4 : Int32) : Nat → Int32 → Int32 → et_G → Option (Int32 × et_G)
  | 0, _, _, _ => none
  | n + 1, x5, x6, g =>
    if (g.1 61 50) ≤ x6 then
      some (x5, g)
    else
      et_ck (et_ib x6 20) (
      if x5 ≤ ((g.1 86 x6.toNatClampNeg) + (1 : Int32)) then
        et_b (x6 + (1 : Int32)) (fun v1 =>
        fn_Mo_byTold_8 x1 x2 x3 x4 n x5 v1 g)
      else
        et_bd (fn_Mo_isTold x6 x1 x2 x3 x4 g) (fun v2 g3 =>
        if v2 = 0 then
          et_b (x6 + (1 : Int32)) (fun v4 =>
          fn_Mo_byTold_8 x1 x2 x3 x4 n x5 v4 g3)
        else
          et_ck (et_ib x6 20) (
          et_b ((g3.1 86 x6.toNatClampNeg) + (1 : Int32)) (fun v5 =>
          et_b (x6 + (1 : Int32)) (fun v6 =>
          fn_Mo_byTold_8 x1 x2 x3 x4 n v5 v6 g3)))))
def fn_Mo_byTold (p1 : Int32) (p2 : Int32) (p3 : Int32) (p4 : Int32) (g : et_G) : Option (Int32 × et_G) :=
  fn_Mo_byTold_8 p1 p2 p3 p4 1000000 (1000 : Int32) (0 : Int32) g
theorem zp_Mo_byTold_8 {X : et_X} {w : et_W} (hX : et_Gd X w cX10_byTold RX10 7 (some .int) [] rm_Mo_byTold) (x1 : Int32) (x2 : Int32) (x3 : Int32) (x4 : Int32) : ∀ (n : Nat) (x5 : Int32) (x6 : Int32) (g : et_G), et_Z X w 0 et_eI 8 [some (.ref (et_ad w 61)), some (.int x1), some (.int x2), some (.int x3), some (.int x4), some (.int x5), some (.int x6)] [] g (fn_Mo_byTold_8 x1 x2 x3 x4 n x5 x6 g) := by
  intro n
  induction n with
  | zero =>
    intro x5 x6 g a g2 h
    cases h
  | succ n ih =>
    intro x5 x6 g
    rw [fn_Mo_byTold_8]
    refine zi_iload6 (pc := 8) hX dX10_byTold_8 ?_
    refine zi_aload0 (pc := 10) hX dX10_byTold_10 ?_
    refine zi_geti (pc := 11) hX dX10_byTold_11 fl_1398 ly_61 rfl ?_
    refine zi_icmp_ge (pc := 14) 62 hX dX10_byTold_14 (by decide) (fun _ => ?_) (fun _ => ?_)
    · refine zi_iload5 (pc := 62) hX dX10_byTold_62 ?_
      exact zi_ret (pc := 64) hX dX10_byTold_64 rfl rfl rfl rfl
    · refine zi_aload0 (pc := 17) hX dX10_byTold_17 ?_
      refine zi_getr (q := 86) (pc := 18) hX dX10_byTold_18 fl_1401 ly_61 rfl ?_
      refine zi_iload6 (pc := 21) hX dX10_byTold_21 ?_
      refine zi_iald (pc := 23) hX dX10_byTold_23 ly_86 ?_
      refine zi_iconst (pc := 24) hX dX10_byTold_24 ki_1 ?_
      refine zi_iadd (pc := 25) hX dX10_byTold_25 ?_
      refine zi_iload5 (pc := 26) hX dX10_byTold_26 ?_
      refine zi_icmp_ge (pc := 28) 56 hX dX10_byTold_28 (by decide) (fun _ => ?_) (fun _ => ?_)
      · refine zi_iincb6 (pc := 56) hX dX10_byTold_56 (kn_1 _) rfl rfl (fun v1 => ?_)
        refine zi_goto (pc := 59) 8 hX dX10_byTold_59 (by decide) ?_
        exact ih x5 v1 g
      · refine zi_aload0 (pc := 31) hX dX10_byTold_31 ?_
        refine zi_iload6 (pc := 32) hX dX10_byTold_32 ?_
        refine zi_iload1 (pc := 34) hX dX10_byTold_34 ?_
        refine zi_iload2 (pc := 35) hX dX10_byTold_35 ?_
        refine zi_iload3 (pc := 36) hX dX10_byTold_36 ?_
        refine zi_iload4 (pc := 37) hX dX10_byTold_37 ?_
        refine zi_callI (zc_virt (pc := 39) hX dX10_byTold_39 tm_1805 md_X10_isTold mi_X10_isTold ly_61 (ct_Mo_isTold hX.sane x6 x1 x2 x3 x4 g) rfl rfl rfl) (fun v2 g3 => ?_)
        refine zi_if_eq (pc := 42) 56 hX dX10_byTold_42 (by decide) (fun _ => ?_) (fun _ => ?_)
        · refine zi_iincb6 (pc := 56) hX dX10_byTold_56 (kn_1 _) rfl rfl (fun v4 => ?_)
          refine zi_goto (pc := 59) 8 hX dX10_byTold_59 (by decide) ?_
          exact ih x5 v4 g3
        · refine zi_aload0 (pc := 45) hX dX10_byTold_45 ?_
          refine zi_getr (q := 86) (pc := 46) hX dX10_byTold_46 fl_1401 ly_61 rfl ?_
          refine zi_iload6 (pc := 49) hX dX10_byTold_49 ?_
          refine zi_iald (pc := 51) hX dX10_byTold_51 ly_86 ?_
          refine zi_iconst (pc := 52) hX dX10_byTold_52 ki_1 ?_
          refine zi_iadd (pc := 53) hX dX10_byTold_53 ?_
          refine zi_bi (fun v5 => ?_)
          refine zi_istore5 (pc := 54) hX dX10_byTold_54 rfl rfl ?_
          refine zi_iincb6 (pc := 56) hX dX10_byTold_56 (kn_1 _) rfl rfl (fun v6 => ?_)
          refine zi_goto (pc := 59) 8 hX dX10_byTold_59 (by decide) ?_
          exact ih v5 v6 g3
theorem zw_Mo_byTold {X : et_X} {w : et_W} (hX : et_Gd X w cX10_byTold RX10 7 (some .int) [] rm_Mo_byTold) (p1 : Int32) (p2 : Int32) (p3 : Int32) (p4 : Int32) (g : et_G) : et_Z X w 0 et_eI 0 [some (.ref (et_ad w 61)), some (.int p1), some (.int p2), some (.int p3), some (.int p4), none, none] [] g (fn_Mo_byTold p1 p2 p3 p4 g) := by
  unfold fn_Mo_byTold
  refine zi_sipush (pc := 0) hX dX10_byTold_0 ks_1000 ?_
  refine zi_istore5 (pc := 3) hX dX10_byTold_3 rfl rfl ?_
  refine zi_iconst (pc := 5) hX dX10_byTold_5 ki_0 ?_
  refine zi_istore6 (pc := 6) hX dX10_byTold_6 rfl rfl ?_
  exact zp_Mo_byTold_8 hX p1 p2 p3 p4 1000000 (1000 : Int32) (0 : Int32) g
theorem ct_Mo_byTold {w : et_W} (hw : et_Sane w) (p1 : Int32) (p2 : Int32) (p3 : Int32) (p4 : Int32) (g : et_G) : et_C w yX10_byTold (Cond.code yX10_byTold cX10_byTold 7 (some .int)) rm_Mo_byTold et_eI [.ref (et_ad w 61), .int p1, .int p2, .int p3, .int p4] g (fn_Mo_byTold p1 p2 p3 p4 g) := et_mk hw (by decide) rfl rfl (fun X hX => zw_Mo_byTold hX p1 p2 p3 p4 g)
def rm_Mo_byHow : Room := { frames := 3, cells := 0, slots := 0, locals := 73 }
def fn_Mo_byHow (p1 : Int32) (p2 : Int32) (p3 : Int32) (p4 : Int32) (g : et_G) : Option (Int32 × et_G) :=
  et_ck (et_ib p1 21) (
  et_b (g.1 88 p1.toNatClampNeg) (fun v1 =>
  et_ck (et_ib p1 21) (
  et_b (g.1 89 p1.toNatClampNeg) (fun v2 =>
  if p4 = (4 : Int32) then
    some ((1 : Int32), g)
  else
    if p4 = (2 : Int32) then
      et_bd (fn_Mo_byTold v1 v2 p2 p3 g) (fun v7 g8 =>
      some (v7, g8))
    else
      if p4 = (3 : Int32) then
        if p3 = (1 : Int32) then
          some ((1000 : Int32), g)
        else
          et_bd (fn_Mo_byRules p1 p2 g) (fun v5 g6 =>
          some (v5, g6))
      else
        et_bd (fn_Mo_isBy v1 v2 p2 p3 p4 g) (fun v3 g4 =>
        if v3 = 0 then
          some ((1000 : Int32), g4)
        else
          some ((1 : Int32), g4))))))
theorem zw_Mo_byHow {X : et_X} {w : et_W} (hX : et_Gd X w cX10_byHow RX10 7 (some .int) [] rm_Mo_byHow) (p1 : Int32) (p2 : Int32) (p3 : Int32) (p4 : Int32) (g : et_G) : et_Z X w 0 et_eI 0 [some (.ref (et_ad w 61)), some (.int p1), some (.int p2), some (.int p3), some (.int p4), none, none] [] g (fn_Mo_byHow p1 p2 p3 p4 g) := by
  unfold fn_Mo_byHow
  refine zi_aload0 (pc := 0) hX dX10_byHow_0 ?_
  refine zi_getr (q := 88) (pc := 1) hX dX10_byHow_1 fl_1403 ly_61 rfl ?_
  refine zi_iload1 (pc := 4) hX dX10_byHow_4 ?_
  refine zi_iald (pc := 5) hX dX10_byHow_5 ly_88 ?_
  refine zi_bi (fun v1 => ?_)
  refine zi_istore5 (pc := 6) hX dX10_byHow_6 rfl rfl ?_
  refine zi_aload0 (pc := 8) hX dX10_byHow_8 ?_
  refine zi_getr (q := 89) (pc := 9) hX dX10_byHow_9 fl_1404 ly_61 rfl ?_
  refine zi_iload1 (pc := 12) hX dX10_byHow_12 ?_
  refine zi_iald (pc := 13) hX dX10_byHow_13 ly_89 ?_
  refine zi_bi (fun v2 => ?_)
  refine zi_istore6 (pc := 14) hX dX10_byHow_14 rfl rfl ?_
  refine zi_iload4 (pc := 16) hX dX10_byHow_16 ?_
  refine zi_iconst (pc := 18) hX dX10_byHow_18 ki_4 ?_
  refine zi_icmp_ne (pc := 19) 24 hX dX10_byHow_19 (by decide) (fun _ => ?_) (fun _ => ?_)
  · refine zi_iconst (pc := 22) hX dX10_byHow_22 ki_1 ?_
    exact zi_ret (pc := 23) hX dX10_byHow_23 rfl rfl rfl rfl
  · refine zi_iload4 (pc := 24) hX dX10_byHow_24 ?_
    refine zi_iconst (pc := 26) hX dX10_byHow_26 ki_2 ?_
    refine zi_icmp_ne (pc := 27) 41 hX dX10_byHow_27 (by decide) (fun _ => ?_) (fun _ => ?_)
    · refine zi_aload0 (pc := 30) hX dX10_byHow_30 ?_
      refine zi_iload5 (pc := 31) hX dX10_byHow_31 ?_
      refine zi_iload6 (pc := 33) hX dX10_byHow_33 ?_
      refine zi_iload2 (pc := 35) hX dX10_byHow_35 ?_
      refine zi_iload3 (pc := 36) hX dX10_byHow_36 ?_
      refine zi_callI (zc_virt (pc := 37) hX dX10_byHow_37 tm_1801 md_X10_byTold mi_X10_byTold ly_61 (ct_Mo_byTold hX.sane v1 v2 p2 p3 g) rfl rfl rfl) (fun v7 g8 => ?_)
      exact zi_ret (pc := 40) hX dX10_byHow_40 rfl rfl rfl rfl
    · refine zi_iload4 (pc := 41) hX dX10_byHow_41 ?_
      refine zi_iconst (pc := 43) hX dX10_byHow_43 ki_3 ?_
      refine zi_icmp_ne (pc := 44) 65 hX dX10_byHow_44 (by decide) (fun _ => ?_) (fun _ => ?_)
      · refine zi_iload3 (pc := 47) hX dX10_byHow_47 ?_
        refine zi_iconst (pc := 48) hX dX10_byHow_48 ki_1 ?_
        refine zi_icmp_ne (pc := 49) 58 hX dX10_byHow_49 (by decide) (fun _ => ?_) (fun _ => ?_)
        · refine zi_sipush (pc := 52) hX dX10_byHow_52 ks_1000 ?_
          refine zi_goto (pc := 55) 64 hX dX10_byHow_55 (by decide) ?_
          exact zi_ret (pc := 64) hX dX10_byHow_64 rfl rfl rfl rfl
        · refine zi_aload0 (pc := 58) hX dX10_byHow_58 ?_
          refine zi_iload1 (pc := 59) hX dX10_byHow_59 ?_
          refine zi_iload2 (pc := 60) hX dX10_byHow_60 ?_
          refine zi_callI (zc_virt (pc := 61) hX dX10_byHow_61 tm_1809 md_X10_byRules mi_X10_byRules ly_61 (ct_Mo_byRules hX.sane p1 p2 g) rfl rfl rfl) (fun v5 g6 => ?_)
          exact zi_ret (pc := 64) hX dX10_byHow_64 rfl rfl rfl rfl
      · refine zi_aload0 (pc := 65) hX dX10_byHow_65 ?_
        refine zi_iload5 (pc := 66) hX dX10_byHow_66 ?_
        refine zi_iload6 (pc := 68) hX dX10_byHow_68 ?_
        refine zi_iload2 (pc := 70) hX dX10_byHow_70 ?_
        refine zi_iload3 (pc := 71) hX dX10_byHow_71 ?_
        refine zi_iload4 (pc := 72) hX dX10_byHow_72 ?_
        refine zi_callI (zc_virt (pc := 74) hX dX10_byHow_74 tm_1813 md_X10_isBy mi_X10_isBy ly_61 (ct_Mo_isBy hX.sane v1 v2 p2 p3 p4 g) rfl rfl rfl) (fun v3 g4 => ?_)
        refine zi_if_eq (pc := 77) 84 hX dX10_byHow_77 (by decide) (fun _ => ?_) (fun _ => ?_)
        · refine zi_sipush (pc := 84) hX dX10_byHow_84 ks_1000 ?_
          exact zi_ret (pc := 87) hX dX10_byHow_87 rfl rfl rfl rfl
        · refine zi_iconst (pc := 80) hX dX10_byHow_80 ki_1 ?_
          refine zi_goto (pc := 81) 87 hX dX10_byHow_81 (by decide) ?_
          exact zi_ret (pc := 87) hX dX10_byHow_87 rfl rfl rfl rfl
theorem ct_Mo_byHow {w : et_W} (hw : et_Sane w) (p1 : Int32) (p2 : Int32) (p3 : Int32) (p4 : Int32) (g : et_G) : et_C w yX10_byHow (Cond.code yX10_byHow cX10_byHow 7 (some .int)) rm_Mo_byHow et_eI [.ref (et_ad w 61), .int p1, .int p2, .int p3, .int p4] g (fn_Mo_byHow p1 p2 p3 p4 g) := et_mk hw (by decide) rfl rfl (fun X hX => zw_Mo_byHow hX p1 p2 p3 p4 g)
def rm_Mo_least : Room := { frames := 4, cells := 0, slots := 0, locals := 99 }
def fn_Mo_least_8 (x1 : Int32) (x2 : Int32) (x3 : Int32) : Nat → Int32 → Int32 → et_G → Option (Int32 × et_G)
  | 0, _, _, _ => none
  | n + 1, x4, x5, g =>
    if (4 : Int32) ≤ x5 then
      some (x4, g)
    else
      et_bd (fn_Mo_byHow x1 x2 x3 x5 g) (fun v1 g2 =>
      if v1 < x4 then
        et_b (et_si g2 61 62 x5) (fun g3 =>
        et_b (x5 + (1 : Int32)) (fun v4 =>
        fn_Mo_least_8 x1 x2 x3 n v1 v4 g3))
      else
        et_b (x5 + (1 : Int32)) (fun v5 =>
        fn_Mo_least_8 x1 x2 x3 n x4 v5 g2))
def fn_Mo_least (p1 : Int32) (p2 : Int32) (p3 : Int32) (g : et_G) : Option (Int32 × et_G) :=
  fn_Mo_least_8 p1 p2 p3 1000000 (1000 : Int32) (0 : Int32) g
theorem zp_Mo_least_8 {X : et_X} {w : et_W} (hX : et_Gd X w cX10_least RX10 7 (some .int) [] rm_Mo_least) (x1 : Int32) (x2 : Int32) (x3 : Int32) : ∀ (n : Nat) (x4 : Int32) (x5 : Int32) (g : et_G), et_Z X w 0 et_eI 8 [some (.ref (et_ad w 61)), some (.int x1), some (.int x2), some (.int x3), some (.int x4), some (.int x5), none] [] g (fn_Mo_least_8 x1 x2 x3 n x4 x5 g) := by
  intro n
  induction n with
  | zero =>
    intro x4 x5 g a g2 h
    cases h
  | succ n ih =>
    intro x4 x5 g
    rw [fn_Mo_least_8]
    refine zi_iload5 (pc := 8) hX dX10_least_8 ?_
    refine zi_iconst (pc := 10) hX dX10_least_10 ki_4 ?_
    refine zi_icmp_ge (pc := 11) 51 hX dX10_least_11 (by decide) (fun _ => ?_) (fun _ => ?_)
    · refine zi_iload4 (pc := 51) hX dX10_least_51 ?_
      exact zi_ret (pc := 53) hX dX10_least_53 rfl rfl rfl rfl
    · refine zi_aload0 (pc := 14) hX dX10_least_14 ?_
      refine zi_iload1 (pc := 15) hX dX10_least_15 ?_
      refine zi_iload2 (pc := 16) hX dX10_least_16 ?_
      refine zi_iload3 (pc := 17) hX dX10_least_17 ?_
      refine zi_iload5 (pc := 18) hX dX10_least_18 ?_
      refine zi_callI (zc_virt (pc := 20) hX dX10_least_20 tm_1797 md_X10_byHow mi_X10_byHow ly_61 (ct_Mo_byHow hX.sane x1 x2 x3 x5 g) rfl rfl rfl) (fun v1 g2 => ?_)
      refine zi_istore6 (pc := 23) hX dX10_least_23 rfl rfl ?_
      refine zi_iload6 (pc := 25) hX dX10_least_25 ?_
      refine zi_iload4 (pc := 27) hX dX10_least_27 ?_
      refine zi_icmp_lt (pc := 29) 35 hX dX10_least_29 (by decide) (fun _ => ?_) (fun _ => ?_)
      · refine zi_iload6 (pc := 35) hX dX10_least_35 ?_
        refine zi_istore4 (pc := 37) hX dX10_least_37 rfl rfl ?_
        refine zi_aload0 (pc := 39) hX dX10_least_39 ?_
        refine zi_iload5 (pc := 40) hX dX10_least_40 ?_
        refine zi_puti (pc := 42) hX dX10_least_42 fl_1410 ly_61 rfl rfl rfl (zi_bg (fun g3 => ?_))
        refine zi_iincb5 (pc := 45) hX dX10_least_45 (kn_1 _) rfl rfl (fun v4 => ?_)
        refine zi_goto (pc := 48) 8 hX dX10_least_48 (by decide) ?_
        refine zi_drop (le_s (le_s (le_s (le_s (le_s (le_s (le_n le_nil))))))) ?_; exact ih v1 v4 g3
      · refine zi_goto (pc := 32) 45 hX dX10_least_32 (by decide) ?_
        refine zi_iincb5 (pc := 45) hX dX10_least_45 (kn_1 _) rfl rfl (fun v5 => ?_)
        refine zi_goto (pc := 48) 8 hX dX10_least_48 (by decide) ?_
        refine zi_drop (le_s (le_s (le_s (le_s (le_s (le_s (le_n le_nil))))))) ?_; exact ih x4 v5 g2
theorem zw_Mo_least {X : et_X} {w : et_W} (hX : et_Gd X w cX10_least RX10 7 (some .int) [] rm_Mo_least) (p1 : Int32) (p2 : Int32) (p3 : Int32) (g : et_G) : et_Z X w 0 et_eI 0 [some (.ref (et_ad w 61)), some (.int p1), some (.int p2), some (.int p3), none, none, none] [] g (fn_Mo_least p1 p2 p3 g) := by
  unfold fn_Mo_least
  refine zi_sipush (pc := 0) hX dX10_least_0 ks_1000 ?_
  refine zi_istore4 (pc := 3) hX dX10_least_3 rfl rfl ?_
  refine zi_iconst (pc := 5) hX dX10_least_5 ki_0 ?_
  refine zi_istore5 (pc := 6) hX dX10_least_6 rfl rfl ?_
  exact zp_Mo_least_8 hX p1 p2 p3 1000000 (1000 : Int32) (0 : Int32) g
theorem ct_Mo_least {w : et_W} (hw : et_Sane w) (p1 : Int32) (p2 : Int32) (p3 : Int32) (g : et_G) : et_C w yX10_least (Cond.code yX10_least cX10_least 7 (some .int)) rm_Mo_least et_eI [.ref (et_ad w 61), .int p1, .int p2, .int p3] g (fn_Mo_least p1 p2 p3 g) := et_mk hw (by decide) rfl rfl (fun X hX => zw_Mo_least hX p1 p2 p3 g)
def rm_Mo_reckons : Room := { frames := 5, cells := 0, slots := 0, locals := 125 }
def fn_Mo_reckons_307 (x2 : Int32) : Nat → Int32 → et_G → Option (Unit × et_G)
  | 0, _, _ => none
  | n + 1, x4, g =>
    if (g.1 61 50) ≤ x4 then
      some ((), g)
    else
      et_bd (fn_Mo_of x4 (3 : Int32) g) (fun v3 g4 =>
      et_ck (et_ib x4 20) (et_b (et_si g4 87 x4.toNatClampNeg v3) (fun g5 =>
      if ((x2 >>> (x4 &&& 31)) &&& (1 : Int32)) = 0 then
        et_b (x4 + (1 : Int32)) (fun v17 =>
        fn_Mo_reckons_307 x2 n v17 g5)
      else
        et_ck (et_ib x4 20) (et_b (et_si g5 87 x4.toNatClampNeg (4 : Int32)) (fun g6 =>
        et_b (et_si g6 61 62 (4 : Int32)) (fun g7 =>
        et_ck (et_ib x4 20) (
        et_bd (fn_Mo_of x4 (2 : Int32) g7) (fun v8 g9 =>
        et_bd (fn_Mo_of x4 (4 : Int32) g9) (fun v10 g11 =>
        et_bd (fn_Mo_least (g7.1 90 x4.toNatClampNeg) v8 v10 g11) (fun v12 g13 =>
        if (1000 : Int32) ≤ v12 then
          et_b (x4 + (1 : Int32)) (fun v14 =>
          fn_Mo_reckons_307 x2 n v14 g13)
        else
          et_ck (et_ib x4 20) (et_b (et_si g13 87 x4.toNatClampNeg (g13.1 61 62)) (fun g15 =>
          et_b (x4 + (1 : Int32)) (fun v16 =>
          fn_Mo_reckons_307 x2 n v16 g15)))))))))))))
def fn_Mo_reckons_267 (r65 : Int32 → et_G → Option (Unit × et_G)) (r159 : Int32 → Int32 → et_G → Option (Unit × et_G)) (x1 : Int32) (x2 : Int32) (x3 : Int32) (x4 : Int32) (s0 : Int32) (g : et_G) : Option (Unit × et_G) :=
  et_ck (et_ib x4 20) (
  if s0 < (g.1 86 x4.toNatClampNeg) then
    et_ck (et_ib x4 20) (et_b (et_si g 86 x4.toNatClampNeg s0) (fun g27 =>
    et_b (x4 + (1 : Int32)) (fun v28 =>
    r159 (1 : Int32) v28 g27)))
  else
    et_b (x4 + (1 : Int32)) (fun v29 =>
    r159 x3 v29 g))
def fn_Mo_reckons_200 (r65 : Int32 → et_G → Option (Unit × et_G)) (r159 : Int32 → Int32 → et_G → Option (Unit × et_G)) (x1 : Int32) (x2 : Int32) (x3 : Int32) (x4 : Int32) (s0 : Int32) (g : et_G) : Option (Unit × et_G) :=
  if s0 = 0 then
    et_ck (et_ib x4 20) (
    et_bd (fn_Mo_of x4 (2 : Int32) g) (fun v19 g20 =>
    et_bd (fn_Mo_of x4 (4 : Int32) g20) (fun v21 g22 =>
    et_bd (fn_Mo_of x4 (3 : Int32) g22) (fun v23 g24 =>
    et_bd (fn_Mo_byHow (g.1 90 x4.toNatClampNeg) v19 v21 v23 g24) (fun v25 g26 =>
    fn_Mo_reckons_267 r65 r159 x1 x2 x3 x4 v25 g26)))))
  else
    et_ck (et_ib x4 20) (
    et_bd (fn_Mo_of x4 (2 : Int32) g) (fun v30 g31 =>
    et_bd (fn_Mo_of x4 (4 : Int32) g31) (fun v32 g33 =>
    et_bd (fn_Mo_least (g.1 90 x4.toNatClampNeg) v30 v32 g33) (fun v34 g35 =>
    fn_Mo_reckons_267 r65 r159 x1 x2 x3 x4 v34 g35))))
def fn_Mo_reckons_159 (r65 : Int32 → et_G → Option (Unit × et_G)) (x1 : Int32) (x2 : Int32) : Nat → Int32 → Int32 → et_G → Option (Unit × et_G)
  | 0, _, _, _ => none
  | n + 1, x3, x4, g =>
    if (g.1 61 50) ≤ x4 then
      r65 x3 g
    else
      if ((x1 >>> (x4 &&& 31)) &&& (1 : Int32)) = 0 then
        et_b (x4 + (1 : Int32)) (fun v36 =>
        fn_Mo_reckons_159 r65 x1 x2 n x3 v36 g)
      else
        et_b (et_si g 61 62 (4 : Int32)) (fun g18 =>
        if ((x2 >>> (x4 &&& 31)) &&& (1 : Int32)) = (1 : Int32) then
          fn_Mo_reckons_200 r65 (fun z3 z4 g => fn_Mo_reckons_159 r65 x1 x2 n z3 z4 g) x1 x2 x3 x4 (1 : Int32) g18
        else
          fn_Mo_reckons_200 r65 (fun z3 z4 g => fn_Mo_reckons_159 r65 x1 x2 n z3 z4 g) x1 x2 x3 x4 (0 : Int32) g18)
def fn_Mo_reckons_86 (r65 : Int32 → et_G → Option (Unit × et_G)) (r74 : Int32 → Int32 → et_G → Option (Unit × et_G)) (x1 : Int32) (x2 : Int32) (x4 : Int32) : Nat → Int32 → Int32 → et_G → Option (Unit × et_G)
  | 0, _, _, _ => none
  | n + 1, x3, x5, g =>
    if (g.1 61 5) ≤ x5 then
      et_b (x4 + (1 : Int32)) (fun v37 =>
      r74 x3 v37 g)
    else
      et_bd (fn_Mo_least x4 x5 (0 : Int32) g) (fun v38 g39 =>
      et_ck (et_ib (((8 : Int32) * x4) + x5) 168) (
      if v38 < (g39.1 91 (((8 : Int32) * x4) + x5).toNatClampNeg) then
        et_ck (et_ib (((8 : Int32) * x4) + x5) 168) (et_b (et_si g39 91 (((8 : Int32) * x4) + x5).toNatClampNeg v38) (fun g40 =>
        et_b (x5 + (1 : Int32)) (fun v41 =>
        fn_Mo_reckons_86 r65 r74 x1 x2 x4 n (1 : Int32) v41 g40)))
      else
        et_b (x5 + (1 : Int32)) (fun v42 =>
        fn_Mo_reckons_86 r65 r74 x1 x2 x4 n x3 v42 g39)))
def fn_Mo_reckons_74 (r65 : Int32 → et_G → Option (Unit × et_G)) (x1 : Int32) (x2 : Int32) : Nat → Int32 → Int32 → et_G → Option (Unit × et_G)
  | 0, _, _, _ => none
  | n + 1, x3, x4, g =>
    if (g.1 61 59) ≤ x4 then
      fn_Mo_reckons_159 r65 x1 x2 1000000 x3 (0 : Int32) g
    else
      fn_Mo_reckons_86 r65 (fun z3 z4 g => fn_Mo_reckons_74 r65 x1 x2 n z3 z4 g) x1 x2 x4 1000000 x3 (0 : Int32) g
def fn_Mo_reckons_65 (x1 : Int32) (x2 : Int32) : Nat → Int32 → et_G → Option (Unit × et_G)
  | 0, _, _ => none
  | n + 1, x3, g =>
    if x3 = 0 then
      fn_Mo_reckons_307 x2 1000000 (0 : Int32) g
    else
      fn_Mo_reckons_74 (fun z3 g => fn_Mo_reckons_65 x1 x2 n z3 g) x1 x2 1000000 (0 : Int32) (0 : Int32) g
def fn_Mo_reckons_37 (x1 : Int32) (x2 : Int32) : Nat → Int32 → et_G → Option (Unit × et_G)
  | 0, _, _ => none
  | n + 1, x3, g =>
    if ((8 : Int32) * (g.1 61 59)) ≤ x3 then
      fn_Mo_reckons_65 x1 x2 1000000 (1 : Int32) g
    else
      et_ck (et_ib x3 168) (et_b (et_si g 91 x3.toNatClampNeg (1000 : Int32)) (fun g43 =>
      et_b (x3 + (1 : Int32)) (fun v44 =>
      fn_Mo_reckons_37 x1 x2 n v44 g43)))
def fn_Mo_reckons_12 (x1 : Int32) (x2 : Int32) : Nat → Int32 → et_G → Option (Unit × et_G)
  | 0, _, _ => none
  | n + 1, x3, g =>
    if (g.1 61 50) ≤ x3 then
      fn_Mo_reckons_37 x1 x2 1000000 (0 : Int32) g
    else
      et_ck (et_ib x3 20) (et_b (et_si g 86 x3.toNatClampNeg (1000 : Int32)) (fun g45 =>
      et_b (x3 + (1 : Int32)) (fun v46 =>
      fn_Mo_reckons_12 x1 x2 n v46 g45)))
def fn_Mo_reckons (p1 : Int32) (p2 : Int32) (g : et_G) : Option (Unit × et_G) :=
  et_b (et_si g 61 60 p1) (fun g1 =>
  et_b (et_si g1 61 61 p2) (fun g2 =>
  fn_Mo_reckons_12 p1 p2 1000000 (0 : Int32) g2))
theorem zp_Mo_reckons_307 {X : et_X} {w : et_W} (hX : et_Gd X w cX10_reckons RX10 7 (none) [] rm_Mo_reckons) (x2 : Int32) : ∀ (n : Nat) (x4 : Int32) (g : et_G), et_Z X w 0 et_eU 307 [some (.ref (et_ad w 61)), none, some (.int x2), none, some (.int x4), none, none] [] g (fn_Mo_reckons_307 x2 n x4 g) := by
  intro n
  induction n with
  | zero =>
    intro x4 g a g2 h
    cases h
  | succ n ih =>
    intro x4 g
    rw [fn_Mo_reckons_307]
    refine zi_iload4 (pc := 307) hX dX10_reckons_307 ?_
    refine zi_aload0 (pc := 309) hX dX10_reckons_309 ?_
    refine zi_geti (pc := 310) hX dX10_reckons_310 fl_1398 ly_61 rfl ?_
    refine zi_icmp_ge (pc := 313) 403 hX dX10_reckons_313 (by decide) (fun _ => ?_) (fun _ => ?_)
    · exact zi_vret (pc := 403) hX dX10_reckons_403 rfl rfl rfl
    · refine zi_aload0 (pc := 316) hX dX10_reckons_316 ?_
      refine zi_getr (q := 87) (pc := 317) hX dX10_reckons_317 fl_1402 ly_61 rfl ?_
      refine zi_iload4 (pc := 320) hX dX10_reckons_320 ?_
      refine zi_aload0 (pc := 322) hX dX10_reckons_322 ?_
      refine zi_iload4 (pc := 323) hX dX10_reckons_323 ?_
      refine zi_iconst (pc := 325) hX dX10_reckons_325 ki_3 ?_
      refine zi_callI (zc_virt (pc := 326) hX dX10_reckons_326 tm_1773 md_X10_of mi_X10_of ly_61 (ct_Mo_of hX.sane x4 (3 : Int32) g) rfl rfl rfl) (fun v3 g4 => ?_)
      refine zi_iast (pc := 329) hX dX10_reckons_329 ly_87 (zi_bg (fun g5 => ?_))
      refine zi_iload2 (pc := 330) hX dX10_reckons_330 ?_
      refine zi_iload4 (pc := 331) hX dX10_reckons_331 ?_
      refine zi_ishr (pc := 333) hX dX10_reckons_333 ?_
      refine zi_iconst (pc := 334) hX dX10_reckons_334 ki_1 ?_
      refine zi_iand (pc := 335) hX dX10_reckons_335 ?_
      refine zi_if_ne (pc := 336) 342 hX dX10_reckons_336 (by decide) (fun _ => ?_) (fun _ => ?_)
      · refine zi_goto (pc := 339) 397 hX dX10_reckons_339 (by decide) ?_
        refine zi_iincb4 (pc := 397) hX dX10_reckons_397 (kn_1 _) rfl rfl (fun v17 => ?_)
        refine zi_goto (pc := 400) 307 hX dX10_reckons_400 (by decide) ?_
        exact ih v17 g5
      · refine zi_aload0 (pc := 342) hX dX10_reckons_342 ?_
        refine zi_getr (q := 87) (pc := 343) hX dX10_reckons_343 fl_1402 ly_61 rfl ?_
        refine zi_iload4 (pc := 346) hX dX10_reckons_346 ?_
        refine zi_iconst (pc := 348) hX dX10_reckons_348 ki_4 ?_
        refine zi_iast (pc := 349) hX dX10_reckons_349 ly_87 (zi_bg (fun g6 => ?_))
        refine zi_aload0 (pc := 350) hX dX10_reckons_350 ?_
        refine zi_iconst (pc := 351) hX dX10_reckons_351 ki_4 ?_
        refine zi_puti (pc := 352) hX dX10_reckons_352 fl_1410 ly_61 rfl rfl rfl (zi_bg (fun g7 => ?_))
        refine zi_aload0 (pc := 355) hX dX10_reckons_355 ?_
        refine zi_aload0 (pc := 356) hX dX10_reckons_356 ?_
        refine zi_getr (q := 90) (pc := 357) hX dX10_reckons_357 fl_1405 ly_61 rfl ?_
        refine zi_iload4 (pc := 360) hX dX10_reckons_360 ?_
        refine zi_iald (pc := 362) hX dX10_reckons_362 ly_90 ?_
        refine zi_aload0 (pc := 363) hX dX10_reckons_363 ?_
        refine zi_iload4 (pc := 364) hX dX10_reckons_364 ?_
        refine zi_iconst (pc := 366) hX dX10_reckons_366 ki_2 ?_
        refine zi_callI (zc_virt (pc := 367) hX dX10_reckons_367 tm_1773 md_X10_of mi_X10_of ly_61 (ct_Mo_of hX.sane x4 (2 : Int32) g7) rfl rfl rfl) (fun v8 g9 => ?_)
        refine zi_aload0 (pc := 370) hX dX10_reckons_370 ?_
        refine zi_iload4 (pc := 371) hX dX10_reckons_371 ?_
        refine zi_iconst (pc := 373) hX dX10_reckons_373 ki_4 ?_
        refine zi_callI (zc_virt (pc := 374) hX dX10_reckons_374 tm_1773 md_X10_of mi_X10_of ly_61 (ct_Mo_of hX.sane x4 (4 : Int32) g9) rfl rfl rfl) (fun v10 g11 => ?_)
        refine zi_callI (zc_virt (pc := 377) hX dX10_reckons_377 tm_1793 md_X10_least mi_X10_least ly_61 (ct_Mo_least hX.sane (g7.1 90 x4.toNatClampNeg) v8 v10 g11) rfl rfl rfl) (fun v12 g13 => ?_)
        refine zi_sipush (pc := 380) hX dX10_reckons_380 ks_1000 ?_
        refine zi_icmp_ge (pc := 383) 397 hX dX10_reckons_383 (by decide) (fun _ => ?_) (fun _ => ?_)
        · refine zi_iincb4 (pc := 397) hX dX10_reckons_397 (kn_1 _) rfl rfl (fun v14 => ?_)
          refine zi_goto (pc := 400) 307 hX dX10_reckons_400 (by decide) ?_
          exact ih v14 g13
        · refine zi_aload0 (pc := 386) hX dX10_reckons_386 ?_
          refine zi_getr (q := 87) (pc := 387) hX dX10_reckons_387 fl_1402 ly_61 rfl ?_
          refine zi_iload4 (pc := 390) hX dX10_reckons_390 ?_
          refine zi_aload0 (pc := 392) hX dX10_reckons_392 ?_
          refine zi_geti (pc := 393) hX dX10_reckons_393 fl_1410 ly_61 rfl ?_
          refine zi_iast (pc := 396) hX dX10_reckons_396 ly_87 (zi_bg (fun g15 => ?_))
          refine zi_iincb4 (pc := 397) hX dX10_reckons_397 (kn_1 _) rfl rfl (fun v16 => ?_)
          refine zi_goto (pc := 400) 307 hX dX10_reckons_400 (by decide) ?_
          exact ih v16 g15
theorem zp_Mo_reckons_267 {X : et_X} {w : et_W} (hX : et_Gd X w cX10_reckons RX10 7 (none) [] rm_Mo_reckons) (r65 : Int32 → et_G → Option (Unit × et_G)) (r159 : Int32 → Int32 → et_G → Option (Unit × et_G)) (x1 : Int32) (x2 : Int32) (x3 : Int32) (x4 : Int32) (s0 : Int32) (hr65 : ∀ (y3 : Int32) (g : et_G), et_Z X w 0 et_eU 65 [some (.ref (et_ad w 61)), some (.int x1), some (.int x2), some (.int y3), none, none, none] [] g (r65 y3 g)) (hr159 : ∀ (y3 : Int32) (y4 : Int32) (g : et_G), et_Z X w 0 et_eU 159 [some (.ref (et_ad w 61)), some (.int x1), some (.int x2), some (.int y3), some (.int y4), none, none] [] g (r159 y3 y4 g)) (g : et_G) : et_Z X w 0 et_eU 267 [some (.ref (et_ad w 61)), some (.int x1), some (.int x2), some (.int x3), some (.int x4), none, none] [.int s0] g (fn_Mo_reckons_267 r65 r159 x1 x2 x3 x4 s0 g) := by
  unfold fn_Mo_reckons_267
  refine zi_istore6 (pc := 267) hX dX10_reckons_267 rfl rfl ?_
  refine zi_iload6 (pc := 269) hX dX10_reckons_269 ?_
  refine zi_aload0 (pc := 271) hX dX10_reckons_271 ?_
  refine zi_getr (q := 86) (pc := 272) hX dX10_reckons_272 fl_1401 ly_61 rfl ?_
  refine zi_iload4 (pc := 275) hX dX10_reckons_275 ?_
  refine zi_iald (pc := 277) hX dX10_reckons_277 ly_86 ?_
  refine zi_icmp_lt (pc := 278) 284 hX dX10_reckons_278 (by decide) (fun _ => ?_) (fun _ => ?_)
  · refine zi_aload0 (pc := 284) hX dX10_reckons_284 ?_
    refine zi_getr (q := 86) (pc := 285) hX dX10_reckons_285 fl_1401 ly_61 rfl ?_
    refine zi_iload4 (pc := 288) hX dX10_reckons_288 ?_
    refine zi_iload6 (pc := 290) hX dX10_reckons_290 ?_
    refine zi_iast (pc := 292) hX dX10_reckons_292 ly_86 (zi_bg (fun g27 => ?_))
    refine zi_iconst (pc := 293) hX dX10_reckons_293 ki_1 ?_
    refine zi_istore3 (pc := 294) hX dX10_reckons_294 rfl rfl ?_
    refine zi_iincb4 (pc := 295) hX dX10_reckons_295 (kn_1 _) rfl rfl (fun v28 => ?_)
    refine zi_goto (pc := 298) 159 hX dX10_reckons_298 (by decide) ?_
    refine zi_drop (le_s (le_s (le_s (le_s (le_s (le_s (le_n le_nil))))))) ?_; exact hr159 (1 : Int32) v28 g27
  · refine zi_goto (pc := 281) 295 hX dX10_reckons_281 (by decide) ?_
    refine zi_iincb4 (pc := 295) hX dX10_reckons_295 (kn_1 _) rfl rfl (fun v29 => ?_)
    refine zi_goto (pc := 298) 159 hX dX10_reckons_298 (by decide) ?_
    refine zi_drop (le_s (le_s (le_s (le_s (le_s (le_s (le_n le_nil))))))) ?_; exact hr159 x3 v29 g
theorem zp_Mo_reckons_200 {X : et_X} {w : et_W} (hX : et_Gd X w cX10_reckons RX10 7 (none) [] rm_Mo_reckons) (r65 : Int32 → et_G → Option (Unit × et_G)) (r159 : Int32 → Int32 → et_G → Option (Unit × et_G)) (x1 : Int32) (x2 : Int32) (x3 : Int32) (x4 : Int32) (s0 : Int32) (hr65 : ∀ (y3 : Int32) (g : et_G), et_Z X w 0 et_eU 65 [some (.ref (et_ad w 61)), some (.int x1), some (.int x2), some (.int y3), none, none, none] [] g (r65 y3 g)) (hr159 : ∀ (y3 : Int32) (y4 : Int32) (g : et_G), et_Z X w 0 et_eU 159 [some (.ref (et_ad w 61)), some (.int x1), some (.int x2), some (.int y3), some (.int y4), none, none] [] g (r159 y3 y4 g)) (g : et_G) : et_Z X w 0 et_eU 200 [some (.ref (et_ad w 61)), some (.int x1), some (.int x2), some (.int x3), some (.int x4), none, none] [.int s0] g (fn_Mo_reckons_200 r65 r159 x1 x2 x3 x4 s0 g) := by
  unfold fn_Mo_reckons_200
  refine zi_istore5 (pc := 200) hX dX10_reckons_200 rfl rfl ?_
  refine zi_iload5 (pc := 202) hX dX10_reckons_202 ?_
  refine zi_if_eq (pc := 204) 235 hX dX10_reckons_204 (by decide) (fun _ => ?_) (fun _ => ?_)
  · refine zi_aload0 (pc := 235) hX dX10_reckons_235 ?_
    refine zi_aload0 (pc := 236) hX dX10_reckons_236 ?_
    refine zi_getr (q := 90) (pc := 237) hX dX10_reckons_237 fl_1405 ly_61 rfl ?_
    refine zi_iload4 (pc := 240) hX dX10_reckons_240 ?_
    refine zi_iald (pc := 242) hX dX10_reckons_242 ly_90 ?_
    refine zi_aload0 (pc := 243) hX dX10_reckons_243 ?_
    refine zi_iload4 (pc := 244) hX dX10_reckons_244 ?_
    refine zi_iconst (pc := 246) hX dX10_reckons_246 ki_2 ?_
    refine zi_callI (zc_virt (pc := 247) hX dX10_reckons_247 tm_1773 md_X10_of mi_X10_of ly_61 (ct_Mo_of hX.sane x4 (2 : Int32) g) rfl rfl rfl) (fun v19 g20 => ?_)
    refine zi_aload0 (pc := 250) hX dX10_reckons_250 ?_
    refine zi_iload4 (pc := 251) hX dX10_reckons_251 ?_
    refine zi_iconst (pc := 253) hX dX10_reckons_253 ki_4 ?_
    refine zi_callI (zc_virt (pc := 254) hX dX10_reckons_254 tm_1773 md_X10_of mi_X10_of ly_61 (ct_Mo_of hX.sane x4 (4 : Int32) g20) rfl rfl rfl) (fun v21 g22 => ?_)
    refine zi_aload0 (pc := 257) hX dX10_reckons_257 ?_
    refine zi_iload4 (pc := 258) hX dX10_reckons_258 ?_
    refine zi_iconst (pc := 260) hX dX10_reckons_260 ki_3 ?_
    refine zi_callI (zc_virt (pc := 261) hX dX10_reckons_261 tm_1773 md_X10_of mi_X10_of ly_61 (ct_Mo_of hX.sane x4 (3 : Int32) g22) rfl rfl rfl) (fun v23 g24 => ?_)
    refine zi_callI (zc_virt (pc := 264) hX dX10_reckons_264 tm_1797 md_X10_byHow mi_X10_byHow ly_61 (ct_Mo_byHow hX.sane (g.1 90 x4.toNatClampNeg) v19 v21 v23 g24) rfl rfl rfl) (fun v25 g26 => ?_)
    refine zi_drop (le_s (le_s (le_s (le_s (le_s (le_n (le_s le_nil))))))) ?_; exact zp_Mo_reckons_267 hX r65 r159 x1 x2 x3 x4 v25 hr65 hr159 g26
  · refine zi_aload0 (pc := 207) hX dX10_reckons_207 ?_
    refine zi_aload0 (pc := 208) hX dX10_reckons_208 ?_
    refine zi_getr (q := 90) (pc := 209) hX dX10_reckons_209 fl_1405 ly_61 rfl ?_
    refine zi_iload4 (pc := 212) hX dX10_reckons_212 ?_
    refine zi_iald (pc := 214) hX dX10_reckons_214 ly_90 ?_
    refine zi_aload0 (pc := 215) hX dX10_reckons_215 ?_
    refine zi_iload4 (pc := 216) hX dX10_reckons_216 ?_
    refine zi_iconst (pc := 218) hX dX10_reckons_218 ki_2 ?_
    refine zi_callI (zc_virt (pc := 219) hX dX10_reckons_219 tm_1773 md_X10_of mi_X10_of ly_61 (ct_Mo_of hX.sane x4 (2 : Int32) g) rfl rfl rfl) (fun v30 g31 => ?_)
    refine zi_aload0 (pc := 222) hX dX10_reckons_222 ?_
    refine zi_iload4 (pc := 223) hX dX10_reckons_223 ?_
    refine zi_iconst (pc := 225) hX dX10_reckons_225 ki_4 ?_
    refine zi_callI (zc_virt (pc := 226) hX dX10_reckons_226 tm_1773 md_X10_of mi_X10_of ly_61 (ct_Mo_of hX.sane x4 (4 : Int32) g31) rfl rfl rfl) (fun v32 g33 => ?_)
    refine zi_callI (zc_virt (pc := 229) hX dX10_reckons_229 tm_1793 md_X10_least mi_X10_least ly_61 (ct_Mo_least hX.sane (g.1 90 x4.toNatClampNeg) v30 v32 g33) rfl rfl rfl) (fun v34 g35 => ?_)
    refine zi_goto (pc := 232) 267 hX dX10_reckons_232 (by decide) ?_
    refine zi_drop (le_s (le_s (le_s (le_s (le_s (le_n (le_s le_nil))))))) ?_; exact zp_Mo_reckons_267 hX r65 r159 x1 x2 x3 x4 v34 hr65 hr159 g35
theorem zp_Mo_reckons_159 {X : et_X} {w : et_W} (hX : et_Gd X w cX10_reckons RX10 7 (none) [] rm_Mo_reckons) (r65 : Int32 → et_G → Option (Unit × et_G)) (x1 : Int32) (x2 : Int32) (hr65 : ∀ (y3 : Int32) (g : et_G), et_Z X w 0 et_eU 65 [some (.ref (et_ad w 61)), some (.int x1), some (.int x2), some (.int y3), none, none, none] [] g (r65 y3 g)) : ∀ (n : Nat) (x3 : Int32) (x4 : Int32) (g : et_G), et_Z X w 0 et_eU 159 [some (.ref (et_ad w 61)), some (.int x1), some (.int x2), some (.int x3), some (.int x4), none, none] [] g (fn_Mo_reckons_159 r65 x1 x2 n x3 x4 g) := by
  intro n
  induction n with
  | zero =>
    intro x3 x4 g a g2 h
    cases h
  | succ n ih =>
    intro x3 x4 g
    rw [fn_Mo_reckons_159]
    refine zi_iload4 (pc := 159) hX dX10_reckons_159 ?_
    refine zi_aload0 (pc := 161) hX dX10_reckons_161 ?_
    refine zi_geti (pc := 162) hX dX10_reckons_162 fl_1398 ly_61 rfl ?_
    refine zi_icmp_ge (pc := 165) 301 hX dX10_reckons_165 (by decide) (fun _ => ?_) (fun _ => ?_)
    · refine zi_goto (pc := 301) 65 hX dX10_reckons_301 (by decide) ?_
      refine zi_drop (le_s (le_s (le_s (le_s (le_n (le_s (le_s le_nil))))))) ?_; exact hr65 x3 g
    · refine zi_iload1 (pc := 168) hX dX10_reckons_168 ?_
      refine zi_iload4 (pc := 169) hX dX10_reckons_169 ?_
      refine zi_ishr (pc := 171) hX dX10_reckons_171 ?_
      refine zi_iconst (pc := 172) hX dX10_reckons_172 ki_1 ?_
      refine zi_iand (pc := 173) hX dX10_reckons_173 ?_
      refine zi_if_ne (pc := 174) 180 hX dX10_reckons_174 (by decide) (fun _ => ?_) (fun _ => ?_)
      · refine zi_goto (pc := 177) 295 hX dX10_reckons_177 (by decide) ?_
        refine zi_iincb4 (pc := 295) hX dX10_reckons_295 (kn_1 _) rfl rfl (fun v36 => ?_)
        refine zi_goto (pc := 298) 159 hX dX10_reckons_298 (by decide) ?_
        exact ih x3 v36 g
      · refine zi_aload0 (pc := 180) hX dX10_reckons_180 ?_
        refine zi_iconst (pc := 181) hX dX10_reckons_181 ki_4 ?_
        refine zi_puti (pc := 182) hX dX10_reckons_182 fl_1410 ly_61 rfl rfl rfl (zi_bg (fun g18 => ?_))
        refine zi_iload2 (pc := 185) hX dX10_reckons_185 ?_
        refine zi_iload4 (pc := 186) hX dX10_reckons_186 ?_
        refine zi_ishr (pc := 188) hX dX10_reckons_188 ?_
        refine zi_iconst (pc := 189) hX dX10_reckons_189 ki_1 ?_
        refine zi_iand (pc := 190) hX dX10_reckons_190 ?_
        refine zi_iconst (pc := 191) hX dX10_reckons_191 ki_1 ?_
        refine zi_icmp_ne (pc := 192) 199 hX dX10_reckons_192 (by decide) (fun _ => ?_) (fun _ => ?_)
        · refine zi_iconst (pc := 195) hX dX10_reckons_195 ki_1 ?_
          refine zi_goto (pc := 196) 200 hX dX10_reckons_196 (by decide) ?_
          exact zp_Mo_reckons_200 hX r65 (fun z3 z4 g => fn_Mo_reckons_159 r65 x1 x2 n z3 z4 g) x1 x2 x3 x4 (1 : Int32) hr65 (fun z3 z4 g => ih z3 z4 g) g18
        · refine zi_iconst (pc := 199) hX dX10_reckons_199 ki_0 ?_
          exact zp_Mo_reckons_200 hX r65 (fun z3 z4 g => fn_Mo_reckons_159 r65 x1 x2 n z3 z4 g) x1 x2 x3 x4 (0 : Int32) hr65 (fun z3 z4 g => ih z3 z4 g) g18
theorem zp_Mo_reckons_86 {X : et_X} {w : et_W} (hX : et_Gd X w cX10_reckons RX10 7 (none) [] rm_Mo_reckons) (r65 : Int32 → et_G → Option (Unit × et_G)) (r74 : Int32 → Int32 → et_G → Option (Unit × et_G)) (x1 : Int32) (x2 : Int32) (x4 : Int32) (hr65 : ∀ (y3 : Int32) (g : et_G), et_Z X w 0 et_eU 65 [some (.ref (et_ad w 61)), some (.int x1), some (.int x2), some (.int y3), none, none, none] [] g (r65 y3 g)) (hr74 : ∀ (y3 : Int32) (y4 : Int32) (g : et_G), et_Z X w 0 et_eU 74 [some (.ref (et_ad w 61)), some (.int x1), some (.int x2), some (.int y3), some (.int y4), none, none] [] g (r74 y3 y4 g)) : ∀ (n : Nat) (x3 : Int32) (x5 : Int32) (g : et_G), et_Z X w 0 et_eU 86 [some (.ref (et_ad w 61)), some (.int x1), some (.int x2), some (.int x3), some (.int x4), some (.int x5), none] [] g (fn_Mo_reckons_86 r65 r74 x1 x2 x4 n x3 x5 g) := by
  intro n
  induction n with
  | zero =>
    intro x3 x5 g a g2 h
    cases h
  | succ n ih =>
    intro x3 x5 g
    rw [fn_Mo_reckons_86]
    refine zi_iload5 (pc := 86) hX dX10_reckons_86 ?_
    refine zi_aload0 (pc := 88) hX dX10_reckons_88 ?_
    refine zi_geti (pc := 89) hX dX10_reckons_89 fl_1353 ly_61 rfl ?_
    refine zi_icmp_ge (pc := 92) 150 hX dX10_reckons_92 (by decide) (fun _ => ?_) (fun _ => ?_)
    · refine zi_iincb4 (pc := 150) hX dX10_reckons_150 (kn_1 _) rfl rfl (fun v37 => ?_)
      refine zi_goto (pc := 153) 74 hX dX10_reckons_153 (by decide) ?_
      refine zi_drop (le_s (le_s (le_s (le_s (le_s (le_n (le_s le_nil))))))) ?_; exact hr74 x3 v37 g
    · refine zi_aload0 (pc := 95) hX dX10_reckons_95 ?_
      refine zi_iload4 (pc := 96) hX dX10_reckons_96 ?_
      refine zi_iload5 (pc := 98) hX dX10_reckons_98 ?_
      refine zi_iconst (pc := 100) hX dX10_reckons_100 ki_0 ?_
      refine zi_callI (zc_virt (pc := 101) hX dX10_reckons_101 tm_1793 md_X10_least mi_X10_least ly_61 (ct_Mo_least hX.sane x4 x5 (0 : Int32) g) rfl rfl rfl) (fun v38 g39 => ?_)
      refine zi_istore6 (pc := 104) hX dX10_reckons_104 rfl rfl ?_
      refine zi_iload6 (pc := 106) hX dX10_reckons_106 ?_
      refine zi_aload0 (pc := 108) hX dX10_reckons_108 ?_
      refine zi_getr (q := 91) (pc := 109) hX dX10_reckons_109 fl_1406 ly_61 rfl ?_
      refine zi_bipush (pc := 112) hX dX10_reckons_112 kb_8 ?_
      refine zi_iload4 (pc := 114) hX dX10_reckons_114 ?_
      refine zi_imul (pc := 116) hX dX10_reckons_116 ?_
      refine zi_iload5 (pc := 117) hX dX10_reckons_117 ?_
      refine zi_iadd (pc := 119) hX dX10_reckons_119 ?_
      refine zi_iald (pc := 120) hX dX10_reckons_120 ly_91 ?_
      refine zi_icmp_lt (pc := 121) 127 hX dX10_reckons_121 (by decide) (fun _ => ?_) (fun _ => ?_)
      · refine zi_aload0 (pc := 127) hX dX10_reckons_127 ?_
        refine zi_getr (q := 91) (pc := 128) hX dX10_reckons_128 fl_1406 ly_61 rfl ?_
        refine zi_bipush (pc := 131) hX dX10_reckons_131 kb_8 ?_
        refine zi_iload4 (pc := 133) hX dX10_reckons_133 ?_
        refine zi_imul (pc := 135) hX dX10_reckons_135 ?_
        refine zi_iload5 (pc := 136) hX dX10_reckons_136 ?_
        refine zi_iadd (pc := 138) hX dX10_reckons_138 ?_
        refine zi_iload6 (pc := 139) hX dX10_reckons_139 ?_
        refine zi_iast (pc := 141) hX dX10_reckons_141 ly_91 (zi_bg (fun g40 => ?_))
        refine zi_iconst (pc := 142) hX dX10_reckons_142 ki_1 ?_
        refine zi_istore3 (pc := 143) hX dX10_reckons_143 rfl rfl ?_
        refine zi_iincb5 (pc := 144) hX dX10_reckons_144 (kn_1 _) rfl rfl (fun v41 => ?_)
        refine zi_goto (pc := 147) 86 hX dX10_reckons_147 (by decide) ?_
        refine zi_drop (le_s (le_s (le_s (le_s (le_s (le_s (le_n le_nil))))))) ?_; exact ih (1 : Int32) v41 g40
      · refine zi_goto (pc := 124) 144 hX dX10_reckons_124 (by decide) ?_
        refine zi_iincb5 (pc := 144) hX dX10_reckons_144 (kn_1 _) rfl rfl (fun v42 => ?_)
        refine zi_goto (pc := 147) 86 hX dX10_reckons_147 (by decide) ?_
        refine zi_drop (le_s (le_s (le_s (le_s (le_s (le_s (le_n le_nil))))))) ?_; exact ih x3 v42 g39
theorem zp_Mo_reckons_74 {X : et_X} {w : et_W} (hX : et_Gd X w cX10_reckons RX10 7 (none) [] rm_Mo_reckons) (r65 : Int32 → et_G → Option (Unit × et_G)) (x1 : Int32) (x2 : Int32) (hr65 : ∀ (y3 : Int32) (g : et_G), et_Z X w 0 et_eU 65 [some (.ref (et_ad w 61)), some (.int x1), some (.int x2), some (.int y3), none, none, none] [] g (r65 y3 g)) : ∀ (n : Nat) (x3 : Int32) (x4 : Int32) (g : et_G), et_Z X w 0 et_eU 74 [some (.ref (et_ad w 61)), some (.int x1), some (.int x2), some (.int x3), some (.int x4), none, none] [] g (fn_Mo_reckons_74 r65 x1 x2 n x3 x4 g) := by
  intro n
  induction n with
  | zero =>
    intro x3 x4 g a g2 h
    cases h
  | succ n ih =>
    intro x3 x4 g
    rw [fn_Mo_reckons_74]
    refine zi_iload4 (pc := 74) hX dX10_reckons_74 ?_
    refine zi_aload0 (pc := 76) hX dX10_reckons_76 ?_
    refine zi_geti (pc := 77) hX dX10_reckons_77 fl_1407 ly_61 rfl ?_
    refine zi_icmp_ge (pc := 80) 156 hX dX10_reckons_80 (by decide) (fun _ => ?_) (fun _ => ?_)
    · refine zi_iconst (pc := 156) hX dX10_reckons_156 ki_0 ?_
      refine zi_istore4 (pc := 157) hX dX10_reckons_157 rfl rfl ?_
      exact zp_Mo_reckons_159 hX r65 x1 x2 hr65 1000000 x3 (0 : Int32) g
    · refine zi_iconst (pc := 83) hX dX10_reckons_83 ki_0 ?_
      refine zi_istore5 (pc := 84) hX dX10_reckons_84 rfl rfl ?_
      exact zp_Mo_reckons_86 hX r65 (fun z3 z4 g => fn_Mo_reckons_74 r65 x1 x2 n z3 z4 g) x1 x2 x4 hr65 (fun z3 z4 g => ih z3 z4 g) 1000000 x3 (0 : Int32) g
theorem zp_Mo_reckons_65 {X : et_X} {w : et_W} (hX : et_Gd X w cX10_reckons RX10 7 (none) [] rm_Mo_reckons) (x1 : Int32) (x2 : Int32) : ∀ (n : Nat) (x3 : Int32) (g : et_G), et_Z X w 0 et_eU 65 [some (.ref (et_ad w 61)), some (.int x1), some (.int x2), some (.int x3), none, none, none] [] g (fn_Mo_reckons_65 x1 x2 n x3 g) := by
  intro n
  induction n with
  | zero =>
    intro x3 g a g2 h
    cases h
  | succ n ih =>
    intro x3 g
    rw [fn_Mo_reckons_65]
    refine zi_iload3 (pc := 65) hX dX10_reckons_65 ?_
    refine zi_if_eq (pc := 66) 304 hX dX10_reckons_66 (by decide) (fun _ => ?_) (fun _ => ?_)
    · refine zi_iconst (pc := 304) hX dX10_reckons_304 ki_0 ?_
      refine zi_istore4 (pc := 305) hX dX10_reckons_305 rfl rfl ?_
      refine zi_drop (le_s (le_n (le_s (le_n (le_s (le_s (le_s le_nil))))))) ?_; exact zp_Mo_reckons_307 hX x2 1000000 (0 : Int32) g
    · refine zi_iconst (pc := 69) hX dX10_reckons_69 ki_0 ?_
      refine zi_istore3 (pc := 70) hX dX10_reckons_70 rfl rfl ?_
      refine zi_iconst (pc := 71) hX dX10_reckons_71 ki_0 ?_
      refine zi_istore4 (pc := 72) hX dX10_reckons_72 rfl rfl ?_
      exact zp_Mo_reckons_74 hX (fun z3 g => fn_Mo_reckons_65 x1 x2 n z3 g) x1 x2 (fun z3 g => ih z3 g) 1000000 (0 : Int32) (0 : Int32) g
theorem zp_Mo_reckons_37 {X : et_X} {w : et_W} (hX : et_Gd X w cX10_reckons RX10 7 (none) [] rm_Mo_reckons) (x1 : Int32) (x2 : Int32) : ∀ (n : Nat) (x3 : Int32) (g : et_G), et_Z X w 0 et_eU 37 [some (.ref (et_ad w 61)), some (.int x1), some (.int x2), some (.int x3), none, none, none] [] g (fn_Mo_reckons_37 x1 x2 n x3 g) := by
  intro n
  induction n with
  | zero =>
    intro x3 g a g2 h
    cases h
  | succ n ih =>
    intro x3 g
    rw [fn_Mo_reckons_37]
    refine zi_iload3 (pc := 37) hX dX10_reckons_37 ?_
    refine zi_bipush (pc := 38) hX dX10_reckons_38 kb_8 ?_
    refine zi_aload0 (pc := 40) hX dX10_reckons_40 ?_
    refine zi_geti (pc := 41) hX dX10_reckons_41 fl_1407 ly_61 rfl ?_
    refine zi_imul (pc := 44) hX dX10_reckons_44 ?_
    refine zi_icmp_ge (pc := 45) 63 hX dX10_reckons_45 (by decide) (fun _ => ?_) (fun _ => ?_)
    · refine zi_iconst (pc := 63) hX dX10_reckons_63 ki_1 ?_
      refine zi_istore3 (pc := 64) hX dX10_reckons_64 rfl rfl ?_
      exact zp_Mo_reckons_65 hX x1 x2 1000000 (1 : Int32) g
    · refine zi_aload0 (pc := 48) hX dX10_reckons_48 ?_
      refine zi_getr (q := 91) (pc := 49) hX dX10_reckons_49 fl_1406 ly_61 rfl ?_
      refine zi_iload3 (pc := 52) hX dX10_reckons_52 ?_
      refine zi_sipush (pc := 53) hX dX10_reckons_53 ks_1000 ?_
      refine zi_iast (pc := 56) hX dX10_reckons_56 ly_91 (zi_bg (fun g43 => ?_))
      refine zi_iincb3 (pc := 57) hX dX10_reckons_57 (kn_1 _) rfl rfl (fun v44 => ?_)
      refine zi_goto (pc := 60) 37 hX dX10_reckons_60 (by decide) ?_
      exact ih v44 g43
theorem zp_Mo_reckons_12 {X : et_X} {w : et_W} (hX : et_Gd X w cX10_reckons RX10 7 (none) [] rm_Mo_reckons) (x1 : Int32) (x2 : Int32) : ∀ (n : Nat) (x3 : Int32) (g : et_G), et_Z X w 0 et_eU 12 [some (.ref (et_ad w 61)), some (.int x1), some (.int x2), some (.int x3), none, none, none] [] g (fn_Mo_reckons_12 x1 x2 n x3 g) := by
  intro n
  induction n with
  | zero =>
    intro x3 g a g2 h
    cases h
  | succ n ih =>
    intro x3 g
    rw [fn_Mo_reckons_12]
    refine zi_iload3 (pc := 12) hX dX10_reckons_12 ?_
    refine zi_aload0 (pc := 13) hX dX10_reckons_13 ?_
    refine zi_geti (pc := 14) hX dX10_reckons_14 fl_1398 ly_61 rfl ?_
    refine zi_icmp_ge (pc := 17) 35 hX dX10_reckons_17 (by decide) (fun _ => ?_) (fun _ => ?_)
    · refine zi_iconst (pc := 35) hX dX10_reckons_35 ki_0 ?_
      refine zi_istore3 (pc := 36) hX dX10_reckons_36 rfl rfl ?_
      exact zp_Mo_reckons_37 hX x1 x2 1000000 (0 : Int32) g
    · refine zi_aload0 (pc := 20) hX dX10_reckons_20 ?_
      refine zi_getr (q := 86) (pc := 21) hX dX10_reckons_21 fl_1401 ly_61 rfl ?_
      refine zi_iload3 (pc := 24) hX dX10_reckons_24 ?_
      refine zi_sipush (pc := 25) hX dX10_reckons_25 ks_1000 ?_
      refine zi_iast (pc := 28) hX dX10_reckons_28 ly_86 (zi_bg (fun g45 => ?_))
      refine zi_iincb3 (pc := 29) hX dX10_reckons_29 (kn_1 _) rfl rfl (fun v46 => ?_)
      refine zi_goto (pc := 32) 12 hX dX10_reckons_32 (by decide) ?_
      exact ih v46 g45
theorem zw_Mo_reckons {X : et_X} {w : et_W} (hX : et_Gd X w cX10_reckons RX10 7 (none) [] rm_Mo_reckons) (p1 : Int32) (p2 : Int32) (g : et_G) : et_Z X w 0 et_eU 0 [some (.ref (et_ad w 61)), some (.int p1), some (.int p2), none, none, none, none] [] g (fn_Mo_reckons p1 p2 g) := by
  unfold fn_Mo_reckons
  refine zi_aload0 (pc := 0) hX dX10_reckons_0 ?_
  refine zi_iload1 (pc := 1) hX dX10_reckons_1 ?_
  refine zi_puti (pc := 2) hX dX10_reckons_2 fl_1408 ly_61 rfl rfl rfl (zi_bg (fun g1 => ?_))
  refine zi_aload0 (pc := 5) hX dX10_reckons_5 ?_
  refine zi_iload2 (pc := 6) hX dX10_reckons_6 ?_
  refine zi_puti (pc := 7) hX dX10_reckons_7 fl_1409 ly_61 rfl rfl rfl (zi_bg (fun g2 => ?_))
  refine zi_iconst (pc := 10) hX dX10_reckons_10 ki_0 ?_
  refine zi_istore3 (pc := 11) hX dX10_reckons_11 rfl rfl ?_
  exact zp_Mo_reckons_12 hX p1 p2 1000000 (0 : Int32) g2
theorem ct_Mo_reckons {w : et_W} (hw : et_Sane w) (p1 : Int32) (p2 : Int32) (g : et_G) : et_C w yX10_reckons (Cond.code yX10_reckons cX10_reckons 7 (none)) rm_Mo_reckons et_eU [.ref (et_ad w 61), .int p1, .int p2] g (fn_Mo_reckons p1 p2 g) := et_mk hw (by decide) rfl rfl (fun X hX => zw_Mo_reckons hX p1 p2 g)
def rm_Mo_could : Room := { frames := 6, cells := 0, slots := 0, locals := 151 }
def fn_Mo_could_75 (r53 : Int32 → Int32 → et_G → Option (Int32 × et_G)) (x3 : Int32) (x4 : Int32) (x5 : Int32) (x7 : Int32) (s0 : Int32) (s1 : Int32) (s2 : Int32) (s4 : Int32) (g : et_G) : Option (Int32 × et_G) :=
  et_bd (fn_Mo_byHow s2 s1 s0 x7 g) (fun v14 g15 =>
  if (1000 : Int32) ≤ v14 then
    et_b (s4 ||| (0 : Int32)) (fun v16 =>
    et_b (x7 + (1 : Int32)) (fun v17 =>
    r53 v16 v17 g15))
  else
    et_b (s4 ||| ((1 : Int32) <<< (x7 &&& 31))) (fun v18 =>
    et_b (x7 + (1 : Int32)) (fun v19 =>
    r53 v18 v19 g15)))
def fn_Mo_could_53 (x3 : Int32) (x4 : Int32) (x5 : Int32) : Nat → Int32 → Int32 → et_G → Option (Int32 × et_G)
  | 0, _, _, _ => none
  | n + 1, x6, x7, g =>
    if (4 : Int32) < x7 then
      some (x6, g)
    else
      if x4 = 0 then
        fn_Mo_could_75 (fun z6 z7 g => fn_Mo_could_53 x3 x4 x5 n z6 z7 g) x3 x4 x5 x7 (0 : Int32) x3 x5 x6 g
      else
        fn_Mo_could_75 (fun z6 z7 g => fn_Mo_could_53 x3 x4 x5 n z6 z7 g) x3 x4 x5 x7 (1 : Int32) x3 x5 x6 g
def fn_Mo_could (p1 : Int32) (p2 : Int32) (p3 : Int32) (p4 : Int32) (g : et_G) : Option (Int32 × et_G) :=
  et_b (et_si g 61 0 (0 : Int32)) (fun g1 =>
  et_bd (fn_Mo_isWho p1 p2 g1) (fun v2 g3 =>
  if v2 = 0 then
    some ((0 : Int32), g3)
  else
    et_bd (fn_Mo_isThing p3 g3) (fun v4 g5 =>
    if v4 = 0 then
      some ((0 : Int32), g5)
    else
      et_bd (fn_Mo_asks p1 p2 g5) (fun _ g7 =>
      et_bd (fn_Mo_all g7) (fun v8 g9 =>
      et_bd (fn_Mo_reckons v8 (0 : Int32) g9) (fun _ g11 =>
      et_bd (fn_Mo_pairAt p1 p2 g11) (fun v12 g13 =>
      fn_Mo_could_53 p3 p4 v12 1000000 (0 : Int32) (0 : Int32) g13)))))))
theorem zp_Mo_could_75 {X : et_X} {w : et_W} (hX : et_Gd X w cX10_could RX10 8 (some .int) [] rm_Mo_could) (r53 : Int32 → Int32 → et_G → Option (Int32 × et_G)) (x3 : Int32) (x4 : Int32) (x5 : Int32) (x7 : Int32) (s0 : Int32) (s1 : Int32) (s2 : Int32) (s4 : Int32) (hr53 : ∀ (y6 : Int32) (y7 : Int32) (g : et_G), et_Z X w 0 et_eI 53 [some (.ref (et_ad w 61)), none, none, some (.int x3), some (.int x4), some (.int x5), some (.int y6), some (.int y7)] [] g (r53 y6 y7 g)) (g : et_G) : et_Z X w 0 et_eI 75 [some (.ref (et_ad w 61)), none, none, some (.int x3), some (.int x4), some (.int x5), none, some (.int x7)] [.int s0, .int s1, .int s2, .ref (et_ad w 61), .int s4] g (fn_Mo_could_75 r53 x3 x4 x5 x7 s0 s1 s2 s4 g) := by
  unfold fn_Mo_could_75
  refine zi_iload7 (pc := 75) hX dX10_could_75 ?_
  refine zi_callI (zc_virt (pc := 77) hX dX10_could_77 tm_1797 md_X10_byHow mi_X10_byHow ly_61 (ct_Mo_byHow hX.sane s2 s1 s0 x7 g) rfl rfl rfl) (fun v14 g15 => ?_)
  refine zi_sipush (pc := 80) hX dX10_could_80 ks_1000 ?_
  refine zi_icmp_ge (pc := 83) 93 hX dX10_could_83 (by decide) (fun _ => ?_) (fun _ => ?_)
  · refine zi_iconst (pc := 93) hX dX10_could_93 ki_0 ?_
    refine zi_ior (pc := 94) hX dX10_could_94 ?_
    refine zi_bi (fun v16 => ?_)
    refine zi_istore6 (pc := 95) hX dX10_could_95 rfl rfl ?_
    refine zi_iincb7 (pc := 97) hX dX10_could_97 (kn_1 _) rfl rfl (fun v17 => ?_)
    refine zi_goto (pc := 100) 53 hX dX10_could_100 (by decide) ?_
    exact hr53 v16 v17 g15
  · refine zi_iconst (pc := 86) hX dX10_could_86 ki_1 ?_
    refine zi_iload7 (pc := 87) hX dX10_could_87 ?_
    refine zi_ishl (pc := 89) hX dX10_could_89 ?_
    refine zi_goto (pc := 90) 94 hX dX10_could_90 (by decide) ?_
    refine zi_ior (pc := 94) hX dX10_could_94 ?_
    refine zi_bi (fun v18 => ?_)
    refine zi_istore6 (pc := 95) hX dX10_could_95 rfl rfl ?_
    refine zi_iincb7 (pc := 97) hX dX10_could_97 (kn_1 _) rfl rfl (fun v19 => ?_)
    refine zi_goto (pc := 100) 53 hX dX10_could_100 (by decide) ?_
    exact hr53 v18 v19 g15
theorem zp_Mo_could_53 {X : et_X} {w : et_W} (hX : et_Gd X w cX10_could RX10 8 (some .int) [] rm_Mo_could) (x3 : Int32) (x4 : Int32) (x5 : Int32) : ∀ (n : Nat) (x6 : Int32) (x7 : Int32) (g : et_G), et_Z X w 0 et_eI 53 [some (.ref (et_ad w 61)), none, none, some (.int x3), some (.int x4), some (.int x5), some (.int x6), some (.int x7)] [] g (fn_Mo_could_53 x3 x4 x5 n x6 x7 g) := by
  intro n
  induction n with
  | zero =>
    intro x6 x7 g a g2 h
    cases h
  | succ n ih =>
    intro x6 x7 g
    rw [fn_Mo_could_53]
    refine zi_iload7 (pc := 53) hX dX10_could_53 ?_
    refine zi_iconst (pc := 55) hX dX10_could_55 ki_4 ?_
    refine zi_icmp_gt (pc := 56) 103 hX dX10_could_56 (by decide) (fun _ => ?_) (fun _ => ?_)
    · refine zi_iload6 (pc := 103) hX dX10_could_103 ?_
      exact zi_ret (pc := 105) hX dX10_could_105 rfl rfl rfl rfl
    · refine zi_iload6 (pc := 59) hX dX10_could_59 ?_
      refine zi_aload0 (pc := 61) hX dX10_could_61 ?_
      refine zi_iload5 (pc := 62) hX dX10_could_62 ?_
      refine zi_iload3 (pc := 64) hX dX10_could_64 ?_
      refine zi_iload4 (pc := 65) hX dX10_could_65 ?_
      refine zi_if_eq (pc := 67) 74 hX dX10_could_67 (by decide) (fun _ => ?_) (fun _ => ?_)
      · refine zi_iconst (pc := 74) hX dX10_could_74 ki_0 ?_
        refine zi_drop (le_s (le_s (le_s (le_s (le_s (le_s (le_n (le_s le_nil)))))))) ?_; exact zp_Mo_could_75 hX (fun z6 z7 g => fn_Mo_could_53 x3 x4 x5 n z6 z7 g) x3 x4 x5 x7 (0 : Int32) x3 x5 x6 (fun z6 z7 g => ih z6 z7 g) g
      · refine zi_iconst (pc := 70) hX dX10_could_70 ki_1 ?_
        refine zi_goto (pc := 71) 75 hX dX10_could_71 (by decide) ?_
        refine zi_drop (le_s (le_s (le_s (le_s (le_s (le_s (le_n (le_s le_nil)))))))) ?_; exact zp_Mo_could_75 hX (fun z6 z7 g => fn_Mo_could_53 x3 x4 x5 n z6 z7 g) x3 x4 x5 x7 (1 : Int32) x3 x5 x6 (fun z6 z7 g => ih z6 z7 g) g
theorem zw_Mo_could {X : et_X} {w : et_W} (hX : et_Gd X w cX10_could RX10 8 (some .int) [] rm_Mo_could) (p1 : Int32) (p2 : Int32) (p3 : Int32) (p4 : Int32) (g : et_G) : et_Z X w 0 et_eI 0 [some (.ref (et_ad w 61)), some (.int p1), some (.int p2), some (.int p3), some (.int p4), none, none, none] [] g (fn_Mo_could p1 p2 p3 p4 g) := by
  unfold fn_Mo_could
  refine zi_aload0 (pc := 0) hX dX10_could_0 ?_
  refine zi_iconst (pc := 1) hX dX10_could_1 ki_0 ?_
  refine zi_puti (pc := 2) hX dX10_could_2 fl_1348 ly_61 rfl rfl rfl (zi_bg (fun g1 => ?_))
  refine zi_aload0 (pc := 5) hX dX10_could_5 ?_
  refine zi_iload1 (pc := 6) hX dX10_could_6 ?_
  refine zi_iload2 (pc := 7) hX dX10_could_7 ?_
  refine zi_callI (zc_virt (pc := 8) hX dX10_could_8 tm_1693 md_X10_isWho mi_X10_isWho ly_61 (ct_Mo_isWho hX.sane p1 p2 g1) rfl rfl rfl) (fun v2 g3 => ?_)
  refine zi_if_eq (pc := 11) 22 hX dX10_could_11 (by decide) (fun _ => ?_) (fun _ => ?_)
  · refine zi_iconst (pc := 22) hX dX10_could_22 ki_0 ?_
    exact zi_ret (pc := 23) hX dX10_could_23 rfl rfl rfl rfl
  · refine zi_aload0 (pc := 14) hX dX10_could_14 ?_
    refine zi_iload3 (pc := 15) hX dX10_could_15 ?_
    refine zi_callI (zc_virt (pc := 16) hX dX10_could_16 tm_1701 md_X10_isThing mi_X10_isThing ly_61 (ct_Mo_isThing hX.sane p3 g3) rfl rfl rfl) (fun v4 g5 => ?_)
    refine zi_if_ne (pc := 19) 24 hX dX10_could_19 (by decide) (fun _ => ?_) (fun _ => ?_)
    · refine zi_iconst (pc := 22) hX dX10_could_22 ki_0 ?_
      exact zi_ret (pc := 23) hX dX10_could_23 rfl rfl rfl rfl
    · refine zi_aload0 (pc := 24) hX dX10_could_24 ?_
      refine zi_iload1 (pc := 25) hX dX10_could_25 ?_
      refine zi_iload2 (pc := 26) hX dX10_could_26 ?_
      refine zi_callU (zc_virt (pc := 27) hX dX10_could_27 tm_1777 md_X10_asks mi_X10_asks ly_61 (ct_Mo_asks hX.sane p1 p2 g5) rfl rfl rfl) (fun g7 => ?_)
      refine zi_aload0 (pc := 30) hX dX10_could_30 ?_
      refine zi_aload0 (pc := 31) hX dX10_could_31 ?_
      refine zi_callI (zc_virt (pc := 32) hX dX10_could_32 tm_1785 md_X10_all mi_X10_all ly_61 (ct_Mo_all hX.sane g7) rfl rfl rfl) (fun v8 g9 => ?_)
      refine zi_iconst (pc := 35) hX dX10_could_35 ki_0 ?_
      refine zi_callU (zc_virt (pc := 36) hX dX10_could_36 tm_1789 md_X10_reckons mi_X10_reckons ly_61 (ct_Mo_reckons hX.sane v8 (0 : Int32) g9) rfl rfl rfl) (fun g11 => ?_)
      refine zi_aload0 (pc := 39) hX dX10_could_39 ?_
      refine zi_iload1 (pc := 40) hX dX10_could_40 ?_
      refine zi_iload2 (pc := 41) hX dX10_could_41 ?_
      refine zi_callI (zc_virt (pc := 42) hX dX10_could_42 tm_1781 md_X10_pairAt mi_X10_pairAt ly_61 (ct_Mo_pairAt hX.sane p1 p2 g11) rfl rfl rfl) (fun v12 g13 => ?_)
      refine zi_istore5 (pc := 45) hX dX10_could_45 rfl rfl ?_
      refine zi_iconst (pc := 47) hX dX10_could_47 ki_0 ?_
      refine zi_istore6 (pc := 48) hX dX10_could_48 rfl rfl ?_
      refine zi_iconst (pc := 50) hX dX10_could_50 ki_0 ?_
      refine zi_istore7 (pc := 51) hX dX10_could_51 rfl rfl ?_
      refine zi_drop (le_s (le_n (le_n (le_s (le_s (le_s (le_s (le_s le_nil)))))))) ?_; exact zp_Mo_could_53 hX p3 p4 v12 1000000 (0 : Int32) (0 : Int32) g13
theorem ct_Mo_could {w : et_W} (hw : et_Sane w) (p1 : Int32) (p2 : Int32) (p3 : Int32) (p4 : Int32) (g : et_G) : et_C w yX10_could (Cond.code yX10_could cX10_could 8 (some .int)) rm_Mo_could et_eI [.ref (et_ad w 61), .int p1, .int p2, .int p3, .int p4] g (fn_Mo_could p1 p2 p3 p4 g) := et_mk hw (by decide) rfl rfl (fun X hX => zw_Mo_could hX p1 p2 p3 p4 g)
def rm_Mo_bits : Room := { frames := 0, cells := 0, slots := 0, locals := 0 }
def fn_Mo_bits_4 (x0 : Int32) : Nat → Int32 → Int32 → et_G → Option (Int32 × et_G)
  | 0, _, _, _ => none
  | n + 1, x1, x2, g =>
    if (31 : Int32) ≤ x2 then
      some (x1, g)
    else
      et_b (x1 + ((x0 >>> (x2 &&& 31)) &&& (1 : Int32))) (fun v1 =>
      et_b (x2 + (1 : Int32)) (fun v2 =>
      fn_Mo_bits_4 x0 n v1 v2 g))
def fn_Mo_bits (p0 : Int32) (g : et_G) : Option (Int32 × et_G) :=
  fn_Mo_bits_4 p0 1000000 (0 : Int32) (0 : Int32) g
theorem zp_Mo_bits_4 {X : et_X} {w : et_W} (hX : et_Gd X w cX10_bits RX10 3 (some .int) [] rm_Mo_bits) (x0 : Int32) : ∀ (n : Nat) (x1 : Int32) (x2 : Int32) (g : et_G), et_Z X w 0 et_eI 4 [some (.int x0), some (.int x1), some (.int x2)] [] g (fn_Mo_bits_4 x0 n x1 x2 g) := by
  intro n
  induction n with
  | zero =>
    intro x1 x2 g a g2 h
    cases h
  | succ n ih =>
    intro x1 x2 g
    rw [fn_Mo_bits_4]
    refine zi_iload2 (pc := 4) hX dX10_bits_4 ?_
    refine zi_bipush (pc := 5) hX dX10_bits_5 kb_31 ?_
    refine zi_icmp_ge (pc := 7) 24 hX dX10_bits_7 (by decide) (fun _ => ?_) (fun _ => ?_)
    · refine zi_iload1 (pc := 24) hX dX10_bits_24 ?_
      exact zi_ret (pc := 25) hX dX10_bits_25 rfl rfl rfl rfl
    · refine zi_iload1 (pc := 10) hX dX10_bits_10 ?_
      refine zi_iload0 (pc := 11) hX dX10_bits_11 ?_
      refine zi_iload2 (pc := 12) hX dX10_bits_12 ?_
      refine zi_ishr (pc := 13) hX dX10_bits_13 ?_
      refine zi_iconst (pc := 14) hX dX10_bits_14 ki_1 ?_
      refine zi_iand (pc := 15) hX dX10_bits_15 ?_
      refine zi_iadd (pc := 16) hX dX10_bits_16 ?_
      refine zi_bi (fun v1 => ?_)
      refine zi_istore1 (pc := 17) hX dX10_bits_17 rfl rfl ?_
      refine zi_iincb2 (pc := 18) hX dX10_bits_18 (kn_1 _) rfl rfl (fun v2 => ?_)
      refine zi_goto (pc := 21) 4 hX dX10_bits_21 (by decide) ?_
      exact ih v1 v2 g
theorem zw_Mo_bits {X : et_X} {w : et_W} (hX : et_Gd X w cX10_bits RX10 3 (some .int) [] rm_Mo_bits) (p0 : Int32) (g : et_G) : et_Z X w 0 et_eI 0 [some (.int p0), none, none] [] g (fn_Mo_bits p0 g) := by
  unfold fn_Mo_bits
  refine zi_iconst (pc := 0) hX dX10_bits_0 ki_0 ?_
  refine zi_istore1 (pc := 1) hX dX10_bits_1 rfl rfl ?_
  refine zi_iconst (pc := 2) hX dX10_bits_2 ki_0 ?_
  refine zi_istore2 (pc := 3) hX dX10_bits_3 rfl rfl ?_
  exact zp_Mo_bits_4 hX p0 1000000 (0 : Int32) (0 : Int32) g
theorem ct_Mo_bits {w : et_W} (hw : et_Sane w) (p0 : Int32) (g : et_G) : et_C w yX10_bits (Cond.code yX10_bits cX10_bits 3 (some .int)) rm_Mo_bits et_eI [.int p0] g (fn_Mo_bits p0 g) := et_mk hw (by decide) rfl rfl (fun X hX => zw_Mo_bits hX p0 g)
def rm_Mo_count : Room := { frames := 1, cells := 0, slots := 0, locals := 22 }
def fn_Mo_count (p1 : Int32) (g : et_G) : Option (Int32 × et_G) :=
  et_b (et_si g 61 0 (0 : Int32)) (fun g1 =>
  et_bd (fn_Mo_within p1 (0 : Int32) (11 : Int32) g1) (fun v2 g3 =>
  et_bd (fn_Mo_right v2 (1 : Int32) g3) (fun v4 g5 =>
  if v4 = 0 then
    some ((0 : Int32), g5)
  else
    if p1 = 0 then
      some (g5.1 61 1, g5)
    else
    if p1 = 1 then
      some (g5.1 61 2, g5)
    else
    if p1 = 2 then
      some (g5.1 61 3, g5)
    else
    if p1 = 3 then
      some (g5.1 61 4, g5)
    else
    if p1 = 4 then
      some (g5.1 61 5, g5)
    else
    if p1 = 5 then
      some (g5.1 61 6, g5)
    else
    if p1 = 6 then
      some (g5.1 61 50, g5)
    else
    if p1 = 7 then
      some (g5.1 61 17, g5)
    else
    if p1 = 8 then
      et_ck (et_ib (p1 - (8 : Int32)) 3) (
      some (g5.1 72 (p1 - (8 : Int32)).toNatClampNeg, g5))
    else
    if p1 = 9 then
      et_ck (et_ib (p1 - (8 : Int32)) 3) (
      some (g5.1 72 (p1 - (8 : Int32)).toNatClampNeg, g5))
    else
    if p1 = 10 then
      et_ck (et_ib (p1 - (8 : Int32)) 3) (
      some (g5.1 72 (p1 - (8 : Int32)).toNatClampNeg, g5))
    else
    if p1 = 11 then
      et_bd (fn_Mo_bits (g5.1 61 68) g5) (fun v6 g7 =>
      some (v6, g7))
    else
    et_ck (et_ib (p1 - (8 : Int32)) 3) (
    some (g5.1 72 (p1 - (8 : Int32)).toNatClampNeg, g5)))))
theorem zw_Mo_count {X : et_X} {w : et_W} (hX : et_Gd X w cX10_count RX10 2 (some .int) [] rm_Mo_count) (p1 : Int32) (g : et_G) : et_Z X w 0 et_eI 0 [some (.ref (et_ad w 61)), some (.int p1)] [] g (fn_Mo_count p1 g) := by
  unfold fn_Mo_count
  refine zi_aload0 (pc := 0) hX dX10_count_0 ?_
  refine zi_iconst (pc := 1) hX dX10_count_1 ki_0 ?_
  refine zi_puti (pc := 2) hX dX10_count_2 fl_1348 ly_61 rfl rfl rfl (zi_bg (fun g1 => ?_))
  refine zi_aload0 (pc := 5) hX dX10_count_5 ?_
  refine zi_iload1 (pc := 6) hX dX10_count_6 ?_
  refine zi_iconst (pc := 7) hX dX10_count_7 ki_0 ?_
  refine zi_bipush (pc := 8) hX dX10_count_8 kb_11 ?_
  refine zi_callI (zc_stat (pc := 10) hX dX10_count_10 tm_1683 md_X10_within st_X10_within (ct_Mo_within hX.sane p1 (0 : Int32) (11 : Int32) g1) rfl rfl rfl) (fun v2 g3 => ?_)
  refine zi_iconst (pc := 13) hX dX10_count_13 ki_1 ?_
  refine zi_callI (zc_virt (pc := 14) hX dX10_count_14 tm_1587 md_X10_right mi_X10_right ly_61 (ct_Mo_right hX.sane v2 (1 : Int32) g3) rfl rfl rfl) (fun v4 g5 => ?_)
  refine zi_if_ne (pc := 17) 22 hX dX10_count_17 (by decide) (fun _ => ?_) (fun _ => ?_)
  · refine zi_iconst (pc := 20) hX dX10_count_20 ki_0 ?_
    exact zi_ret (pc := 21) hX dX10_count_21 rfl rfl rfl rfl
  · refine zi_iload1 (pc := 22) hX dX10_count_22 ?_
    refine zi_ite (fun h0 => ?_) (fun h0 => ?_)
    · refine zi_tabI (pc := 23) 84 hX dX10_count_23 0 h0 (by decide) (by decide) rfl (by decide) ?_
      refine zi_aload0 (pc := 84) hX dX10_count_84 ?_
      refine zi_geti (pc := 85) hX dX10_count_85 fl_1349 ly_61 rfl ?_
      exact zi_ret (pc := 88) hX dX10_count_88 rfl rfl rfl rfl
    refine zi_ite (fun h1 => ?_) (fun h1 => ?_)
    · refine zi_tabI (pc := 23) 89 hX dX10_count_23 1 h1 (by decide) (by decide) rfl (by decide) ?_
      refine zi_aload0 (pc := 89) hX dX10_count_89 ?_
      refine zi_geti (pc := 90) hX dX10_count_90 fl_1350 ly_61 rfl ?_
      exact zi_ret (pc := 93) hX dX10_count_93 rfl rfl rfl rfl
    refine zi_ite (fun h2 => ?_) (fun h2 => ?_)
    · refine zi_tabI (pc := 23) 94 hX dX10_count_23 2 h2 (by decide) (by decide) rfl (by decide) ?_
      refine zi_aload0 (pc := 94) hX dX10_count_94 ?_
      refine zi_geti (pc := 95) hX dX10_count_95 fl_1351 ly_61 rfl ?_
      exact zi_ret (pc := 98) hX dX10_count_98 rfl rfl rfl rfl
    refine zi_ite (fun h3 => ?_) (fun h3 => ?_)
    · refine zi_tabI (pc := 23) 99 hX dX10_count_23 3 h3 (by decide) (by decide) rfl (by decide) ?_
      refine zi_aload0 (pc := 99) hX dX10_count_99 ?_
      refine zi_geti (pc := 100) hX dX10_count_100 fl_1352 ly_61 rfl ?_
      exact zi_ret (pc := 103) hX dX10_count_103 rfl rfl rfl rfl
    refine zi_ite (fun h4 => ?_) (fun h4 => ?_)
    · refine zi_tabI (pc := 23) 104 hX dX10_count_23 4 h4 (by decide) (by decide) rfl (by decide) ?_
      refine zi_aload0 (pc := 104) hX dX10_count_104 ?_
      refine zi_geti (pc := 105) hX dX10_count_105 fl_1353 ly_61 rfl ?_
      exact zi_ret (pc := 108) hX dX10_count_108 rfl rfl rfl rfl
    refine zi_ite (fun h5 => ?_) (fun h5 => ?_)
    · refine zi_tabI (pc := 23) 109 hX dX10_count_23 5 h5 (by decide) (by decide) rfl (by decide) ?_
      refine zi_aload0 (pc := 109) hX dX10_count_109 ?_
      refine zi_geti (pc := 110) hX dX10_count_110 fl_1354 ly_61 rfl ?_
      exact zi_ret (pc := 113) hX dX10_count_113 rfl rfl rfl rfl
    refine zi_ite (fun h6 => ?_) (fun h6 => ?_)
    · refine zi_tabI (pc := 23) 114 hX dX10_count_23 6 h6 (by decide) (by decide) rfl (by decide) ?_
      refine zi_aload0 (pc := 114) hX dX10_count_114 ?_
      refine zi_geti (pc := 115) hX dX10_count_115 fl_1398 ly_61 rfl ?_
      exact zi_ret (pc := 118) hX dX10_count_118 rfl rfl rfl rfl
    refine zi_ite (fun h7 => ?_) (fun h7 => ?_)
    · refine zi_tabI (pc := 23) 119 hX dX10_count_23 7 h7 (by decide) (by decide) rfl (by decide) ?_
      refine zi_aload0 (pc := 119) hX dX10_count_119 ?_
      refine zi_geti (pc := 120) hX dX10_count_120 fl_1365 ly_61 rfl ?_
      exact zi_ret (pc := 123) hX dX10_count_123 rfl rfl rfl rfl
    refine zi_ite (fun h8 => ?_) (fun h8 => ?_)
    · refine zi_tabI (pc := 23) 132 hX dX10_count_23 8 h8 (by decide) (by decide) rfl (by decide) ?_
      refine zi_aload0 (pc := 132) hX dX10_count_132 ?_
      refine zi_getr (q := 72) (pc := 133) hX dX10_count_133 fl_1368 ly_61 rfl ?_
      refine zi_iload1 (pc := 136) hX dX10_count_136 ?_
      refine zi_bipush (pc := 137) hX dX10_count_137 kb_8 ?_
      refine zi_isub (pc := 139) hX dX10_count_139 ?_
      refine zi_iald (pc := 140) hX dX10_count_140 ly_72 ?_
      exact zi_ret (pc := 141) hX dX10_count_141 rfl rfl rfl rfl
    refine zi_ite (fun h9 => ?_) (fun h9 => ?_)
    · refine zi_tabI (pc := 23) 132 hX dX10_count_23 9 h9 (by decide) (by decide) rfl (by decide) ?_
      refine zi_aload0 (pc := 132) hX dX10_count_132 ?_
      refine zi_getr (q := 72) (pc := 133) hX dX10_count_133 fl_1368 ly_61 rfl ?_
      refine zi_iload1 (pc := 136) hX dX10_count_136 ?_
      refine zi_bipush (pc := 137) hX dX10_count_137 kb_8 ?_
      refine zi_isub (pc := 139) hX dX10_count_139 ?_
      refine zi_iald (pc := 140) hX dX10_count_140 ly_72 ?_
      exact zi_ret (pc := 141) hX dX10_count_141 rfl rfl rfl rfl
    refine zi_ite (fun h10 => ?_) (fun h10 => ?_)
    · refine zi_tabI (pc := 23) 132 hX dX10_count_23 10 h10 (by decide) (by decide) rfl (by decide) ?_
      refine zi_aload0 (pc := 132) hX dX10_count_132 ?_
      refine zi_getr (q := 72) (pc := 133) hX dX10_count_133 fl_1368 ly_61 rfl ?_
      refine zi_iload1 (pc := 136) hX dX10_count_136 ?_
      refine zi_bipush (pc := 137) hX dX10_count_137 kb_8 ?_
      refine zi_isub (pc := 139) hX dX10_count_139 ?_
      refine zi_iald (pc := 140) hX dX10_count_140 ly_72 ?_
      exact zi_ret (pc := 141) hX dX10_count_141 rfl rfl rfl rfl
    refine zi_ite (fun h11 => ?_) (fun h11 => ?_)
    · refine zi_tabI (pc := 23) 124 hX dX10_count_23 11 h11 (by decide) (by decide) rfl (by decide) ?_
      refine zi_aload0 (pc := 124) hX dX10_count_124 ?_
      refine zi_geti (pc := 125) hX dX10_count_125 fl_1416 ly_61 rfl ?_
      refine zi_callI (zc_stat (pc := 128) hX dX10_count_128 tm_1686 md_X10_bits st_X10_bits (ct_Mo_bits hX.sane (g5.1 61 68) g5) rfl rfl rfl) (fun v6 g7 => ?_)
      exact zi_ret (pc := 131) hX dX10_count_131 rfl rfl rfl rfl
    refine zi_tabO (pc := 23) 132 hX dX10_count_23 (et_out0_11 h0 h1 h2 h3 h4 h5 h6 h7 h8 h9 h10 h11) (by decide) ?_
    refine zi_aload0 (pc := 132) hX dX10_count_132 ?_
    refine zi_getr (q := 72) (pc := 133) hX dX10_count_133 fl_1368 ly_61 rfl ?_
    refine zi_iload1 (pc := 136) hX dX10_count_136 ?_
    refine zi_bipush (pc := 137) hX dX10_count_137 kb_8 ?_
    refine zi_isub (pc := 139) hX dX10_count_139 ?_
    refine zi_iald (pc := 140) hX dX10_count_140 ly_72 ?_
    exact zi_ret (pc := 141) hX dX10_count_141 rfl rfl rfl rfl
theorem ct_Mo_count {w : et_W} (hw : et_Sane w) (p1 : Int32) (g : et_G) : et_C w yX10_count (Cond.code yX10_count cX10_count 2 (some .int)) rm_Mo_count et_eI [.ref (et_ad w 61), .int p1] g (fn_Mo_count p1 g) := et_mk hw (by decide) rfl rfl (fun X hX => zw_Mo_count hX p1 g)
def rm_Mo_fault : Room := { frames := 0, cells := 0, slots := 0, locals := 0 }
def fn_Mo_fault (g : et_G) : Option (Int32 × et_G) :=
  et_b (et_si g 61 0 (0 : Int32)) (fun g1 =>
  some (g1.1 61 19, g1))
theorem zw_Mo_fault {X : et_X} {w : et_W} (hX : et_Gd X w cX10_fault RX10 1 (some .int) [] rm_Mo_fault) (g : et_G) : et_Z X w 0 et_eI 0 [some (.ref (et_ad w 61))] [] g (fn_Mo_fault g) := by
  unfold fn_Mo_fault
  refine zi_aload0 (pc := 0) hX dX10_fault_0 ?_
  refine zi_iconst (pc := 1) hX dX10_fault_1 ki_0 ?_
  refine zi_puti (pc := 2) hX dX10_fault_2 fl_1348 ly_61 rfl rfl rfl (zi_bg (fun g1 => ?_))
  refine zi_aload0 (pc := 5) hX dX10_fault_5 ?_
  refine zi_geti (pc := 6) hX dX10_fault_6 fl_1367 ly_61 rfl ?_
  exact zi_ret (pc := 9) hX dX10_fault_9 rfl rfl rfl rfl
theorem ct_Mo_fault {w : et_W} (hw : et_Sane w) (g : et_G) : et_C w yX10_fault (Cond.code yX10_fault cX10_fault 1 (some .int)) rm_Mo_fault et_eI [.ref (et_ad w 61)] g (fn_Mo_fault g) := et_mk hw (by decide) rfl rfl (fun X hX => zw_Mo_fault hX g)
def rm_Mo_lays : Room := { frames := 0, cells := 0, slots := 0, locals := 0 }
def fn_Mo_lays_3 (x1 : Int32) : Nat → Int32 → et_G → Option (Unit × et_G)
  | 0, _, _ => none
  | n + 1, x2, g =>
    if x2 < 0 then
      some ((), g)
    else
      et_ck (et_ib (g.1 61 17) 800) (et_b (et_si g 71 (g.1 61 17).toNatClampNeg ((x1 >>> (x2 &&& 31)) &&& (255 : Int32))) (fun g1 =>
      et_b (et_si g1 61 17 ((g1.1 61 17) + (1 : Int32))) (fun g2 =>
      et_b (x2 + (-8 : Int32)) (fun v3 =>
      fn_Mo_lays_3 x1 n v3 g2))))
def fn_Mo_lays (p1 : Int32) (g : et_G) : Option (Unit × et_G) :=
  fn_Mo_lays_3 p1 1000000 (24 : Int32) g
theorem zp_Mo_lays_3 {X : et_X} {w : et_W} (hX : et_Gd X w cX10_lays RX10 3 (none) [] rm_Mo_lays) (x1 : Int32) : ∀ (n : Nat) (x2 : Int32) (g : et_G), et_Z X w 0 et_eU 3 [some (.ref (et_ad w 61)), some (.int x1), some (.int x2)] [] g (fn_Mo_lays_3 x1 n x2 g) := by
  intro n
  induction n with
  | zero =>
    intro x2 g a g2 h
    cases h
  | succ n ih =>
    intro x2 g
    rw [fn_Mo_lays_3]
    refine zi_iload2 (pc := 3) hX dX10_lays_3 ?_
    refine zi_if_lt (pc := 4) 39 hX dX10_lays_4 (by decide) (fun _ => ?_) (fun _ => ?_)
    · exact zi_vret (pc := 39) hX dX10_lays_39 rfl rfl rfl
    · refine zi_aload0 (pc := 7) hX dX10_lays_7 ?_
      refine zi_getr (q := 71) (pc := 8) hX dX10_lays_8 fl_1364 ly_61 rfl ?_
      refine zi_aload0 (pc := 11) hX dX10_lays_11 ?_
      refine zi_geti (pc := 12) hX dX10_lays_12 fl_1365 ly_61 rfl ?_
      refine zi_iload1 (pc := 15) hX dX10_lays_15 ?_
      refine zi_iload2 (pc := 16) hX dX10_lays_16 ?_
      refine zi_ishr (pc := 17) hX dX10_lays_17 ?_
      refine zi_sipush (pc := 18) hX dX10_lays_18 ks_255 ?_
      refine zi_iand (pc := 21) hX dX10_lays_21 ?_
      refine zi_iast (pc := 22) hX dX10_lays_22 ly_71 (zi_bg (fun g1 => ?_))
      refine zi_aload0 (pc := 23) hX dX10_lays_23 ?_
      refine zi_dup (pc := 24) hX dX10_lays_24 rfl ?_
      refine zi_geti (pc := 25) hX dX10_lays_25 fl_1365 ly_61 rfl ?_
      refine zi_iconst (pc := 28) hX dX10_lays_28 ki_1 ?_
      refine zi_iadd (pc := 29) hX dX10_lays_29 ?_
      refine zi_puti (pc := 30) hX dX10_lays_30 fl_1365 ly_61 rfl rfl rfl (zi_bg (fun g2 => ?_))
      refine zi_iincb2 (pc := 33) hX dX10_lays_33 (kn_m8 _) rfl rfl (fun v3 => ?_)
      refine zi_goto (pc := 36) 3 hX dX10_lays_36 (by decide) ?_
      exact ih v3 g2
theorem zw_Mo_lays {X : et_X} {w : et_W} (hX : et_Gd X w cX10_lays RX10 3 (none) [] rm_Mo_lays) (p1 : Int32) (g : et_G) : et_Z X w 0 et_eU 0 [some (.ref (et_ad w 61)), some (.int p1), none] [] g (fn_Mo_lays p1 g) := by
  unfold fn_Mo_lays
  refine zi_bipush (pc := 0) hX dX10_lays_0 kb_24 ?_
  refine zi_istore2 (pc := 2) hX dX10_lays_2 rfl rfl ?_
  exact zp_Mo_lays_3 hX p1 1000000 (24 : Int32) g
theorem ct_Mo_lays {w : et_W} (hw : et_Sane w) (p1 : Int32) (g : et_G) : et_C w yX10_lays (Cond.code yX10_lays cX10_lays 3 (none)) rm_Mo_lays et_eU [.ref (et_ad w 61), .int p1] g (fn_Mo_lays p1 g) := et_mk hw (by decide) rfl rfl (fun X hX => zw_Mo_lays hX p1 g)
def rm_Mo_feed : Room := { frames := 1, cells := 0, slots := 0, locals := 22 }
def fn_Mo_feed (p1 : Int32) (p2 : Int32) (p3 : Int32) (p4 : Int32) (p5 : Int32) (g : et_G) : Option (Int32 × et_G) :=
  et_b (et_si g 61 0 (0 : Int32)) (fun g1 =>
  if ((g1.1 61 17) + (20 : Int32)) ≤ (800 : Int32) then
    et_bd (fn_Mo_lays p1 g1) (fun _ g3 =>
    et_bd (fn_Mo_lays p2 g3) (fun _ g5 =>
    et_bd (fn_Mo_lays p3 g5) (fun _ g7 =>
    et_bd (fn_Mo_lays p4 g7) (fun _ g9 =>
    et_bd (fn_Mo_lays p5 g9) (fun _ g11 =>
    some (g11.1 61 17, g11))))))
  else
    some ((-1 : Int32), g1))
theorem zw_Mo_feed {X : et_X} {w : et_W} (hX : et_Gd X w cX10_feed RX10 6 (some .int) [] rm_Mo_feed) (p1 : Int32) (p2 : Int32) (p3 : Int32) (p4 : Int32) (p5 : Int32) (g : et_G) : et_Z X w 0 et_eI 0 [some (.ref (et_ad w 61)), some (.int p1), some (.int p2), some (.int p3), some (.int p4), some (.int p5)] [] g (fn_Mo_feed p1 p2 p3 p4 p5 g) := by
  unfold fn_Mo_feed
  refine zi_aload0 (pc := 0) hX dX10_feed_0 ?_
  refine zi_iconst (pc := 1) hX dX10_feed_1 ki_0 ?_
  refine zi_puti (pc := 2) hX dX10_feed_2 fl_1348 ly_61 rfl rfl rfl (zi_bg (fun g1 => ?_))
  refine zi_aload0 (pc := 5) hX dX10_feed_5 ?_
  refine zi_geti (pc := 6) hX dX10_feed_6 fl_1365 ly_61 rfl ?_
  refine zi_bipush (pc := 9) hX dX10_feed_9 kb_20 ?_
  refine zi_iadd (pc := 11) hX dX10_feed_11 ?_
  refine zi_sipush (pc := 12) hX dX10_feed_12 ks_800 ?_
  refine zi_icmp_le (pc := 15) 20 hX dX10_feed_15 (by decide) (fun _ => ?_) (fun _ => ?_)
  · refine zi_aload0 (pc := 20) hX dX10_feed_20 ?_
    refine zi_iload1 (pc := 21) hX dX10_feed_21 ?_
    refine zi_callU (zc_virt (pc := 22) hX dX10_feed_22 tm_1579 md_X10_lays mi_X10_lays ly_61 (ct_Mo_lays hX.sane p1 g1) rfl rfl rfl) (fun g3 => ?_)
    refine zi_aload0 (pc := 25) hX dX10_feed_25 ?_
    refine zi_iload2 (pc := 26) hX dX10_feed_26 ?_
    refine zi_callU (zc_virt (pc := 27) hX dX10_feed_27 tm_1579 md_X10_lays mi_X10_lays ly_61 (ct_Mo_lays hX.sane p2 g3) rfl rfl rfl) (fun g5 => ?_)
    refine zi_aload0 (pc := 30) hX dX10_feed_30 ?_
    refine zi_iload3 (pc := 31) hX dX10_feed_31 ?_
    refine zi_callU (zc_virt (pc := 32) hX dX10_feed_32 tm_1579 md_X10_lays mi_X10_lays ly_61 (ct_Mo_lays hX.sane p3 g5) rfl rfl rfl) (fun g7 => ?_)
    refine zi_aload0 (pc := 35) hX dX10_feed_35 ?_
    refine zi_iload4 (pc := 36) hX dX10_feed_36 ?_
    refine zi_callU (zc_virt (pc := 38) hX dX10_feed_38 tm_1579 md_X10_lays mi_X10_lays ly_61 (ct_Mo_lays hX.sane p4 g7) rfl rfl rfl) (fun g9 => ?_)
    refine zi_aload0 (pc := 41) hX dX10_feed_41 ?_
    refine zi_iload5 (pc := 42) hX dX10_feed_42 ?_
    refine zi_callU (zc_virt (pc := 44) hX dX10_feed_44 tm_1579 md_X10_lays mi_X10_lays ly_61 (ct_Mo_lays hX.sane p5 g9) rfl rfl rfl) (fun g11 => ?_)
    refine zi_aload0 (pc := 47) hX dX10_feed_47 ?_
    refine zi_geti (pc := 48) hX dX10_feed_48 fl_1365 ly_61 rfl ?_
    exact zi_ret (pc := 51) hX dX10_feed_51 rfl rfl rfl rfl
  · refine zi_iconst (pc := 18) hX dX10_feed_18 ki_m1 ?_
    exact zi_ret (pc := 19) hX dX10_feed_19 rfl rfl rfl rfl
theorem ct_Mo_feed {w : et_W} (hw : et_Sane w) (p1 : Int32) (p2 : Int32) (p3 : Int32) (p4 : Int32) (p5 : Int32) (g : et_G) : et_C w yX10_feed (Cond.code yX10_feed cX10_feed 6 (some .int)) rm_Mo_feed et_eI [.ref (et_ad w 61), .int p1, .int p2, .int p3, .int p4, .int p5] g (fn_Mo_feed p1 p2 p3 p4 p5 g) := et_mk hw (by decide) rfl rfl (fun X hX => zw_Mo_feed hX p1 p2 p3 p4 p5 g)
def rm_Mo_copies_84_95 : Room := { frames := 0, cells := 0, slots := 0, locals := 0 }
def fn_Mo_copies_84_95_2 : Nat → Int32 → et_G → Option (Unit × et_G)
  | 0, _, _ => none
  | n + 1, x3, g =>
    if (100 : Int32) ≤ x3 then
      some ((), g)
    else
      et_ck (et_ib x3 100) (
      et_ck (et_ib x3 100) (et_b (et_si g 95 x3.toNatClampNeg (g.1 84 x3.toNatClampNeg)) (fun g1 =>
      et_b (x3 + (1 : Int32)) (fun v2 =>
      fn_Mo_copies_84_95_2 n v2 g1))))
def fn_Mo_copies_84_95 (g : et_G) : Option (Unit × et_G) :=
  fn_Mo_copies_84_95_2 1000000 (0 : Int32) g
theorem zp_Mo_copies_84_95_2 {X : et_X} {w : et_W} (hX : et_Gd X w cX10_copies RX10 4 (none) [] rm_Mo_copies_84_95) : ∀ (n : Nat) (x3 : Int32) (g : et_G), et_Z X w 0 et_eU 2 [none, some (.ref (et_ad w 84)), some (.ref (et_ad w 95)), some (.int x3)] [] g (fn_Mo_copies_84_95_2 n x3 g) := by
  intro n
  induction n with
  | zero =>
    intro x3 g a g2 h
    cases h
  | succ n ih =>
    intro x3 g
    rw [fn_Mo_copies_84_95_2]
    refine zi_iload3 (pc := 2) hX dX10_copies_2 ?_
    refine zi_aload1 (pc := 3) hX dX10_copies_3 ?_
    refine zi_alen (pc := 4) hX dX10_copies_4 ly_84 0 (et_t0 w) ka_100 ?_
    refine zi_icmp_ge (pc := 5) 20 hX dX10_copies_5 (by decide) (fun _ => ?_) (fun _ => ?_)
    · exact zi_vret (pc := 20) hX dX10_copies_20 rfl rfl rfl
    · refine zi_aload2 (pc := 8) hX dX10_copies_8 ?_
      refine zi_iload3 (pc := 9) hX dX10_copies_9 ?_
      refine zi_aload1 (pc := 10) hX dX10_copies_10 ?_
      refine zi_iload3 (pc := 11) hX dX10_copies_11 ?_
      refine zi_iald (pc := 12) hX dX10_copies_12 ly_84 ?_
      refine zi_iast (pc := 13) hX dX10_copies_13 ly_95 (zi_bg (fun g1 => ?_))
      refine zi_iincb3 (pc := 14) hX dX10_copies_14 (kn_1 _) rfl rfl (fun v2 => ?_)
      refine zi_goto (pc := 17) 2 hX dX10_copies_17 (by decide) ?_
      exact ih v2 g1
theorem zw_Mo_copies_84_95 {X : et_X} {w : et_W} (hX : et_Gd X w cX10_copies RX10 4 (none) [] rm_Mo_copies_84_95) (g : et_G) : et_Z X w 0 et_eU 0 [some (.ref (et_ad w 61)), some (.ref (et_ad w 84)), some (.ref (et_ad w 95)), none] [] g (fn_Mo_copies_84_95 g) := by
  unfold fn_Mo_copies_84_95
  refine zi_iconst (pc := 0) hX dX10_copies_0 ki_0 ?_
  refine zi_istore3 (pc := 1) hX dX10_copies_1 rfl rfl ?_
  refine zi_drop (le_n (le_s (le_s (le_s le_nil)))) ?_; exact zp_Mo_copies_84_95_2 hX 1000000 (0 : Int32) g
theorem ct_Mo_copies_84_95 {w : et_W} (hw : et_Sane w) (g : et_G) : et_C w yX10_copies (Cond.code yX10_copies cX10_copies 4 (none)) rm_Mo_copies_84_95 et_eU [.ref (et_ad w 61), .ref (et_ad w 84), .ref (et_ad w 95)] g (fn_Mo_copies_84_95 g) := et_mk hw (by decide) rfl rfl (fun X hX => zw_Mo_copies_84_95 hX g)
def rm_Mo_image : Room := { frames := 1, cells := 0, slots := 0, locals := 23 }
def fn_Mo_image (g : et_G) : Option (Unit × et_G) :=
  et_b (et_si g 61 0 (0 : Int32)) (fun g1 =>
  et_b (et_si g1 61 69 (1 : Int32)) (fun g2 =>
  et_b (et_si g2 61 70 (g2.1 61 50)) (fun g3 =>
  et_b (et_si g3 61 71 (g3.1 61 67)) (fun g4 =>
  et_b (et_si g4 61 72 (g4.1 61 68)) (fun g5 =>
  et_bd (fn_Mo_copies_84_95 g5) (fun _ g7 =>
  some ((), g7)))))))
theorem zw_Mo_image {X : et_X} {w : et_W} (hX : et_Gd X w cX10_image RX10 1 (none) [] rm_Mo_image) (g : et_G) : et_Z X w 0 et_eU 0 [some (.ref (et_ad w 61))] [] g (fn_Mo_image g) := by
  unfold fn_Mo_image
  refine zi_aload0 (pc := 0) hX dX10_image_0 ?_
  refine zi_iconst (pc := 1) hX dX10_image_1 ki_0 ?_
  refine zi_puti (pc := 2) hX dX10_image_2 fl_1348 ly_61 rfl rfl rfl (zi_bg (fun g1 => ?_))
  refine zi_aload0 (pc := 5) hX dX10_image_5 ?_
  refine zi_iconst (pc := 6) hX dX10_image_6 ki_1 ?_
  refine zi_puti (pc := 7) hX dX10_image_7 fl_1417 ly_61 rfl et_z1 et_f1 (zi_bg (fun g2 => ?_))
  refine zi_aload0 (pc := 10) hX dX10_image_10 ?_
  refine zi_aload0 (pc := 11) hX dX10_image_11 ?_
  refine zi_geti (pc := 12) hX dX10_image_12 fl_1398 ly_61 rfl ?_
  refine zi_puti (pc := 15) hX dX10_image_15 fl_1418 ly_61 rfl rfl rfl (zi_bg (fun g3 => ?_))
  refine zi_aload0 (pc := 18) hX dX10_image_18 ?_
  refine zi_aload0 (pc := 19) hX dX10_image_19 ?_
  refine zi_geti (pc := 20) hX dX10_image_20 fl_1415 ly_61 rfl ?_
  refine zi_puti (pc := 23) hX dX10_image_23 fl_1419 ly_61 rfl rfl rfl (zi_bg (fun g4 => ?_))
  refine zi_aload0 (pc := 26) hX dX10_image_26 ?_
  refine zi_aload0 (pc := 27) hX dX10_image_27 ?_
  refine zi_geti (pc := 28) hX dX10_image_28 fl_1416 ly_61 rfl ?_
  refine zi_puti (pc := 31) hX dX10_image_31 fl_1420 ly_61 rfl rfl rfl (zi_bg (fun g5 => ?_))
  refine zi_aload0 (pc := 34) hX dX10_image_34 ?_
  refine zi_aload0 (pc := 35) hX dX10_image_35 ?_
  refine zi_getr (q := 84) (pc := 36) hX dX10_image_36 fl_1399 ly_61 rfl ?_
  refine zi_aload0 (pc := 39) hX dX10_image_39 ?_
  refine zi_getr (q := 95) (pc := 40) hX dX10_image_40 fl_1421 ly_61 rfl ?_
  refine zi_callU (zc_virt (pc := 43) hX dX10_image_43 tm_1671 md_X10_copies mi_X10_copies ly_61 (ct_Mo_copies_84_95 hX.sane g5) rfl rfl rfl) (fun g7 => ?_)
  exact zi_vret (pc := 46) hX dX10_image_46 rfl rfl rfl
theorem ct_Mo_image {w : et_W} (hw : et_Sane w) (g : et_G) : et_C w yX10_image (Cond.code yX10_image cX10_image 1 (none)) rm_Mo_image et_eU [.ref (et_ad w 61)] g (fn_Mo_image g) := et_mk hw (by decide) rfl rfl (fun X hX => zw_Mo_image hX g)
