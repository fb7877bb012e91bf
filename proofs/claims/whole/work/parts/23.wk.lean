def rm_Mo_restore : Room := { frames := 1, cells := 0, slots := 0, locals := 23 }
def fn_Mo_restore (g : et_G) : Option (Int32 × et_G) :=
  et_b (et_si g 61 0 (0 : Int32)) (fun g1 =>
  if (g1.1 61 69) = 0 then
    some ((0 : Int32), g1)
  else
    et_b (et_si g1 61 50 (g1.1 61 70)) (fun g2 =>
    et_b (et_si g2 61 67 (g2.1 61 71)) (fun g3 =>
    et_b (et_si g3 61 68 (g3.1 61 72)) (fun g4 =>
    et_bd (fn_Mo_copies_95_84 g4) (fun _ g6 =>
    some ((1 : Int32), g6))))))
theorem zw_Mo_restore {X : et_X} {w : et_W} (hX : et_Gd X w cX10_restore RX10 1 (some .boolean) [] rm_Mo_restore) (g : et_G) : et_Z X w 0 et_eI 0 [some (.ref (et_ad w 61))] [] g (fn_Mo_restore g) := by
  unfold fn_Mo_restore
  refine zi_aload0 (pc := 0) hX dX10_restore_0 ?_
  refine zi_iconst (pc := 1) hX dX10_restore_1 ki_0 ?_
  refine zi_puti (pc := 2) hX dX10_restore_2 fl_1348 ly_61 rfl rfl rfl (zi_bg (fun g1 => ?_))
  refine zi_aload0 (pc := 5) hX dX10_restore_5 ?_
  refine zi_geti (pc := 6) hX dX10_restore_6 fl_1417 ly_61 rfl ?_
  refine zi_if_ne (pc := 9) 14 hX dX10_restore_9 (by decide) (fun _ => ?_) (fun _ => ?_)
  · refine zi_iconst (pc := 12) hX dX10_restore_12 ki_0 ?_
    exact zi_ret (pc := 13) hX dX10_restore_13 et_z0 rfl rfl rfl
  · refine zi_aload0 (pc := 14) hX dX10_restore_14 ?_
    refine zi_aload0 (pc := 15) hX dX10_restore_15 ?_
    refine zi_geti (pc := 16) hX dX10_restore_16 fl_1418 ly_61 rfl ?_
    refine zi_puti (pc := 19) hX dX10_restore_19 fl_1398 ly_61 rfl rfl rfl (zi_bg (fun g2 => ?_))
    refine zi_aload0 (pc := 22) hX dX10_restore_22 ?_
    refine zi_aload0 (pc := 23) hX dX10_restore_23 ?_
    refine zi_geti (pc := 24) hX dX10_restore_24 fl_1419 ly_61 rfl ?_
    refine zi_puti (pc := 27) hX dX10_restore_27 fl_1415 ly_61 rfl rfl rfl (zi_bg (fun g3 => ?_))
    refine zi_aload0 (pc := 30) hX dX10_restore_30 ?_
    refine zi_aload0 (pc := 31) hX dX10_restore_31 ?_
    refine zi_geti (pc := 32) hX dX10_restore_32 fl_1420 ly_61 rfl ?_
    refine zi_puti (pc := 35) hX dX10_restore_35 fl_1416 ly_61 rfl rfl rfl (zi_bg (fun g4 => ?_))
    refine zi_aload0 (pc := 38) hX dX10_restore_38 ?_
    refine zi_aload0 (pc := 39) hX dX10_restore_39 ?_
    refine zi_getr (q := 95) (pc := 40) hX dX10_restore_40 fl_1421 ly_61 rfl ?_
    refine zi_aload0 (pc := 43) hX dX10_restore_43 ?_
    refine zi_getr (q := 84) (pc := 44) hX dX10_restore_44 fl_1399 ly_61 rfl ?_
    refine zi_callU (zc_virt (pc := 47) hX dX10_restore_47 tm_1671 md_X10_copies mi_X10_copies ly_61 (ct_Mo_copies_95_84 hX.sane g4) rfl rfl rfl) (fun g6 => ?_)
    refine zi_iconst (pc := 50) hX dX10_restore_50 ki_1 ?_
    exact zi_ret (pc := 51) hX dX10_restore_51 et_z1 rfl rfl rfl
theorem ct_Mo_restore {w : et_W} (hw : et_Sane w) (g : et_G) : et_C w yX10_restore (Cond.code yX10_restore cX10_restore 1 (some .boolean)) rm_Mo_restore et_eI [.ref (et_ad w 61)] g (fn_Mo_restore g) := et_mk hw (by decide) rfl rfl (fun X hX => zw_Mo_restore hX g)
def rm_Mo_refuses : Room := { frames := 0, cells := 0, slots := 0, locals := 0 }
def fn_Mo_refuses (p1 : Int32) (g : et_G) : Option (Int32 × et_G) :=
  et_ck (et_ib p1 3) (
  et_ck (et_ib p1 3) (et_b (et_si g 72 p1.toNatClampNeg ((g.1 72 p1.toNatClampNeg) + (1 : Int32))) (fun g1 =>
  some ((-1 : Int32), g1))))
theorem zw_Mo_refuses {X : et_X} {w : et_W} (hX : et_Gd X w cX10_refuses RX10 2 (some .int) [] rm_Mo_refuses) (p1 : Int32) (g : et_G) : et_Z X w 0 et_eI 0 [some (.ref (et_ad w 61)), some (.int p1)] [] g (fn_Mo_refuses p1 g) := by
  unfold fn_Mo_refuses
  refine zi_aload0 (pc := 0) hX dX10_refuses_0 ?_
  refine zi_getr (q := 72) (pc := 1) hX dX10_refuses_1 fl_1368 ly_61 rfl ?_
  refine zi_iload1 (pc := 4) hX dX10_refuses_4 ?_
  refine zi_dup2 (pc := 5) hX dX10_refuses_5 rfl rfl ?_
  refine zi_iald (pc := 6) hX dX10_refuses_6 ly_72 ?_
  refine zi_iconst (pc := 7) hX dX10_refuses_7 ki_1 ?_
  refine zi_iadd (pc := 8) hX dX10_refuses_8 ?_
  refine zi_iast (pc := 9) hX dX10_refuses_9 ly_72 (zi_bg (fun g1 => ?_))
  refine zi_iconst (pc := 10) hX dX10_refuses_10 ki_m1 ?_
  exact zi_ret (pc := 11) hX dX10_refuses_11 rfl rfl rfl rfl
theorem ct_Mo_refuses {w : et_W} (hw : et_Sane w) (p1 : Int32) (g : et_G) : et_C w yX10_refuses (Cond.code yX10_refuses cX10_refuses 2 (some .int)) rm_Mo_refuses et_eI [.ref (et_ad w 61), .int p1] g (fn_Mo_refuses p1 g) := et_mk hw (by decide) rfl rfl (fun X hX => zw_Mo_refuses hX p1 g)
def rm_Mo_adds5 : Room := { frames := 0, cells := 0, slots := 0, locals := 0 }
def fn_Mo_adds5 (p1 : Int32) (p2 : Int32) (p3 : Int32) (p4 : Int32) (p5 : Int32) (g : et_G) : Option (Int32 × et_G) :=
  et_b ((5 : Int32) * (g.1 61 50)) (fun v1 =>
  et_ck (et_ib v1 100) (et_b (et_si g 84 v1.toNatClampNeg p1) (fun g2 =>
  et_ck (et_ib (v1 + (1 : Int32)) 100) (et_b (et_si g2 84 (v1 + (1 : Int32)).toNatClampNeg p2) (fun g3 =>
  et_ck (et_ib (v1 + (2 : Int32)) 100) (et_b (et_si g3 84 (v1 + (2 : Int32)).toNatClampNeg p3) (fun g4 =>
  et_ck (et_ib (v1 + (3 : Int32)) 100) (et_b (et_si g4 84 (v1 + (3 : Int32)).toNatClampNeg p4) (fun g5 =>
  et_ck (et_ib (v1 + (4 : Int32)) 100) (et_b (et_si g5 84 (v1 + (4 : Int32)).toNatClampNeg p5) (fun g6 =>
  et_b (et_si g6 61 50 ((g6.1 61 50) + (1 : Int32))) (fun g7 =>
  some (g7.1 61 50, g7)))))))))))))
theorem zw_Mo_adds5 {X : et_X} {w : et_W} (hX : et_Gd X w cX10_adds5 RX10 7 (some .int) [] rm_Mo_adds5) (p1 : Int32) (p2 : Int32) (p3 : Int32) (p4 : Int32) (p5 : Int32) (g : et_G) : et_Z X w 0 et_eI 0 [some (.ref (et_ad w 61)), some (.int p1), some (.int p2), some (.int p3), some (.int p4), some (.int p5), none] [] g (fn_Mo_adds5 p1 p2 p3 p4 p5 g) := by
  unfold fn_Mo_adds5
  refine zi_iconst (pc := 0) hX dX10_adds5_0 ki_5 ?_
  refine zi_aload0 (pc := 1) hX dX10_adds5_1 ?_
  refine zi_geti (pc := 2) hX dX10_adds5_2 fl_1398 ly_61 rfl ?_
  refine zi_imul (pc := 5) hX dX10_adds5_5 ?_
  refine zi_bi (fun v1 => ?_)
  refine zi_istore6 (pc := 6) hX dX10_adds5_6 rfl rfl ?_
  refine zi_aload0 (pc := 8) hX dX10_adds5_8 ?_
  refine zi_getr (q := 84) (pc := 9) hX dX10_adds5_9 fl_1399 ly_61 rfl ?_
  refine zi_iload6 (pc := 12) hX dX10_adds5_12 ?_
  refine zi_iload1 (pc := 14) hX dX10_adds5_14 ?_
  refine zi_iast (pc := 15) hX dX10_adds5_15 ly_84 (zi_bg (fun g2 => ?_))
  refine zi_aload0 (pc := 16) hX dX10_adds5_16 ?_
  refine zi_getr (q := 84) (pc := 17) hX dX10_adds5_17 fl_1399 ly_61 rfl ?_
  refine zi_iload6 (pc := 20) hX dX10_adds5_20 ?_
  refine zi_iconst (pc := 22) hX dX10_adds5_22 ki_1 ?_
  refine zi_iadd (pc := 23) hX dX10_adds5_23 ?_
  refine zi_iload2 (pc := 24) hX dX10_adds5_24 ?_
  refine zi_iast (pc := 25) hX dX10_adds5_25 ly_84 (zi_bg (fun g3 => ?_))
  refine zi_aload0 (pc := 26) hX dX10_adds5_26 ?_
  refine zi_getr (q := 84) (pc := 27) hX dX10_adds5_27 fl_1399 ly_61 rfl ?_
  refine zi_iload6 (pc := 30) hX dX10_adds5_30 ?_
  refine zi_iconst (pc := 32) hX dX10_adds5_32 ki_2 ?_
  refine zi_iadd (pc := 33) hX dX10_adds5_33 ?_
  refine zi_iload3 (pc := 34) hX dX10_adds5_34 ?_
  refine zi_iast (pc := 35) hX dX10_adds5_35 ly_84 (zi_bg (fun g4 => ?_))
  refine zi_aload0 (pc := 36) hX dX10_adds5_36 ?_
  refine zi_getr (q := 84) (pc := 37) hX dX10_adds5_37 fl_1399 ly_61 rfl ?_
  refine zi_iload6 (pc := 40) hX dX10_adds5_40 ?_
  refine zi_iconst (pc := 42) hX dX10_adds5_42 ki_3 ?_
  refine zi_iadd (pc := 43) hX dX10_adds5_43 ?_
  refine zi_iload4 (pc := 44) hX dX10_adds5_44 ?_
  refine zi_iast (pc := 46) hX dX10_adds5_46 ly_84 (zi_bg (fun g5 => ?_))
  refine zi_aload0 (pc := 47) hX dX10_adds5_47 ?_
  refine zi_getr (q := 84) (pc := 48) hX dX10_adds5_48 fl_1399 ly_61 rfl ?_
  refine zi_iload6 (pc := 51) hX dX10_adds5_51 ?_
  refine zi_iconst (pc := 53) hX dX10_adds5_53 ki_4 ?_
  refine zi_iadd (pc := 54) hX dX10_adds5_54 ?_
  refine zi_iload5 (pc := 55) hX dX10_adds5_55 ?_
  refine zi_iast (pc := 57) hX dX10_adds5_57 ly_84 (zi_bg (fun g6 => ?_))
  refine zi_aload0 (pc := 58) hX dX10_adds5_58 ?_
  refine zi_dup (pc := 59) hX dX10_adds5_59 rfl ?_
  refine zi_geti (pc := 60) hX dX10_adds5_60 fl_1398 ly_61 rfl ?_
  refine zi_iconst (pc := 63) hX dX10_adds5_63 ki_1 ?_
  refine zi_iadd (pc := 64) hX dX10_adds5_64 ?_
  refine zi_puti (pc := 65) hX dX10_adds5_65 fl_1398 ly_61 rfl rfl rfl (zi_bg (fun g7 => ?_))
  refine zi_aload0 (pc := 68) hX dX10_adds5_68 ?_
  refine zi_geti (pc := 69) hX dX10_adds5_69 fl_1398 ly_61 rfl ?_
  exact zi_ret (pc := 72) hX dX10_adds5_72 rfl rfl rfl rfl
theorem ct_Mo_adds5 {w : et_W} (hw : et_Sane w) (p1 : Int32) (p2 : Int32) (p3 : Int32) (p4 : Int32) (p5 : Int32) (g : et_G) : et_C w yX10_adds5 (Cond.code yX10_adds5 cX10_adds5 7 (some .int)) rm_Mo_adds5 et_eI [.ref (et_ad w 61), .int p1, .int p2, .int p3, .int p4, .int p5] g (fn_Mo_adds5 p1 p2 p3 p4 p5 g) := et_mk hw (by decide) rfl rfl (fun X hX => zw_Mo_adds5 hX p1 p2 p3 p4 p5 g)
def rm_Mo_say : Room := { frames := 2, cells := 0, slots := 0, locals := 44 }
def fn_Mo_say_43 (g : et_G) : Option (Int32 × et_G) :=
  et_bd (fn_Mo_refuses (1 : Int32) g) (fun v6 g7 =>
  some (v6, g7))
def fn_Mo_say_65 (s0 : Int32) (s1 : Int32) (s2 : Int32) (s3 : Int32) (s4 : Int32) (g : et_G) : Option (Int32 × et_G) :=
  et_bd (fn_Mo_adds5 s4 s3 s2 s1 s0 g) (fun v10 g11 =>
  some (v10, g11))
def fn_Mo_say (p1 : Int32) (p2 : Int32) (p3 : Int32) (p4 : Int32) (p5 : Int32) (g : et_G) : Option (Int32 × et_G) :=
  et_b (et_si g 61 0 (0 : Int32)) (fun g1 =>
  et_bd (fn_Mo_isWho p1 p2 g1) (fun v2 g3 =>
  if v2 = 0 then
    some ((0 : Int32), g3)
  else
    et_bd (fn_Mo_isThing p3 g3) (fun v4 g5 =>
    if v4 = 0 then
      some ((0 : Int32), g5)
    else
      if (g5.1 61 50) = (20 : Int32) then
        fn_Mo_say_43 g5
      else
        et_bd (fn_Mo_within p4 (0 : Int32) (4 : Int32) g5) (fun v8 g9 =>
        if v8 = 0 then
          fn_Mo_say_43 g9
        else
          if p5 = 0 then
            fn_Mo_say_65 (0 : Int32) p4 p3 p2 p1 g9
          else
            fn_Mo_say_65 (1 : Int32) p4 p3 p2 p1 g9))))
theorem zp_Mo_say_43 {X : et_X} {w : et_W} (hX : et_Gd X w cX10_say RX10 6 (some .int) [] rm_Mo_say) (g : et_G) : et_Z X w 0 et_eI 43 [some (.ref (et_ad w 61)), none, none, none, none, none] [] g (fn_Mo_say_43 g) := by
  unfold fn_Mo_say_43
  refine zi_aload0 (pc := 43) hX dX10_say_43 ?_
  refine zi_iconst (pc := 44) hX dX10_say_44 ki_1 ?_
  refine zi_callI (zc_virt (pc := 45) hX dX10_say_45 tm_1741 md_X10_refuses mi_X10_refuses ly_61 (ct_Mo_refuses hX.sane (1 : Int32) g) rfl rfl rfl) (fun v6 g7 => ?_)
  exact zi_ret (pc := 48) hX dX10_say_48 rfl rfl rfl rfl
theorem zp_Mo_say_65 {X : et_X} {w : et_W} (hX : et_Gd X w cX10_say RX10 6 (some .int) [] rm_Mo_say) (s0 : Int32) (s1 : Int32) (s2 : Int32) (s3 : Int32) (s4 : Int32) (g : et_G) : et_Z X w 0 et_eI 65 [none, none, none, none, none, none] [.int s0, .int s1, .int s2, .int s3, .int s4, .ref (et_ad w 61)] g (fn_Mo_say_65 s0 s1 s2 s3 s4 g) := by
  unfold fn_Mo_say_65
  refine zi_callI (zc_virt (pc := 65) hX dX10_say_65 tm_1745 md_X10_adds5 mi_X10_adds5 ly_61 (ct_Mo_adds5 hX.sane s4 s3 s2 s1 s0 g) rfl rfl rfl) (fun v10 g11 => ?_)
  exact zi_ret (pc := 68) hX dX10_say_68 rfl rfl rfl rfl
theorem zw_Mo_say {X : et_X} {w : et_W} (hX : et_Gd X w cX10_say RX10 6 (some .int) [] rm_Mo_say) (p1 : Int32) (p2 : Int32) (p3 : Int32) (p4 : Int32) (p5 : Int32) (g : et_G) : et_Z X w 0 et_eI 0 [some (.ref (et_ad w 61)), some (.int p1), some (.int p2), some (.int p3), some (.int p4), some (.int p5)] [] g (fn_Mo_say p1 p2 p3 p4 p5 g) := by
  unfold fn_Mo_say
  refine zi_aload0 (pc := 0) hX dX10_say_0 ?_
  refine zi_iconst (pc := 1) hX dX10_say_1 ki_0 ?_
  refine zi_puti (pc := 2) hX dX10_say_2 fl_1348 ly_61 rfl rfl rfl (zi_bg (fun g1 => ?_))
  refine zi_aload0 (pc := 5) hX dX10_say_5 ?_
  refine zi_iload1 (pc := 6) hX dX10_say_6 ?_
  refine zi_iload2 (pc := 7) hX dX10_say_7 ?_
  refine zi_callI (zc_virt (pc := 8) hX dX10_say_8 tm_1693 md_X10_isWho mi_X10_isWho ly_61 (ct_Mo_isWho hX.sane p1 p2 g1) rfl rfl rfl) (fun v2 g3 => ?_)
  refine zi_if_eq (pc := 11) 22 hX dX10_say_11 (by decide) (fun _ => ?_) (fun _ => ?_)
  · refine zi_iconst (pc := 22) hX dX10_say_22 ki_0 ?_
    exact zi_ret (pc := 23) hX dX10_say_23 rfl rfl rfl rfl
  · refine zi_aload0 (pc := 14) hX dX10_say_14 ?_
    refine zi_iload3 (pc := 15) hX dX10_say_15 ?_
    refine zi_callI (zc_virt (pc := 16) hX dX10_say_16 tm_1701 md_X10_isThing mi_X10_isThing ly_61 (ct_Mo_isThing hX.sane p3 g3) rfl rfl rfl) (fun v4 g5 => ?_)
    refine zi_if_ne (pc := 19) 24 hX dX10_say_19 (by decide) (fun _ => ?_) (fun _ => ?_)
    · refine zi_iconst (pc := 22) hX dX10_say_22 ki_0 ?_
      exact zi_ret (pc := 23) hX dX10_say_23 rfl rfl rfl rfl
    · refine zi_aload0 (pc := 24) hX dX10_say_24 ?_
      refine zi_geti (pc := 25) hX dX10_say_25 fl_1398 ly_61 rfl ?_
      refine zi_bipush (pc := 28) hX dX10_say_28 kb_20 ?_
      refine zi_icmp_eq (pc := 30) 43 hX dX10_say_30 (by decide) (fun _ => ?_) (fun _ => ?_)
      · refine zi_drop (le_s (le_n (le_n (le_n (le_n (le_n le_nil)))))) ?_; exact zp_Mo_say_43 hX g5
      · refine zi_iload4 (pc := 33) hX dX10_say_33 ?_
        refine zi_iconst (pc := 35) hX dX10_say_35 ki_0 ?_
        refine zi_iconst (pc := 36) hX dX10_say_36 ki_4 ?_
        refine zi_callI (zc_stat (pc := 37) hX dX10_say_37 tm_1683 md_X10_within st_X10_within (ct_Mo_within hX.sane p4 (0 : Int32) (4 : Int32) g5) rfl rfl rfl) (fun v8 g9 => ?_)
        refine zi_if_ne (pc := 40) 49 hX dX10_say_40 (by decide) (fun _ => ?_) (fun _ => ?_)
        · refine zi_drop (le_s (le_n (le_n (le_n (le_n (le_n le_nil)))))) ?_; exact zp_Mo_say_43 hX g9
        · refine zi_aload0 (pc := 49) hX dX10_say_49 ?_
          refine zi_iload1 (pc := 50) hX dX10_say_50 ?_
          refine zi_iload2 (pc := 51) hX dX10_say_51 ?_
          refine zi_iload3 (pc := 52) hX dX10_say_52 ?_
          refine zi_iload4 (pc := 53) hX dX10_say_53 ?_
          refine zi_iload5 (pc := 55) hX dX10_say_55 ?_
          refine zi_if_eq (pc := 57) 64 hX dX10_say_57 (by decide) (fun _ => ?_) (fun _ => ?_)
          · refine zi_iconst (pc := 64) hX dX10_say_64 ki_0 ?_
            refine zi_drop (le_n (le_n (le_n (le_n (le_n (le_n le_nil)))))) ?_; exact zp_Mo_say_65 hX (0 : Int32) p4 p3 p2 p1 g9
          · refine zi_iconst (pc := 60) hX dX10_say_60 ki_1 ?_
            refine zi_goto (pc := 61) 65 hX dX10_say_61 (by decide) ?_
            refine zi_drop (le_n (le_n (le_n (le_n (le_n (le_n le_nil)))))) ?_; exact zp_Mo_say_65 hX (1 : Int32) p4 p3 p2 p1 g9
theorem ct_Mo_say {w : et_W} (hw : et_Sane w) (p1 : Int32) (p2 : Int32) (p3 : Int32) (p4 : Int32) (p5 : Int32) (g : et_G) : et_C w yX10_say (Cond.code yX10_say cX10_say 6 (some .int)) rm_Mo_say et_eI [.ref (et_ad w 61), .int p1, .int p2, .int p3, .int p4, .int p5] g (fn_Mo_say p1 p2 p3 p4 p5 g) := et_mk hw (by decide) rfl rfl (fun X hX => zw_Mo_say hX p1 p2 p3 p4 p5 g)
def rm_Mo_ruleEyes : Room := { frames := 0, cells := 0, slots := 0, locals := 0 }
def fn_Mo_ruleEyes_132 (r5 : Int32 → Int32 → et_G → Option (Int32 × et_G)) (x1 : Int32) (x2 : Int32) (x3 : Int32) (x4 : Int32) (x5 : Int32) (x6 : Int32) (g : et_G) : Option (Int32 × et_G) :=
  if x6 = 0 then
    et_b (x3 ||| (0 : Int32)) (fun v1 =>
    et_b (x4 + (1 : Int32)) (fun v2 =>
    r5 v1 v2 g))
  else
    et_b (x3 ||| x5) (fun v3 =>
    et_b (x4 + (1 : Int32)) (fun v4 =>
    r5 v3 v4 g))
def fn_Mo_ruleEyes_95 (r5 : Int32 → Int32 → et_G → Option (Int32 × et_G)) (r41 : Int32 → Int32 → Int32 → et_G → Option (Int32 × et_G)) (x1 : Int32) (x2 : Int32) (x3 : Int32) (x4 : Int32) (x5 : Int32) (x7 : Int32) (s0 : Int32) (g : et_G) : Option (Int32 × et_G) :=
  et_ck (et_ib ((((5 : Int32) * x4) + (1 : Int32)) + x7) 30) (
  et_ck (et_ib (((8 : Int32) * x1) + (g.1 67 ((((5 : Int32) * x4) + (1 : Int32)) + x7).toNatClampNeg)) 168) (
  et_b (x5 ||| (g.1 93 (((8 : Int32) * x1) + (g.1 67 ((((5 : Int32) * x4) + (1 : Int32)) + x7).toNatClampNeg)).toNatClampNeg)) (fun v5 =>
  et_b (x7 + (1 : Int32)) (fun v6 =>
  r41 v5 s0 v6 g))))
def fn_Mo_ruleEyes_94 (r5 : Int32 → Int32 → et_G → Option (Int32 × et_G)) (r41 : Int32 → Int32 → Int32 → et_G → Option (Int32 × et_G)) (x1 : Int32) (x2 : Int32) (x3 : Int32) (x4 : Int32) (x5 : Int32) (x7 : Int32) (g : et_G) : Option (Int32 × et_G) :=
  fn_Mo_ruleEyes_95 r5 r41 x1 x2 x3 x4 x5 x7 (0 : Int32) g
def fn_Mo_ruleEyes_41 (r5 : Int32 → Int32 → et_G → Option (Int32 × et_G)) (x1 : Int32) (x2 : Int32) (x3 : Int32) (x4 : Int32) : Nat → Int32 → Int32 → Int32 → et_G → Option (Int32 × et_G)
  | 0, _, _, _, _ => none
  | n + 1, x5, x6, x7, g =>
    et_ck (et_ib ((5 : Int32) * x4) 30) (
    if (g.1 67 ((5 : Int32) * x4).toNatClampNeg) ≤ x7 then
      fn_Mo_ruleEyes_132 r5 x1 x2 x3 x4 x5 x6 g
    else
      if x6 = 0 then
        fn_Mo_ruleEyes_94 r5 (fun z5 z6 z7 g => fn_Mo_ruleEyes_41 r5 x1 x2 x3 x4 n z5 z6 z7 g) x1 x2 x3 x4 x5 x7 g
      else
        et_ck (et_ib ((((5 : Int32) * x4) + (1 : Int32)) + x7) 30) (
        et_ck (et_ib (((8 : Int32) * x1) + (g.1 67 ((((5 : Int32) * x4) + (1 : Int32)) + x7).toNatClampNeg)) 168) (
        if (1000 : Int32) ≤ (g.1 91 (((8 : Int32) * x1) + (g.1 67 ((((5 : Int32) * x4) + (1 : Int32)) + x7).toNatClampNeg)).toNatClampNeg) then
          fn_Mo_ruleEyes_94 r5 (fun z5 z6 z7 g => fn_Mo_ruleEyes_41 r5 x1 x2 x3 x4 n z5 z6 z7 g) x1 x2 x3 x4 x5 x7 g
        else
          fn_Mo_ruleEyes_95 r5 (fun z5 z6 z7 g => fn_Mo_ruleEyes_41 r5 x1 x2 x3 x4 n z5 z6 z7 g) x1 x2 x3 x4 x5 x7 (1 : Int32) g)))
def fn_Mo_ruleEyes_5 (x1 : Int32) (x2 : Int32) : Nat → Int32 → Int32 → et_G → Option (Int32 × et_G)
  | 0, _, _, _ => none
  | n + 1, x3, x4, g =>
    if (g.1 61 6) ≤ x4 then
      some (x3, g)
    else
      et_ck (et_ib (((5 : Int32) * x4) + (1 : Int32)) 30) (
      if (g.1 67 (((5 : Int32) * x4) + (1 : Int32)).toNatClampNeg) = x2 then
        fn_Mo_ruleEyes_41 (fun z3 z4 g => fn_Mo_ruleEyes_5 x1 x2 n z3 z4 g) x1 x2 x3 x4 1000000 (0 : Int32) (1 : Int32) (1 : Int32) g
      else
        et_b (x4 + (1 : Int32)) (fun v7 =>
        fn_Mo_ruleEyes_5 x1 x2 n x3 v7 g))
def fn_Mo_ruleEyes (p1 : Int32) (p2 : Int32) (g : et_G) : Option (Int32 × et_G) :=
  fn_Mo_ruleEyes_5 p1 p2 1000000 (0 : Int32) (0 : Int32) g
theorem zp_Mo_ruleEyes_132 {X : et_X} {w : et_W} (hX : et_Gd X w cX10_ruleEyes RX10 8 (some .int) [] rm_Mo_ruleEyes) (r5 : Int32 → Int32 → et_G → Option (Int32 × et_G)) (x1 : Int32) (x2 : Int32) (x3 : Int32) (x4 : Int32) (x5 : Int32) (x6 : Int32) (hr5 : ∀ (y3 : Int32) (y4 : Int32) (g : et_G), et_Z X w 0 et_eI 5 [some (.ref (et_ad w 61)), some (.int x1), some (.int x2), some (.int y3), some (.int y4), none, none, none] [] g (r5 y3 y4 g)) (g : et_G) : et_Z X w 0 et_eI 132 [some (.ref (et_ad w 61)), some (.int x1), some (.int x2), some (.int x3), some (.int x4), some (.int x5), some (.int x6), none] [] g (fn_Mo_ruleEyes_132 r5 x1 x2 x3 x4 x5 x6 g) := by
  unfold fn_Mo_ruleEyes_132
  refine zi_iload3 (pc := 132) hX dX10_ruleEyes_132 ?_
  refine zi_iload6 (pc := 133) hX dX10_ruleEyes_133 ?_
  refine zi_if_eq (pc := 135) 143 hX dX10_ruleEyes_135 (by decide) (fun _ => ?_) (fun _ => ?_)
  · refine zi_iconst (pc := 143) hX dX10_ruleEyes_143 ki_0 ?_
    refine zi_ior (pc := 144) hX dX10_ruleEyes_144 ?_
    refine zi_bi (fun v1 => ?_)
    refine zi_istore3 (pc := 145) hX dX10_ruleEyes_145 rfl rfl ?_
    refine zi_iincb4 (pc := 146) hX dX10_ruleEyes_146 (kn_1 _) rfl rfl (fun v2 => ?_)
    refine zi_goto (pc := 149) 5 hX dX10_ruleEyes_149 (by decide) ?_
    refine zi_drop (le_s (le_s (le_s (le_s (le_s (le_n (le_n (le_s le_nil)))))))) ?_; exact hr5 v1 v2 g
  · refine zi_iload5 (pc := 138) hX dX10_ruleEyes_138 ?_
    refine zi_goto (pc := 140) 144 hX dX10_ruleEyes_140 (by decide) ?_
    refine zi_ior (pc := 144) hX dX10_ruleEyes_144 ?_
    refine zi_bi (fun v3 => ?_)
    refine zi_istore3 (pc := 145) hX dX10_ruleEyes_145 rfl rfl ?_
    refine zi_iincb4 (pc := 146) hX dX10_ruleEyes_146 (kn_1 _) rfl rfl (fun v4 => ?_)
    refine zi_goto (pc := 149) 5 hX dX10_ruleEyes_149 (by decide) ?_
    refine zi_drop (le_s (le_s (le_s (le_s (le_s (le_n (le_n (le_s le_nil)))))))) ?_; exact hr5 v3 v4 g
theorem zp_Mo_ruleEyes_95 {X : et_X} {w : et_W} (hX : et_Gd X w cX10_ruleEyes RX10 8 (some .int) [] rm_Mo_ruleEyes) (r5 : Int32 → Int32 → et_G → Option (Int32 × et_G)) (r41 : Int32 → Int32 → Int32 → et_G → Option (Int32 × et_G)) (x1 : Int32) (x2 : Int32) (x3 : Int32) (x4 : Int32) (x5 : Int32) (x7 : Int32) (s0 : Int32) (hr5 : ∀ (y3 : Int32) (y4 : Int32) (g : et_G), et_Z X w 0 et_eI 5 [some (.ref (et_ad w 61)), some (.int x1), some (.int x2), some (.int y3), some (.int y4), none, none, none] [] g (r5 y3 y4 g)) (hr41 : ∀ (y5 : Int32) (y6 : Int32) (y7 : Int32) (g : et_G), et_Z X w 0 et_eI 41 [some (.ref (et_ad w 61)), some (.int x1), some (.int x2), some (.int x3), some (.int x4), some (.int y5), some (.int y6), some (.int y7)] [] g (r41 y5 y6 y7 g)) (g : et_G) : et_Z X w 0 et_eI 95 [some (.ref (et_ad w 61)), some (.int x1), some (.int x2), some (.int x3), some (.int x4), some (.int x5), none, some (.int x7)] [.int s0] g (fn_Mo_ruleEyes_95 r5 r41 x1 x2 x3 x4 x5 x7 s0 g) := by
  unfold fn_Mo_ruleEyes_95
  refine zi_istore6 (pc := 95) hX dX10_ruleEyes_95 rfl rfl ?_
  refine zi_iload5 (pc := 97) hX dX10_ruleEyes_97 ?_
  refine zi_aload0 (pc := 99) hX dX10_ruleEyes_99 ?_
  refine zi_getr (q := 93) (pc := 100) hX dX10_ruleEyes_100 fl_1412 ly_61 rfl ?_
  refine zi_bipush (pc := 103) hX dX10_ruleEyes_103 kb_8 ?_
  refine zi_iload1 (pc := 105) hX dX10_ruleEyes_105 ?_
  refine zi_imul (pc := 106) hX dX10_ruleEyes_106 ?_
  refine zi_aload0 (pc := 107) hX dX10_ruleEyes_107 ?_
  refine zi_getr (q := 67) (pc := 108) hX dX10_ruleEyes_108 fl_1360 ly_61 rfl ?_
  refine zi_iconst (pc := 111) hX dX10_ruleEyes_111 ki_5 ?_
  refine zi_iload4 (pc := 112) hX dX10_ruleEyes_112 ?_
  refine zi_imul (pc := 114) hX dX10_ruleEyes_114 ?_
  refine zi_iconst (pc := 115) hX dX10_ruleEyes_115 ki_1 ?_
  refine zi_iadd (pc := 116) hX dX10_ruleEyes_116 ?_
  refine zi_iload7 (pc := 117) hX dX10_ruleEyes_117 ?_
  refine zi_iadd (pc := 119) hX dX10_ruleEyes_119 ?_
  refine zi_iald (pc := 120) hX dX10_ruleEyes_120 ly_67 ?_
  refine zi_iadd (pc := 121) hX dX10_ruleEyes_121 ?_
  refine zi_iald (pc := 122) hX dX10_ruleEyes_122 ly_93 ?_
  refine zi_ior (pc := 123) hX dX10_ruleEyes_123 ?_
  refine zi_bi (fun v5 => ?_)
  refine zi_istore5 (pc := 124) hX dX10_ruleEyes_124 rfl rfl ?_
  refine zi_iincb7 (pc := 126) hX dX10_ruleEyes_126 (kn_1 _) rfl rfl (fun v6 => ?_)
  refine zi_goto (pc := 129) 41 hX dX10_ruleEyes_129 (by decide) ?_
  exact hr41 v5 s0 v6 g
theorem zp_Mo_ruleEyes_94 {X : et_X} {w : et_W} (hX : et_Gd X w cX10_ruleEyes RX10 8 (some .int) [] rm_Mo_ruleEyes) (r5 : Int32 → Int32 → et_G → Option (Int32 × et_G)) (r41 : Int32 → Int32 → Int32 → et_G → Option (Int32 × et_G)) (x1 : Int32) (x2 : Int32) (x3 : Int32) (x4 : Int32) (x5 : Int32) (x7 : Int32) (hr5 : ∀ (y3 : Int32) (y4 : Int32) (g : et_G), et_Z X w 0 et_eI 5 [some (.ref (et_ad w 61)), some (.int x1), some (.int x2), some (.int y3), some (.int y4), none, none, none] [] g (r5 y3 y4 g)) (hr41 : ∀ (y5 : Int32) (y6 : Int32) (y7 : Int32) (g : et_G), et_Z X w 0 et_eI 41 [some (.ref (et_ad w 61)), some (.int x1), some (.int x2), some (.int x3), some (.int x4), some (.int y5), some (.int y6), some (.int y7)] [] g (r41 y5 y6 y7 g)) (g : et_G) : et_Z X w 0 et_eI 94 [some (.ref (et_ad w 61)), some (.int x1), some (.int x2), some (.int x3), some (.int x4), some (.int x5), none, some (.int x7)] [] g (fn_Mo_ruleEyes_94 r5 r41 x1 x2 x3 x4 x5 x7 g) := by
  unfold fn_Mo_ruleEyes_94
  refine zi_iconst (pc := 94) hX dX10_ruleEyes_94 ki_0 ?_
  exact zp_Mo_ruleEyes_95 hX r5 r41 x1 x2 x3 x4 x5 x7 (0 : Int32) hr5 hr41 g
theorem zp_Mo_ruleEyes_41 {X : et_X} {w : et_W} (hX : et_Gd X w cX10_ruleEyes RX10 8 (some .int) [] rm_Mo_ruleEyes) (r5 : Int32 → Int32 → et_G → Option (Int32 × et_G)) (x1 : Int32) (x2 : Int32) (x3 : Int32) (x4 : Int32) (hr5 : ∀ (y3 : Int32) (y4 : Int32) (g : et_G), et_Z X w 0 et_eI 5 [some (.ref (et_ad w 61)), some (.int x1), some (.int x2), some (.int y3), some (.int y4), none, none, none] [] g (r5 y3 y4 g)) : ∀ (n : Nat) (x5 : Int32) (x6 : Int32) (x7 : Int32) (g : et_G), et_Z X w 0 et_eI 41 [some (.ref (et_ad w 61)), some (.int x1), some (.int x2), some (.int x3), some (.int x4), some (.int x5), some (.int x6), some (.int x7)] [] g (fn_Mo_ruleEyes_41 r5 x1 x2 x3 x4 n x5 x6 x7 g) := by
  intro n
  induction n with
  | zero =>
    intro x5 x6 x7 g a g2 h
    cases h
  | succ n ih =>
    intro x5 x6 x7 g
    rw [fn_Mo_ruleEyes_41]
    refine zi_iload7 (pc := 41) hX dX10_ruleEyes_41 ?_
    refine zi_aload0 (pc := 43) hX dX10_ruleEyes_43 ?_
    refine zi_getr (q := 67) (pc := 44) hX dX10_ruleEyes_44 fl_1360 ly_61 rfl ?_
    refine zi_iconst (pc := 47) hX dX10_ruleEyes_47 ki_5 ?_
    refine zi_iload4 (pc := 48) hX dX10_ruleEyes_48 ?_
    refine zi_imul (pc := 50) hX dX10_ruleEyes_50 ?_
    refine zi_iald (pc := 51) hX dX10_ruleEyes_51 ly_67 ?_
    refine zi_icmp_ge (pc := 52) 132 hX dX10_ruleEyes_52 (by decide) (fun _ => ?_) (fun _ => ?_)
    · refine zi_drop (le_s (le_s (le_s (le_s (le_s (le_s (le_s (le_n le_nil)))))))) ?_; exact zp_Mo_ruleEyes_132 hX r5 x1 x2 x3 x4 x5 x6 hr5 g
    · refine zi_iload6 (pc := 55) hX dX10_ruleEyes_55 ?_
      refine zi_if_eq (pc := 57) 94 hX dX10_ruleEyes_57 (by decide) (fun _ => ?_) (fun _ => ?_)
      · refine zi_drop (le_s (le_s (le_s (le_s (le_s (le_s (le_n (le_s le_nil)))))))) ?_; exact zp_Mo_ruleEyes_94 hX r5 (fun z5 z6 z7 g => fn_Mo_ruleEyes_41 r5 x1 x2 x3 x4 n z5 z6 z7 g) x1 x2 x3 x4 x5 x7 hr5 (fun z5 z6 z7 g => ih z5 z6 z7 g) g
      · refine zi_aload0 (pc := 60) hX dX10_ruleEyes_60 ?_
        refine zi_getr (q := 91) (pc := 61) hX dX10_ruleEyes_61 fl_1406 ly_61 rfl ?_
        refine zi_bipush (pc := 64) hX dX10_ruleEyes_64 kb_8 ?_
        refine zi_iload1 (pc := 66) hX dX10_ruleEyes_66 ?_
        refine zi_imul (pc := 67) hX dX10_ruleEyes_67 ?_
        refine zi_aload0 (pc := 68) hX dX10_ruleEyes_68 ?_
        refine zi_getr (q := 67) (pc := 69) hX dX10_ruleEyes_69 fl_1360 ly_61 rfl ?_
        refine zi_iconst (pc := 72) hX dX10_ruleEyes_72 ki_5 ?_
        refine zi_iload4 (pc := 73) hX dX10_ruleEyes_73 ?_
        refine zi_imul (pc := 75) hX dX10_ruleEyes_75 ?_
        refine zi_iconst (pc := 76) hX dX10_ruleEyes_76 ki_1 ?_
        refine zi_iadd (pc := 77) hX dX10_ruleEyes_77 ?_
        refine zi_iload7 (pc := 78) hX dX10_ruleEyes_78 ?_
        refine zi_iadd (pc := 80) hX dX10_ruleEyes_80 ?_
        refine zi_iald (pc := 81) hX dX10_ruleEyes_81 ly_67 ?_
        refine zi_iadd (pc := 82) hX dX10_ruleEyes_82 ?_
        refine zi_iald (pc := 83) hX dX10_ruleEyes_83 ly_91 ?_
        refine zi_sipush (pc := 84) hX dX10_ruleEyes_84 ks_1000 ?_
        refine zi_icmp_ge (pc := 87) 94 hX dX10_ruleEyes_87 (by decide) (fun _ => ?_) (fun _ => ?_)
        · refine zi_drop (le_s (le_s (le_s (le_s (le_s (le_s (le_n (le_s le_nil)))))))) ?_; exact zp_Mo_ruleEyes_94 hX r5 (fun z5 z6 z7 g => fn_Mo_ruleEyes_41 r5 x1 x2 x3 x4 n z5 z6 z7 g) x1 x2 x3 x4 x5 x7 hr5 (fun z5 z6 z7 g => ih z5 z6 z7 g) g
        · refine zi_iconst (pc := 90) hX dX10_ruleEyes_90 ki_1 ?_
          refine zi_goto (pc := 91) 95 hX dX10_ruleEyes_91 (by decide) ?_
          refine zi_drop (le_s (le_s (le_s (le_s (le_s (le_s (le_n (le_s le_nil)))))))) ?_; exact zp_Mo_ruleEyes_95 hX r5 (fun z5 z6 z7 g => fn_Mo_ruleEyes_41 r5 x1 x2 x3 x4 n z5 z6 z7 g) x1 x2 x3 x4 x5 x7 (1 : Int32) hr5 (fun z5 z6 z7 g => ih z5 z6 z7 g) g
theorem zp_Mo_ruleEyes_5 {X : et_X} {w : et_W} (hX : et_Gd X w cX10_ruleEyes RX10 8 (some .int) [] rm_Mo_ruleEyes) (x1 : Int32) (x2 : Int32) : ∀ (n : Nat) (x3 : Int32) (x4 : Int32) (g : et_G), et_Z X w 0 et_eI 5 [some (.ref (et_ad w 61)), some (.int x1), some (.int x2), some (.int x3), some (.int x4), none, none, none] [] g (fn_Mo_ruleEyes_5 x1 x2 n x3 x4 g) := by
  intro n
  induction n with
  | zero =>
    intro x3 x4 g a g2 h
    cases h
  | succ n ih =>
    intro x3 x4 g
    rw [fn_Mo_ruleEyes_5]
    refine zi_iload4 (pc := 5) hX dX10_ruleEyes_5 ?_
    refine zi_aload0 (pc := 7) hX dX10_ruleEyes_7 ?_
    refine zi_geti (pc := 8) hX dX10_ruleEyes_8 fl_1354 ly_61 rfl ?_
    refine zi_icmp_ge (pc := 11) 152 hX dX10_ruleEyes_11 (by decide) (fun _ => ?_) (fun _ => ?_)
    · refine zi_iload3 (pc := 152) hX dX10_ruleEyes_152 ?_
      exact zi_ret (pc := 153) hX dX10_ruleEyes_153 rfl rfl rfl rfl
    · refine zi_aload0 (pc := 14) hX dX10_ruleEyes_14 ?_
      refine zi_getr (q := 67) (pc := 15) hX dX10_ruleEyes_15 fl_1360 ly_61 rfl ?_
      refine zi_iconst (pc := 18) hX dX10_ruleEyes_18 ki_5 ?_
      refine zi_iload4 (pc := 19) hX dX10_ruleEyes_19 ?_
      refine zi_imul (pc := 21) hX dX10_ruleEyes_21 ?_
      refine zi_iconst (pc := 22) hX dX10_ruleEyes_22 ki_1 ?_
      refine zi_iadd (pc := 23) hX dX10_ruleEyes_23 ?_
      refine zi_iald (pc := 24) hX dX10_ruleEyes_24 ly_67 ?_
      refine zi_iload2 (pc := 25) hX dX10_ruleEyes_25 ?_
      refine zi_icmp_eq (pc := 26) 32 hX dX10_ruleEyes_26 (by decide) (fun _ => ?_) (fun _ => ?_)
      · refine zi_iconst (pc := 32) hX dX10_ruleEyes_32 ki_0 ?_
        refine zi_istore5 (pc := 33) hX dX10_ruleEyes_33 rfl rfl ?_
        refine zi_iconst (pc := 35) hX dX10_ruleEyes_35 ki_1 ?_
        refine zi_istore6 (pc := 36) hX dX10_ruleEyes_36 rfl rfl ?_
        refine zi_iconst (pc := 38) hX dX10_ruleEyes_38 ki_1 ?_
        refine zi_istore7 (pc := 39) hX dX10_ruleEyes_39 rfl rfl ?_
        exact zp_Mo_ruleEyes_41 hX (fun z3 z4 g => fn_Mo_ruleEyes_5 x1 x2 n z3 z4 g) x1 x2 x3 x4 (fun z3 z4 g => ih z3 z4 g) 1000000 (0 : Int32) (1 : Int32) (1 : Int32) g
      · refine zi_goto (pc := 29) 146 hX dX10_ruleEyes_29 (by decide) ?_
        refine zi_iincb4 (pc := 146) hX dX10_ruleEyes_146 (kn_1 _) rfl rfl (fun v7 => ?_)
        refine zi_goto (pc := 149) 5 hX dX10_ruleEyes_149 (by decide) ?_
        exact ih x3 v7 g
theorem zw_Mo_ruleEyes {X : et_X} {w : et_W} (hX : et_Gd X w cX10_ruleEyes RX10 8 (some .int) [] rm_Mo_ruleEyes) (p1 : Int32) (p2 : Int32) (g : et_G) : et_Z X w 0 et_eI 0 [some (.ref (et_ad w 61)), some (.int p1), some (.int p2), none, none, none, none, none] [] g (fn_Mo_ruleEyes p1 p2 g) := by
  unfold fn_Mo_ruleEyes
  refine zi_iconst (pc := 0) hX dX10_ruleEyes_0 ki_0 ?_
  refine zi_istore3 (pc := 1) hX dX10_ruleEyes_1 rfl rfl ?_
  refine zi_iconst (pc := 2) hX dX10_ruleEyes_2 ki_0 ?_
  refine zi_istore4 (pc := 3) hX dX10_ruleEyes_3 rfl rfl ?_
  exact zp_Mo_ruleEyes_5 hX p1 p2 1000000 (0 : Int32) (0 : Int32) g
theorem ct_Mo_ruleEyes {w : et_W} (hw : et_Sane w) (p1 : Int32) (p2 : Int32) (g : et_G) : et_C w yX10_ruleEyes (Cond.code yX10_ruleEyes cX10_ruleEyes 8 (some .int)) rm_Mo_ruleEyes et_eI [.ref (et_ad w 61), .int p1, .int p2] g (fn_Mo_ruleEyes p1 p2 g) := et_mk hw (by decide) rfl rfl (fun X hX => zw_Mo_ruleEyes hX p1 p2 g)
def rm_Mo_toldEyes : Room := { frames := 2, cells := 0, slots := 0, locals := 47 }
def fn_Mo_toldEyes_6 (x1 : Int32) (x2 : Int32) (x3 : Int32) (x4 : Int32) : Nat → Int32 → Int32 → et_G → Option (Int32 × et_G)
  | 0, _, _, _ => none
  | n + 1, x5, x6, g =>
    if (g.1 61 50) ≤ x6 then
      some (x5, g)
    else
      et_ck (et_ib x6 20) (
      if (1000 : Int32) ≤ (g.1 86 x6.toNatClampNeg) then
        et_b (x6 + (1 : Int32)) (fun v1 =>
        fn_Mo_toldEyes_6 x1 x2 x3 x4 n x5 v1 g)
      else
        et_bd (fn_Mo_isTold x6 x1 x2 x3 x4 g) (fun v2 g3 =>
        if v2 = 0 then
          et_b (x6 + (1 : Int32)) (fun v4 =>
          fn_Mo_toldEyes_6 x1 x2 x3 x4 n x5 v4 g3)
        else
          et_ck (et_ib x6 20) (
          et_b (x5 ||| (g3.1 92 x6.toNatClampNeg)) (fun v5 =>
          et_b (x6 + (1 : Int32)) (fun v6 =>
          fn_Mo_toldEyes_6 x1 x2 x3 x4 n v5 v6 g3)))))
def fn_Mo_toldEyes (p1 : Int32) (p2 : Int32) (p3 : Int32) (p4 : Int32) (g : et_G) : Option (Int32 × et_G) :=
  fn_Mo_toldEyes_6 p1 p2 p3 p4 1000000 (0 : Int32) (0 : Int32) g
theorem zp_Mo_toldEyes_6 {X : et_X} {w : et_W} (hX : et_Gd X w cX10_toldEyes RX10 7 (some .int) [] rm_Mo_toldEyes) (x1 : Int32) (x2 : Int32) (x3 : Int32) (x4 : Int32) : ∀ (n : Nat) (x5 : Int32) (x6 : Int32) (g : et_G), et_Z X w 0 et_eI 6 [some (.ref (et_ad w 61)), some (.int x1), some (.int x2), some (.int x3), some (.int x4), some (.int x5), some (.int x6)] [] g (fn_Mo_toldEyes_6 x1 x2 x3 x4 n x5 x6 g) := by
  intro n
  induction n with
  | zero =>
    intro x5 x6 g a g2 h
    cases h
  | succ n ih =>
    intro x5 x6 g
    rw [fn_Mo_toldEyes_6]
    refine zi_iload6 (pc := 6) hX dX10_toldEyes_6 ?_
    refine zi_aload0 (pc := 8) hX dX10_toldEyes_8 ?_
    refine zi_geti (pc := 9) hX dX10_toldEyes_9 fl_1398 ly_61 rfl ?_
    refine zi_icmp_ge (pc := 12) 60 hX dX10_toldEyes_12 (by decide) (fun _ => ?_) (fun _ => ?_)
    · refine zi_iload5 (pc := 60) hX dX10_toldEyes_60 ?_
      exact zi_ret (pc := 62) hX dX10_toldEyes_62 rfl rfl rfl rfl
    · refine zi_aload0 (pc := 15) hX dX10_toldEyes_15 ?_
      refine zi_getr (q := 86) (pc := 16) hX dX10_toldEyes_16 fl_1401 ly_61 rfl ?_
      refine zi_iload6 (pc := 19) hX dX10_toldEyes_19 ?_
      refine zi_iald (pc := 21) hX dX10_toldEyes_21 ly_86 ?_
      refine zi_sipush (pc := 22) hX dX10_toldEyes_22 ks_1000 ?_
      refine zi_icmp_ge (pc := 25) 54 hX dX10_toldEyes_25 (by decide) (fun _ => ?_) (fun _ => ?_)
      · refine zi_iincb6 (pc := 54) hX dX10_toldEyes_54 (kn_1 _) rfl rfl (fun v1 => ?_)
        refine zi_goto (pc := 57) 6 hX dX10_toldEyes_57 (by decide) ?_
        exact ih x5 v1 g
      · refine zi_aload0 (pc := 28) hX dX10_toldEyes_28 ?_
        refine zi_iload6 (pc := 29) hX dX10_toldEyes_29 ?_
        refine zi_iload1 (pc := 31) hX dX10_toldEyes_31 ?_
        refine zi_iload2 (pc := 32) hX dX10_toldEyes_32 ?_
        refine zi_iload3 (pc := 33) hX dX10_toldEyes_33 ?_
        refine zi_iload4 (pc := 34) hX dX10_toldEyes_34 ?_
        refine zi_callI (zc_virt (pc := 36) hX dX10_toldEyes_36 tm_1805 md_X10_isTold mi_X10_isTold ly_61 (ct_Mo_isTold hX.sane x6 x1 x2 x3 x4 g) rfl rfl rfl) (fun v2 g3 => ?_)
        refine zi_if_eq (pc := 39) 54 hX dX10_toldEyes_39 (by decide) (fun _ => ?_) (fun _ => ?_)
        · refine zi_iincb6 (pc := 54) hX dX10_toldEyes_54 (kn_1 _) rfl rfl (fun v4 => ?_)
          refine zi_goto (pc := 57) 6 hX dX10_toldEyes_57 (by decide) ?_
          exact ih x5 v4 g3
        · refine zi_iload5 (pc := 42) hX dX10_toldEyes_42 ?_
          refine zi_aload0 (pc := 44) hX dX10_toldEyes_44 ?_
          refine zi_getr (q := 92) (pc := 45) hX dX10_toldEyes_45 fl_1411 ly_61 rfl ?_
          refine zi_iload6 (pc := 48) hX dX10_toldEyes_48 ?_
          refine zi_iald (pc := 50) hX dX10_toldEyes_50 ly_92 ?_
          refine zi_ior (pc := 51) hX dX10_toldEyes_51 ?_
          refine zi_bi (fun v5 => ?_)
          refine zi_istore5 (pc := 52) hX dX10_toldEyes_52 rfl rfl ?_
          refine zi_iincb6 (pc := 54) hX dX10_toldEyes_54 (kn_1 _) rfl rfl (fun v6 => ?_)
          refine zi_goto (pc := 57) 6 hX dX10_toldEyes_57 (by decide) ?_
          exact ih v5 v6 g3
theorem zw_Mo_toldEyes {X : et_X} {w : et_W} (hX : et_Gd X w cX10_toldEyes RX10 7 (some .int) [] rm_Mo_toldEyes) (p1 : Int32) (p2 : Int32) (p3 : Int32) (p4 : Int32) (g : et_G) : et_Z X w 0 et_eI 0 [some (.ref (et_ad w 61)), some (.int p1), some (.int p2), some (.int p3), some (.int p4), none, none] [] g (fn_Mo_toldEyes p1 p2 p3 p4 g) := by
  unfold fn_Mo_toldEyes
  refine zi_iconst (pc := 0) hX dX10_toldEyes_0 ki_0 ?_
  refine zi_istore5 (pc := 1) hX dX10_toldEyes_1 rfl rfl ?_
  refine zi_iconst (pc := 3) hX dX10_toldEyes_3 ki_0 ?_
  refine zi_istore6 (pc := 4) hX dX10_toldEyes_4 rfl rfl ?_
  exact zp_Mo_toldEyes_6 hX p1 p2 p3 p4 1000000 (0 : Int32) (0 : Int32) g
theorem ct_Mo_toldEyes {w : et_W} (hw : et_Sane w) (p1 : Int32) (p2 : Int32) (p3 : Int32) (p4 : Int32) (g : et_G) : et_C w yX10_toldEyes (Cond.code yX10_toldEyes cX10_toldEyes 7 (some .int)) rm_Mo_toldEyes et_eI [.ref (et_ad w 61), .int p1, .int p2, .int p3, .int p4] g (fn_Mo_toldEyes p1 p2 p3 p4 g) := et_mk hw (by decide) rfl rfl (fun X hX => zw_Mo_toldEyes hX p1 p2 p3 p4 g)
def rm_Mo_eyesBy : Room := { frames := 3, cells := 0, slots := 0, locals := 73 }
def fn_Mo_eyesBy (p1 : Int32) (p2 : Int32) (p3 : Int32) (p4 : Int32) (g : et_G) : Option (Int32 × et_G) :=
  et_ck (et_ib p1 21) (
  et_b (g.1 88 p1.toNatClampNeg) (fun v1 =>
  if p4 = (4 : Int32) then
    some ((0 : Int32), g)
  else
    if p4 = (2 : Int32) then
      et_ck (et_ib p1 21) (
      et_bd (fn_Mo_toldEyes v1 (g.1 89 p1.toNatClampNeg) p2 p3 g) (fun v6 g7 =>
      some (v6, g7)))
    else
      if p4 = (3 : Int32) then
        if p3 = (1 : Int32) then
          some ((0 : Int32), g)
        else
          et_bd (fn_Mo_ruleEyes p1 p2 g) (fun v4 g5 =>
          some (v4, g5))
      else
        et_ck (et_ib p1 21) (
        et_bd (fn_Mo_isBy v1 (g.1 89 p1.toNatClampNeg) p2 p3 p4 g) (fun v2 g3 =>
        if v2 = 0 then
          some ((0 : Int32), g3)
        else
          some ((1 : Int32) <<< (v1 &&& 31), g3)))))
theorem zw_Mo_eyesBy {X : et_X} {w : et_W} (hX : et_Gd X w cX10_eyesBy RX10 6 (some .int) [] rm_Mo_eyesBy) (p1 : Int32) (p2 : Int32) (p3 : Int32) (p4 : Int32) (g : et_G) : et_Z X w 0 et_eI 0 [some (.ref (et_ad w 61)), some (.int p1), some (.int p2), some (.int p3), some (.int p4), none] [] g (fn_Mo_eyesBy p1 p2 p3 p4 g) := by
  unfold fn_Mo_eyesBy
  refine zi_aload0 (pc := 0) hX dX10_eyesBy_0 ?_
  refine zi_getr (q := 88) (pc := 1) hX dX10_eyesBy_1 fl_1403 ly_61 rfl ?_
  refine zi_iload1 (pc := 4) hX dX10_eyesBy_4 ?_
  refine zi_iald (pc := 5) hX dX10_eyesBy_5 ly_88 ?_
  refine zi_bi (fun v1 => ?_)
  refine zi_istore5 (pc := 6) hX dX10_eyesBy_6 rfl rfl ?_
  refine zi_iload4 (pc := 8) hX dX10_eyesBy_8 ?_
  refine zi_iconst (pc := 10) hX dX10_eyesBy_10 ki_4 ?_
  refine zi_icmp_ne (pc := 11) 16 hX dX10_eyesBy_11 (by decide) (fun _ => ?_) (fun _ => ?_)
  · refine zi_iconst (pc := 14) hX dX10_eyesBy_14 ki_0 ?_
    exact zi_ret (pc := 15) hX dX10_eyesBy_15 rfl rfl rfl rfl
  · refine zi_iload4 (pc := 16) hX dX10_eyesBy_16 ?_
    refine zi_iconst (pc := 18) hX dX10_eyesBy_18 ki_2 ?_
    refine zi_icmp_ne (pc := 19) 37 hX dX10_eyesBy_19 (by decide) (fun _ => ?_) (fun _ => ?_)
    · refine zi_aload0 (pc := 22) hX dX10_eyesBy_22 ?_
      refine zi_iload5 (pc := 23) hX dX10_eyesBy_23 ?_
      refine zi_aload0 (pc := 25) hX dX10_eyesBy_25 ?_
      refine zi_getr (q := 89) (pc := 26) hX dX10_eyesBy_26 fl_1404 ly_61 rfl ?_
      refine zi_iload1 (pc := 29) hX dX10_eyesBy_29 ?_
      refine zi_iald (pc := 30) hX dX10_eyesBy_30 ly_89 ?_
      refine zi_iload2 (pc := 31) hX dX10_eyesBy_31 ?_
      refine zi_iload3 (pc := 32) hX dX10_eyesBy_32 ?_
      refine zi_callI (zc_virt (pc := 33) hX dX10_eyesBy_33 tm_1825 md_X10_toldEyes mi_X10_toldEyes ly_61 (ct_Mo_toldEyes hX.sane v1 (g.1 89 p1.toNatClampNeg) p2 p3 g) rfl rfl rfl) (fun v6 g7 => ?_)
      exact zi_ret (pc := 36) hX dX10_eyesBy_36 rfl rfl rfl rfl
    · refine zi_iload4 (pc := 37) hX dX10_eyesBy_37 ?_
      refine zi_iconst (pc := 39) hX dX10_eyesBy_39 ki_3 ?_
      refine zi_icmp_ne (pc := 40) 59 hX dX10_eyesBy_40 (by decide) (fun _ => ?_) (fun _ => ?_)
      · refine zi_iload3 (pc := 43) hX dX10_eyesBy_43 ?_
        refine zi_iconst (pc := 44) hX dX10_eyesBy_44 ki_1 ?_
        refine zi_icmp_ne (pc := 45) 52 hX dX10_eyesBy_45 (by decide) (fun _ => ?_) (fun _ => ?_)
        · refine zi_iconst (pc := 48) hX dX10_eyesBy_48 ki_0 ?_
          refine zi_goto (pc := 49) 58 hX dX10_eyesBy_49 (by decide) ?_
          exact zi_ret (pc := 58) hX dX10_eyesBy_58 rfl rfl rfl rfl
        · refine zi_aload0 (pc := 52) hX dX10_eyesBy_52 ?_
          refine zi_iload1 (pc := 53) hX dX10_eyesBy_53 ?_
          refine zi_iload2 (pc := 54) hX dX10_eyesBy_54 ?_
          refine zi_callI (zc_virt (pc := 55) hX dX10_eyesBy_55 tm_1829 md_X10_ruleEyes mi_X10_ruleEyes ly_61 (ct_Mo_ruleEyes hX.sane p1 p2 g) rfl rfl rfl) (fun v4 g5 => ?_)
          exact zi_ret (pc := 58) hX dX10_eyesBy_58 rfl rfl rfl rfl
      · refine zi_aload0 (pc := 59) hX dX10_eyesBy_59 ?_
        refine zi_iload5 (pc := 60) hX dX10_eyesBy_60 ?_
        refine zi_aload0 (pc := 62) hX dX10_eyesBy_62 ?_
        refine zi_getr (q := 89) (pc := 63) hX dX10_eyesBy_63 fl_1404 ly_61 rfl ?_
        refine zi_iload1 (pc := 66) hX dX10_eyesBy_66 ?_
        refine zi_iald (pc := 67) hX dX10_eyesBy_67 ly_89 ?_
        refine zi_iload2 (pc := 68) hX dX10_eyesBy_68 ?_
        refine zi_iload3 (pc := 69) hX dX10_eyesBy_69 ?_
        refine zi_iload4 (pc := 70) hX dX10_eyesBy_70 ?_
        refine zi_callI (zc_virt (pc := 72) hX dX10_eyesBy_72 tm_1813 md_X10_isBy mi_X10_isBy ly_61 (ct_Mo_isBy hX.sane v1 (g.1 89 p1.toNatClampNeg) p2 p3 p4 g) rfl rfl rfl) (fun v2 g3 => ?_)
        refine zi_if_eq (pc := 75) 85 hX dX10_eyesBy_75 (by decide) (fun _ => ?_) (fun _ => ?_)
        · refine zi_iconst (pc := 85) hX dX10_eyesBy_85 ki_0 ?_
          exact zi_ret (pc := 86) hX dX10_eyesBy_86 rfl rfl rfl rfl
        · refine zi_iconst (pc := 78) hX dX10_eyesBy_78 ki_1 ?_
          refine zi_iload5 (pc := 79) hX dX10_eyesBy_79 ?_
          refine zi_ishl (pc := 81) hX dX10_eyesBy_81 ?_
          refine zi_goto (pc := 82) 86 hX dX10_eyesBy_82 (by decide) ?_
          exact zi_ret (pc := 86) hX dX10_eyesBy_86 rfl rfl rfl rfl
theorem ct_Mo_eyesBy {w : et_W} (hw : et_Sane w) (p1 : Int32) (p2 : Int32) (p3 : Int32) (p4 : Int32) (g : et_G) : et_C w yX10_eyesBy (Cond.code yX10_eyesBy cX10_eyesBy 6 (some .int)) rm_Mo_eyesBy et_eI [.ref (et_ad w 61), .int p1, .int p2, .int p3, .int p4] g (fn_Mo_eyesBy p1 p2 p3 p4 g) := et_mk hw (by decide) rfl rfl (fun X hX => zw_Mo_eyesBy hX p1 p2 p3 p4 g)
def rm_Mo_looks : Room := { frames := 4, cells := 0, slots := 0, locals := 98 }
def fn_Mo_looks_250 (r51 : Int32 → et_G → Option (Unit × et_G)) (r172 : Int32 → Int32 → et_G → Option (Unit × et_G)) (x2 : Int32) (x3 : Int32) (s0 : Int32) (g : et_G) : Option (Unit × et_G) :=
  et_ck (et_ib x2 20) (et_b (et_si g 92 x2.toNatClampNeg x3) (fun g10 =>
  et_b (x2 + (1 : Int32)) (fun v11 =>
  r172 s0 v11 g10)))
def fn_Mo_looks_245 (r51 : Int32 → et_G → Option (Unit × et_G)) (r172 : Int32 → Int32 → et_G → Option (Unit × et_G)) (x2 : Int32) (x3 : Int32) (g : et_G) : Option (Unit × et_G) :=
  fn_Mo_looks_250 r51 r172 x2 x3 (1 : Int32) g
def fn_Mo_looks_172 (r51 : Int32 → et_G → Option (Unit × et_G)) : Nat → Int32 → Int32 → et_G → Option (Unit × et_G)
  | 0, _, _, _ => none
  | n + 1, x1, x2, g =>
    if (g.1 61 50) ≤ x2 then
      r51 x1 g
    else
      et_ck (et_ib x2 20) (
      if (g.1 86 x2.toNatClampNeg) = (1000 : Int32) then
        et_b (x2 + (1 : Int32)) (fun v12 =>
        fn_Mo_looks_172 r51 n x1 v12 g)
      else
        et_ck (et_ib x2 20) (
        et_ck (et_ib x2 20) (
        et_bd (fn_Mo_of x2 (2 : Int32) g) (fun v1 g2 =>
        et_bd (fn_Mo_of x2 (4 : Int32) g2) (fun v3 g4 =>
        et_bd (fn_Mo_of x2 (3 : Int32) g4) (fun v5 g6 =>
        et_bd (fn_Mo_eyesBy (g.1 90 x2.toNatClampNeg) v1 v3 v5 g6) (fun v7 g8 =>
        et_b ((g.1 92 x2.toNatClampNeg) ||| v7) (fun v9 =>
        if x1 = 0 then
          et_ck (et_ib x2 20) (
          if v9 = (g8.1 92 x2.toNatClampNeg) then
            fn_Mo_looks_250 r51 (fun z1 z2 g => fn_Mo_looks_172 r51 n z1 z2 g) x2 v9 (0 : Int32) g8
          else
            fn_Mo_looks_245 r51 (fun z1 z2 g => fn_Mo_looks_172 r51 n z1 z2 g) x2 v9 g8)
        else
          fn_Mo_looks_245 r51 (fun z1 z2 g => fn_Mo_looks_172 r51 n z1 z2 g) x2 v9 g8))))))))
def fn_Mo_looks_144 (r51 : Int32 → et_G → Option (Unit × et_G)) (r59 : Int32 → Int32 → et_G → Option (Unit × et_G)) (r69 : Int32 → Int32 → et_G → Option (Unit × et_G)) (x2 : Int32) (x3 : Int32) (x4 : Int32) (s0 : Int32) (g : et_G) : Option (Unit × et_G) :=
  et_ck (et_ib (((8 : Int32) * x2) + x3) 168) (et_b (et_si g 93 (((8 : Int32) * x2) + x3).toNatClampNeg x4) (fun g15 =>
  et_b (x3 + (1 : Int32)) (fun v16 =>
  r69 s0 v16 g15)))
def fn_Mo_looks_139 (r51 : Int32 → et_G → Option (Unit × et_G)) (r59 : Int32 → Int32 → et_G → Option (Unit × et_G)) (r69 : Int32 → Int32 → et_G → Option (Unit × et_G)) (x2 : Int32) (x3 : Int32) (x4 : Int32) (g : et_G) : Option (Unit × et_G) :=
  fn_Mo_looks_144 r51 r59 r69 x2 x3 x4 (1 : Int32) g
def fn_Mo_looks_119 (r51 : Int32 → et_G → Option (Unit × et_G)) (r59 : Int32 → Int32 → et_G → Option (Unit × et_G)) (r69 : Int32 → Int32 → et_G → Option (Unit × et_G)) (x1 : Int32) (x2 : Int32) (x3 : Int32) (x4 : Int32) (g : et_G) : Option (Unit × et_G) :=
  if x1 = 0 then
    et_ck (et_ib (((8 : Int32) * x2) + x3) 168) (
    if x4 = (g.1 93 (((8 : Int32) * x2) + x3).toNatClampNeg) then
      fn_Mo_looks_144 r51 r59 r69 x2 x3 x4 (0 : Int32) g
    else
      fn_Mo_looks_139 r51 r59 r69 x2 x3 x4 g)
  else
    fn_Mo_looks_139 r51 r59 r69 x2 x3 x4 g
def fn_Mo_looks_93 (r51 : Int32 → et_G → Option (Unit × et_G)) (r59 : Int32 → Int32 → et_G → Option (Unit × et_G)) (r69 : Int32 → Int32 → et_G → Option (Unit × et_G)) (x1 : Int32) (x2 : Int32) (x3 : Int32) : Nat → Int32 → Int32 → et_G → Option (Unit × et_G)
  | 0, _, _, _ => none
  | n + 1, x4, x5, g =>
    if (4 : Int32) ≤ x5 then
      fn_Mo_looks_119 r51 r59 r69 x1 x2 x3 x4 g
    else
      et_bd (fn_Mo_eyesBy x2 x3 (0 : Int32) x5 g) (fun v17 g18 =>
      et_b (x4 ||| v17) (fun v19 =>
      et_b (x5 + (1 : Int32)) (fun v20 =>
      fn_Mo_looks_93 r51 r59 r69 x1 x2 x3 n v19 v20 g18)))
def fn_Mo_looks_69 (r51 : Int32 → et_G → Option (Unit × et_G)) (r59 : Int32 → Int32 → et_G → Option (Unit × et_G)) (x2 : Int32) : Nat → Int32 → Int32 → et_G → Option (Unit × et_G)
  | 0, _, _, _ => none
  | n + 1, x1, x3, g =>
    if (g.1 61 5) ≤ x3 then
      et_b (x2 + (1 : Int32)) (fun v13 =>
      r59 x1 v13 g)
    else
      et_ck (et_ib (((8 : Int32) * x2) + x3) 168) (
      et_b (g.1 93 (((8 : Int32) * x2) + x3).toNatClampNeg) (fun v14 =>
      fn_Mo_looks_93 r51 r59 (fun z1 z3 g => fn_Mo_looks_69 r51 r59 x2 n z1 z3 g) x1 x2 x3 1000000 v14 (0 : Int32) g))
def fn_Mo_looks_59 (r51 : Int32 → et_G → Option (Unit × et_G)) : Nat → Int32 → Int32 → et_G → Option (Unit × et_G)
  | 0, _, _, _ => none
  | n + 1, x1, x2, g =>
    if (g.1 61 59) ≤ x2 then
      fn_Mo_looks_172 r51 1000000 x1 (0 : Int32) g
    else
      fn_Mo_looks_69 r51 (fun z1 z2 g => fn_Mo_looks_59 r51 n z1 z2 g) x2 1000000 x1 (0 : Int32) g
def fn_Mo_looks_51 : Nat → Int32 → et_G → Option (Unit × et_G)
  | 0, _, _ => none
  | n + 1, x1, g =>
    if x1 = 0 then
      some ((), g)
    else
      fn_Mo_looks_59 (fun z1 g => fn_Mo_looks_51 n z1 g) 1000000 (0 : Int32) (0 : Int32) g
def fn_Mo_looks_25 : Nat → Int32 → et_G → Option (Unit × et_G)
  | 0, _, _ => none
  | n + 1, x1, g =>
    if ((8 : Int32) * (g.1 61 59)) ≤ x1 then
      fn_Mo_looks_51 1000000 (1 : Int32) g
    else
      et_ck (et_ib x1 168) (et_b (et_si g 93 x1.toNatClampNeg (0 : Int32)) (fun g21 =>
      et_b (x1 + (1 : Int32)) (fun v22 =>
      fn_Mo_looks_25 n v22 g21)))
def fn_Mo_looks_2 : Nat → Int32 → et_G → Option (Unit × et_G)
  | 0, _, _ => none
  | n + 1, x1, g =>
    if (g.1 61 50) ≤ x1 then
      fn_Mo_looks_25 1000000 (0 : Int32) g
    else
      et_ck (et_ib x1 20) (et_b (et_si g 92 x1.toNatClampNeg (0 : Int32)) (fun g23 =>
      et_b (x1 + (1 : Int32)) (fun v24 =>
      fn_Mo_looks_2 n v24 g23)))
def fn_Mo_looks (g : et_G) : Option (Unit × et_G) :=
  fn_Mo_looks_2 1000000 (0 : Int32) g
theorem zp_Mo_looks_250 {X : et_X} {w : et_W} (hX : et_Gd X w cX10_looks RX10 6 (none) [] rm_Mo_looks) (r51 : Int32 → et_G → Option (Unit × et_G)) (r172 : Int32 → Int32 → et_G → Option (Unit × et_G)) (x2 : Int32) (x3 : Int32) (s0 : Int32) (hr51 : ∀ (y1 : Int32) (g : et_G), et_Z X w 0 et_eU 51 [some (.ref (et_ad w 61)), some (.int y1), none, none, none, none] [] g (r51 y1 g)) (hr172 : ∀ (y1 : Int32) (y2 : Int32) (g : et_G), et_Z X w 0 et_eU 172 [some (.ref (et_ad w 61)), some (.int y1), some (.int y2), none, none, none] [] g (r172 y1 y2 g)) (g : et_G) : et_Z X w 0 et_eU 250 [some (.ref (et_ad w 61)), none, some (.int x2), some (.int x3), none, none] [.int s0] g (fn_Mo_looks_250 r51 r172 x2 x3 s0 g) := by
  unfold fn_Mo_looks_250
  refine zi_istore1 (pc := 250) hX dX10_looks_250 rfl rfl ?_
  refine zi_aload0 (pc := 251) hX dX10_looks_251 ?_
  refine zi_getr (q := 92) (pc := 252) hX dX10_looks_252 fl_1411 ly_61 rfl ?_
  refine zi_iload2 (pc := 255) hX dX10_looks_255 ?_
  refine zi_iload3 (pc := 256) hX dX10_looks_256 ?_
  refine zi_iast (pc := 257) hX dX10_looks_257 ly_92 (zi_bg (fun g10 => ?_))
  refine zi_iincb2 (pc := 258) hX dX10_looks_258 (kn_1 _) rfl rfl (fun v11 => ?_)
  refine zi_goto (pc := 261) 172 hX dX10_looks_261 (by decide) ?_
  refine zi_drop (le_s (le_s (le_s (le_n (le_s (le_s le_nil)))))) ?_; exact hr172 s0 v11 g10
theorem zp_Mo_looks_245 {X : et_X} {w : et_W} (hX : et_Gd X w cX10_looks RX10 6 (none) [] rm_Mo_looks) (r51 : Int32 → et_G → Option (Unit × et_G)) (r172 : Int32 → Int32 → et_G → Option (Unit × et_G)) (x2 : Int32) (x3 : Int32) (hr51 : ∀ (y1 : Int32) (g : et_G), et_Z X w 0 et_eU 51 [some (.ref (et_ad w 61)), some (.int y1), none, none, none, none] [] g (r51 y1 g)) (hr172 : ∀ (y1 : Int32) (y2 : Int32) (g : et_G), et_Z X w 0 et_eU 172 [some (.ref (et_ad w 61)), some (.int y1), some (.int y2), none, none, none] [] g (r172 y1 y2 g)) (g : et_G) : et_Z X w 0 et_eU 245 [some (.ref (et_ad w 61)), none, some (.int x2), some (.int x3), none, none] [] g (fn_Mo_looks_245 r51 r172 x2 x3 g) := by
  unfold fn_Mo_looks_245
  refine zi_iconst (pc := 245) hX dX10_looks_245 ki_1 ?_
  refine zi_goto (pc := 246) 250 hX dX10_looks_246 (by decide) ?_
  exact zp_Mo_looks_250 hX r51 r172 x2 x3 (1 : Int32) hr51 hr172 g
theorem zp_Mo_looks_172 {X : et_X} {w : et_W} (hX : et_Gd X w cX10_looks RX10 6 (none) [] rm_Mo_looks) (r51 : Int32 → et_G → Option (Unit × et_G)) (hr51 : ∀ (y1 : Int32) (g : et_G), et_Z X w 0 et_eU 51 [some (.ref (et_ad w 61)), some (.int y1), none, none, none, none] [] g (r51 y1 g)) : ∀ (n : Nat) (x1 : Int32) (x2 : Int32) (g : et_G), et_Z X w 0 et_eU 172 [some (.ref (et_ad w 61)), some (.int x1), some (.int x2), none, none, none] [] g (fn_Mo_looks_172 r51 n x1 x2 g) := by
  intro n
  induction n with
  | zero =>
    intro x1 x2 g a g2 h
    cases h
  | succ n ih =>
    intro x1 x2 g
    rw [fn_Mo_looks_172]
    refine zi_iload2 (pc := 172) hX dX10_looks_172 ?_
    refine zi_aload0 (pc := 173) hX dX10_looks_173 ?_
    refine zi_geti (pc := 174) hX dX10_looks_174 fl_1398 ly_61 rfl ?_
    refine zi_icmp_ge (pc := 177) 264 hX dX10_looks_177 (by decide) (fun _ => ?_) (fun _ => ?_)
    · refine zi_goto (pc := 264) 51 hX dX10_looks_264 (by decide) ?_
      refine zi_drop (le_s (le_s (le_n (le_s (le_s (le_s le_nil)))))) ?_; exact hr51 x1 g
    · refine zi_aload0 (pc := 180) hX dX10_looks_180 ?_
      refine zi_getr (q := 86) (pc := 181) hX dX10_looks_181 fl_1401 ly_61 rfl ?_
      refine zi_iload2 (pc := 184) hX dX10_looks_184 ?_
      refine zi_iald (pc := 185) hX dX10_looks_185 ly_86 ?_
      refine zi_sipush (pc := 186) hX dX10_looks_186 ks_1000 ?_
      refine zi_icmp_ne (pc := 189) 195 hX dX10_looks_189 (by decide) (fun _ => ?_) (fun _ => ?_)
      · refine zi_goto (pc := 192) 258 hX dX10_looks_192 (by decide) ?_
        refine zi_iincb2 (pc := 258) hX dX10_looks_258 (kn_1 _) rfl rfl (fun v12 => ?_)
        refine zi_goto (pc := 261) 172 hX dX10_looks_261 (by decide) ?_
        exact ih x1 v12 g
      · refine zi_aload0 (pc := 195) hX dX10_looks_195 ?_
        refine zi_getr (q := 92) (pc := 196) hX dX10_looks_196 fl_1411 ly_61 rfl ?_
        refine zi_iload2 (pc := 199) hX dX10_looks_199 ?_
        refine zi_iald (pc := 200) hX dX10_looks_200 ly_92 ?_
        refine zi_aload0 (pc := 201) hX dX10_looks_201 ?_
        refine zi_aload0 (pc := 202) hX dX10_looks_202 ?_
        refine zi_getr (q := 90) (pc := 203) hX dX10_looks_203 fl_1405 ly_61 rfl ?_
        refine zi_iload2 (pc := 206) hX dX10_looks_206 ?_
        refine zi_iald (pc := 207) hX dX10_looks_207 ly_90 ?_
        refine zi_aload0 (pc := 208) hX dX10_looks_208 ?_
        refine zi_iload2 (pc := 209) hX dX10_looks_209 ?_
        refine zi_iconst (pc := 210) hX dX10_looks_210 ki_2 ?_
        refine zi_callI (zc_virt (pc := 211) hX dX10_looks_211 tm_1773 md_X10_of mi_X10_of ly_61 (ct_Mo_of hX.sane x2 (2 : Int32) g) rfl rfl rfl) (fun v1 g2 => ?_)
        refine zi_aload0 (pc := 214) hX dX10_looks_214 ?_
        refine zi_iload2 (pc := 215) hX dX10_looks_215 ?_
        refine zi_iconst (pc := 216) hX dX10_looks_216 ki_4 ?_
        refine zi_callI (zc_virt (pc := 217) hX dX10_looks_217 tm_1773 md_X10_of mi_X10_of ly_61 (ct_Mo_of hX.sane x2 (4 : Int32) g2) rfl rfl rfl) (fun v3 g4 => ?_)
        refine zi_aload0 (pc := 220) hX dX10_looks_220 ?_
        refine zi_iload2 (pc := 221) hX dX10_looks_221 ?_
        refine zi_iconst (pc := 222) hX dX10_looks_222 ki_3 ?_
        refine zi_callI (zc_virt (pc := 223) hX dX10_looks_223 tm_1773 md_X10_of mi_X10_of ly_61 (ct_Mo_of hX.sane x2 (3 : Int32) g4) rfl rfl rfl) (fun v5 g6 => ?_)
        refine zi_callI (zc_virt (pc := 226) hX dX10_looks_226 tm_1821 md_X10_eyesBy mi_X10_eyesBy ly_61 (ct_Mo_eyesBy hX.sane (g.1 90 x2.toNatClampNeg) v1 v3 v5 g6) rfl rfl rfl) (fun v7 g8 => ?_)
        refine zi_ior (pc := 229) hX dX10_looks_229 ?_
        refine zi_bi (fun v9 => ?_)
        refine zi_istore3 (pc := 230) hX dX10_looks_230 rfl rfl ?_
        refine zi_iload1 (pc := 231) hX dX10_looks_231 ?_
        refine zi_if_ne (pc := 232) 245 hX dX10_looks_232 (by decide) (fun _ => ?_) (fun _ => ?_)
        · refine zi_iload3 (pc := 235) hX dX10_looks_235 ?_
          refine zi_aload0 (pc := 236) hX dX10_looks_236 ?_
          refine zi_getr (q := 92) (pc := 237) hX dX10_looks_237 fl_1411 ly_61 rfl ?_
          refine zi_iload2 (pc := 240) hX dX10_looks_240 ?_
          refine zi_iald (pc := 241) hX dX10_looks_241 ly_92 ?_
          refine zi_icmp_eq (pc := 242) 249 hX dX10_looks_242 (by decide) (fun _ => ?_) (fun _ => ?_)
          · refine zi_iconst (pc := 249) hX dX10_looks_249 ki_0 ?_
            refine zi_drop (le_s (le_n (le_s (le_s (le_s (le_s le_nil)))))) ?_; exact zp_Mo_looks_250 hX r51 (fun z1 z2 g => fn_Mo_looks_172 r51 n z1 z2 g) x2 v9 (0 : Int32) hr51 (fun z1 z2 g => ih z1 z2 g) g8
          · refine zi_drop (le_s (le_n (le_s (le_s (le_s (le_s le_nil)))))) ?_; exact zp_Mo_looks_245 hX r51 (fun z1 z2 g => fn_Mo_looks_172 r51 n z1 z2 g) x2 v9 hr51 (fun z1 z2 g => ih z1 z2 g) g8
        · refine zi_drop (le_s (le_n (le_s (le_s (le_s (le_s le_nil)))))) ?_; exact zp_Mo_looks_245 hX r51 (fun z1 z2 g => fn_Mo_looks_172 r51 n z1 z2 g) x2 v9 hr51 (fun z1 z2 g => ih z1 z2 g) g8
theorem zp_Mo_looks_144 {X : et_X} {w : et_W} (hX : et_Gd X w cX10_looks RX10 6 (none) [] rm_Mo_looks) (r51 : Int32 → et_G → Option (Unit × et_G)) (r59 : Int32 → Int32 → et_G → Option (Unit × et_G)) (r69 : Int32 → Int32 → et_G → Option (Unit × et_G)) (x2 : Int32) (x3 : Int32) (x4 : Int32) (s0 : Int32) (hr51 : ∀ (y1 : Int32) (g : et_G), et_Z X w 0 et_eU 51 [some (.ref (et_ad w 61)), some (.int y1), none, none, none, none] [] g (r51 y1 g)) (hr59 : ∀ (y1 : Int32) (y2 : Int32) (g : et_G), et_Z X w 0 et_eU 59 [some (.ref (et_ad w 61)), some (.int y1), some (.int y2), none, none, none] [] g (r59 y1 y2 g)) (hr69 : ∀ (y1 : Int32) (y3 : Int32) (g : et_G), et_Z X w 0 et_eU 69 [some (.ref (et_ad w 61)), some (.int y1), some (.int x2), some (.int y3), none, none] [] g (r69 y1 y3 g)) (g : et_G) : et_Z X w 0 et_eU 144 [some (.ref (et_ad w 61)), none, some (.int x2), some (.int x3), some (.int x4), none] [.int s0] g (fn_Mo_looks_144 r51 r59 r69 x2 x3 x4 s0 g) := by
  unfold fn_Mo_looks_144
  refine zi_istore1 (pc := 144) hX dX10_looks_144 rfl rfl ?_
  refine zi_aload0 (pc := 145) hX dX10_looks_145 ?_
  refine zi_getr (q := 93) (pc := 146) hX dX10_looks_146 fl_1412 ly_61 rfl ?_
  refine zi_bipush (pc := 149) hX dX10_looks_149 kb_8 ?_
  refine zi_iload2 (pc := 151) hX dX10_looks_151 ?_
  refine zi_imul (pc := 152) hX dX10_looks_152 ?_
  refine zi_iload3 (pc := 153) hX dX10_looks_153 ?_
  refine zi_iadd (pc := 154) hX dX10_looks_154 ?_
  refine zi_iload4 (pc := 155) hX dX10_looks_155 ?_
  refine zi_iast (pc := 157) hX dX10_looks_157 ly_93 (zi_bg (fun g15 => ?_))
  refine zi_iincb3 (pc := 158) hX dX10_looks_158 (kn_1 _) rfl rfl (fun v16 => ?_)
  refine zi_goto (pc := 161) 69 hX dX10_looks_161 (by decide) ?_
  refine zi_drop (le_s (le_s (le_s (le_s (le_n (le_s le_nil)))))) ?_; exact hr69 s0 v16 g15
theorem zp_Mo_looks_139 {X : et_X} {w : et_W} (hX : et_Gd X w cX10_looks RX10 6 (none) [] rm_Mo_looks) (r51 : Int32 → et_G → Option (Unit × et_G)) (r59 : Int32 → Int32 → et_G → Option (Unit × et_G)) (r69 : Int32 → Int32 → et_G → Option (Unit × et_G)) (x2 : Int32) (x3 : Int32) (x4 : Int32) (hr51 : ∀ (y1 : Int32) (g : et_G), et_Z X w 0 et_eU 51 [some (.ref (et_ad w 61)), some (.int y1), none, none, none, none] [] g (r51 y1 g)) (hr59 : ∀ (y1 : Int32) (y2 : Int32) (g : et_G), et_Z X w 0 et_eU 59 [some (.ref (et_ad w 61)), some (.int y1), some (.int y2), none, none, none] [] g (r59 y1 y2 g)) (hr69 : ∀ (y1 : Int32) (y3 : Int32) (g : et_G), et_Z X w 0 et_eU 69 [some (.ref (et_ad w 61)), some (.int y1), some (.int x2), some (.int y3), none, none] [] g (r69 y1 y3 g)) (g : et_G) : et_Z X w 0 et_eU 139 [some (.ref (et_ad w 61)), none, some (.int x2), some (.int x3), some (.int x4), none] [] g (fn_Mo_looks_139 r51 r59 r69 x2 x3 x4 g) := by
  unfold fn_Mo_looks_139
  refine zi_iconst (pc := 139) hX dX10_looks_139 ki_1 ?_
  refine zi_goto (pc := 140) 144 hX dX10_looks_140 (by decide) ?_
  exact zp_Mo_looks_144 hX r51 r59 r69 x2 x3 x4 (1 : Int32) hr51 hr59 hr69 g
theorem zp_Mo_looks_119 {X : et_X} {w : et_W} (hX : et_Gd X w cX10_looks RX10 6 (none) [] rm_Mo_looks) (r51 : Int32 → et_G → Option (Unit × et_G)) (r59 : Int32 → Int32 → et_G → Option (Unit × et_G)) (r69 : Int32 → Int32 → et_G → Option (Unit × et_G)) (x1 : Int32) (x2 : Int32) (x3 : Int32) (x4 : Int32) (hr51 : ∀ (y1 : Int32) (g : et_G), et_Z X w 0 et_eU 51 [some (.ref (et_ad w 61)), some (.int y1), none, none, none, none] [] g (r51 y1 g)) (hr59 : ∀ (y1 : Int32) (y2 : Int32) (g : et_G), et_Z X w 0 et_eU 59 [some (.ref (et_ad w 61)), some (.int y1), some (.int y2), none, none, none] [] g (r59 y1 y2 g)) (hr69 : ∀ (y1 : Int32) (y3 : Int32) (g : et_G), et_Z X w 0 et_eU 69 [some (.ref (et_ad w 61)), some (.int y1), some (.int x2), some (.int y3), none, none] [] g (r69 y1 y3 g)) (g : et_G) : et_Z X w 0 et_eU 119 [some (.ref (et_ad w 61)), some (.int x1), some (.int x2), some (.int x3), some (.int x4), none] [] g (fn_Mo_looks_119 r51 r59 r69 x1 x2 x3 x4 g) := by
  unfold fn_Mo_looks_119
  refine zi_iload1 (pc := 119) hX dX10_looks_119 ?_
  refine zi_if_ne (pc := 120) 139 hX dX10_looks_120 (by decide) (fun _ => ?_) (fun _ => ?_)
  · refine zi_iload4 (pc := 123) hX dX10_looks_123 ?_
    refine zi_aload0 (pc := 125) hX dX10_looks_125 ?_
    refine zi_getr (q := 93) (pc := 126) hX dX10_looks_126 fl_1412 ly_61 rfl ?_
    refine zi_bipush (pc := 129) hX dX10_looks_129 kb_8 ?_
    refine zi_iload2 (pc := 131) hX dX10_looks_131 ?_
    refine zi_imul (pc := 132) hX dX10_looks_132 ?_
    refine zi_iload3 (pc := 133) hX dX10_looks_133 ?_
    refine zi_iadd (pc := 134) hX dX10_looks_134 ?_
    refine zi_iald (pc := 135) hX dX10_looks_135 ly_93 ?_
    refine zi_icmp_eq (pc := 136) 143 hX dX10_looks_136 (by decide) (fun _ => ?_) (fun _ => ?_)
    · refine zi_iconst (pc := 143) hX dX10_looks_143 ki_0 ?_
      refine zi_drop (le_s (le_n (le_s (le_s (le_s (le_s le_nil)))))) ?_; exact zp_Mo_looks_144 hX r51 r59 r69 x2 x3 x4 (0 : Int32) hr51 hr59 hr69 g
    · refine zi_drop (le_s (le_n (le_s (le_s (le_s (le_s le_nil)))))) ?_; exact zp_Mo_looks_139 hX r51 r59 r69 x2 x3 x4 hr51 hr59 hr69 g
  · refine zi_drop (le_s (le_n (le_s (le_s (le_s (le_s le_nil)))))) ?_; exact zp_Mo_looks_139 hX r51 r59 r69 x2 x3 x4 hr51 hr59 hr69 g
theorem zp_Mo_looks_93 {X : et_X} {w : et_W} (hX : et_Gd X w cX10_looks RX10 6 (none) [] rm_Mo_looks) (r51 : Int32 → et_G → Option (Unit × et_G)) (r59 : Int32 → Int32 → et_G → Option (Unit × et_G)) (r69 : Int32 → Int32 → et_G → Option (Unit × et_G)) (x1 : Int32) (x2 : Int32) (x3 : Int32) (hr51 : ∀ (y1 : Int32) (g : et_G), et_Z X w 0 et_eU 51 [some (.ref (et_ad w 61)), some (.int y1), none, none, none, none] [] g (r51 y1 g)) (hr59 : ∀ (y1 : Int32) (y2 : Int32) (g : et_G), et_Z X w 0 et_eU 59 [some (.ref (et_ad w 61)), some (.int y1), some (.int y2), none, none, none] [] g (r59 y1 y2 g)) (hr69 : ∀ (y1 : Int32) (y3 : Int32) (g : et_G), et_Z X w 0 et_eU 69 [some (.ref (et_ad w 61)), some (.int y1), some (.int x2), some (.int y3), none, none] [] g (r69 y1 y3 g)) : ∀ (n : Nat) (x4 : Int32) (x5 : Int32) (g : et_G), et_Z X w 0 et_eU 93 [some (.ref (et_ad w 61)), some (.int x1), some (.int x2), some (.int x3), some (.int x4), some (.int x5)] [] g (fn_Mo_looks_93 r51 r59 r69 x1 x2 x3 n x4 x5 g) := by
  intro n
  induction n with
  | zero =>
    intro x4 x5 g a g2 h
    cases h
  | succ n ih =>
    intro x4 x5 g
    rw [fn_Mo_looks_93]
    refine zi_iload5 (pc := 93) hX dX10_looks_93 ?_
    refine zi_iconst (pc := 95) hX dX10_looks_95 ki_4 ?_
    refine zi_icmp_ge (pc := 96) 119 hX dX10_looks_96 (by decide) (fun _ => ?_) (fun _ => ?_)
    · refine zi_drop (le_s (le_s (le_s (le_s (le_s (le_n le_nil)))))) ?_; exact zp_Mo_looks_119 hX r51 r59 r69 x1 x2 x3 x4 hr51 hr59 hr69 g
    · refine zi_iload4 (pc := 99) hX dX10_looks_99 ?_
      refine zi_aload0 (pc := 101) hX dX10_looks_101 ?_
      refine zi_iload2 (pc := 102) hX dX10_looks_102 ?_
      refine zi_iload3 (pc := 103) hX dX10_looks_103 ?_
      refine zi_iconst (pc := 104) hX dX10_looks_104 ki_0 ?_
      refine zi_iload5 (pc := 105) hX dX10_looks_105 ?_
      refine zi_callI (zc_virt (pc := 107) hX dX10_looks_107 tm_1821 md_X10_eyesBy mi_X10_eyesBy ly_61 (ct_Mo_eyesBy hX.sane x2 x3 (0 : Int32) x5 g) rfl rfl rfl) (fun v17 g18 => ?_)
      refine zi_ior (pc := 110) hX dX10_looks_110 ?_
      refine zi_bi (fun v19 => ?_)
      refine zi_istore4 (pc := 111) hX dX10_looks_111 rfl rfl ?_
      refine zi_iincb5 (pc := 113) hX dX10_looks_113 (kn_1 _) rfl rfl (fun v20 => ?_)
      refine zi_goto (pc := 116) 93 hX dX10_looks_116 (by decide) ?_
      exact ih v19 v20 g18
theorem zp_Mo_looks_69 {X : et_X} {w : et_W} (hX : et_Gd X w cX10_looks RX10 6 (none) [] rm_Mo_looks) (r51 : Int32 → et_G → Option (Unit × et_G)) (r59 : Int32 → Int32 → et_G → Option (Unit × et_G)) (x2 : Int32) (hr51 : ∀ (y1 : Int32) (g : et_G), et_Z X w 0 et_eU 51 [some (.ref (et_ad w 61)), some (.int y1), none, none, none, none] [] g (r51 y1 g)) (hr59 : ∀ (y1 : Int32) (y2 : Int32) (g : et_G), et_Z X w 0 et_eU 59 [some (.ref (et_ad w 61)), some (.int y1), some (.int y2), none, none, none] [] g (r59 y1 y2 g)) : ∀ (n : Nat) (x1 : Int32) (x3 : Int32) (g : et_G), et_Z X w 0 et_eU 69 [some (.ref (et_ad w 61)), some (.int x1), some (.int x2), some (.int x3), none, none] [] g (fn_Mo_looks_69 r51 r59 x2 n x1 x3 g) := by
  intro n
  induction n with
  | zero =>
    intro x1 x3 g a g2 h
    cases h
  | succ n ih =>
    intro x1 x3 g
    rw [fn_Mo_looks_69]
    refine zi_iload3 (pc := 69) hX dX10_looks_69 ?_
    refine zi_aload0 (pc := 70) hX dX10_looks_70 ?_
    refine zi_geti (pc := 71) hX dX10_looks_71 fl_1353 ly_61 rfl ?_
    refine zi_icmp_ge (pc := 74) 164 hX dX10_looks_74 (by decide) (fun _ => ?_) (fun _ => ?_)
    · refine zi_iincb2 (pc := 164) hX dX10_looks_164 (kn_1 _) rfl rfl (fun v13 => ?_)
      refine zi_goto (pc := 167) 59 hX dX10_looks_167 (by decide) ?_
      refine zi_drop (le_s (le_s (le_s (le_n (le_s (le_s le_nil)))))) ?_; exact hr59 x1 v13 g
    · refine zi_aload0 (pc := 77) hX dX10_looks_77 ?_
      refine zi_getr (q := 93) (pc := 78) hX dX10_looks_78 fl_1412 ly_61 rfl ?_
      refine zi_bipush (pc := 81) hX dX10_looks_81 kb_8 ?_
      refine zi_iload2 (pc := 83) hX dX10_looks_83 ?_
      refine zi_imul (pc := 84) hX dX10_looks_84 ?_
      refine zi_iload3 (pc := 85) hX dX10_looks_85 ?_
      refine zi_iadd (pc := 86) hX dX10_looks_86 ?_
      refine zi_iald (pc := 87) hX dX10_looks_87 ly_93 ?_
      refine zi_bi (fun v14 => ?_)
      refine zi_istore4 (pc := 88) hX dX10_looks_88 rfl rfl ?_
      refine zi_iconst (pc := 90) hX dX10_looks_90 ki_0 ?_
      refine zi_istore5 (pc := 91) hX dX10_looks_91 rfl rfl ?_
      exact zp_Mo_looks_93 hX r51 r59 (fun z1 z3 g => fn_Mo_looks_69 r51 r59 x2 n z1 z3 g) x1 x2 x3 hr51 hr59 (fun z1 z3 g => ih z1 z3 g) 1000000 v14 (0 : Int32) g
theorem zp_Mo_looks_59 {X : et_X} {w : et_W} (hX : et_Gd X w cX10_looks RX10 6 (none) [] rm_Mo_looks) (r51 : Int32 → et_G → Option (Unit × et_G)) (hr51 : ∀ (y1 : Int32) (g : et_G), et_Z X w 0 et_eU 51 [some (.ref (et_ad w 61)), some (.int y1), none, none, none, none] [] g (r51 y1 g)) : ∀ (n : Nat) (x1 : Int32) (x2 : Int32) (g : et_G), et_Z X w 0 et_eU 59 [some (.ref (et_ad w 61)), some (.int x1), some (.int x2), none, none, none] [] g (fn_Mo_looks_59 r51 n x1 x2 g) := by
  intro n
  induction n with
  | zero =>
    intro x1 x2 g a g2 h
    cases h
  | succ n ih =>
    intro x1 x2 g
    rw [fn_Mo_looks_59]
    refine zi_iload2 (pc := 59) hX dX10_looks_59 ?_
    refine zi_aload0 (pc := 60) hX dX10_looks_60 ?_
    refine zi_geti (pc := 61) hX dX10_looks_61 fl_1407 ly_61 rfl ?_
    refine zi_icmp_ge (pc := 64) 170 hX dX10_looks_64 (by decide) (fun _ => ?_) (fun _ => ?_)
    · refine zi_iconst (pc := 170) hX dX10_looks_170 ki_0 ?_
      refine zi_istore2 (pc := 171) hX dX10_looks_171 rfl rfl ?_
      exact zp_Mo_looks_172 hX r51 hr51 1000000 x1 (0 : Int32) g
    · refine zi_iconst (pc := 67) hX dX10_looks_67 ki_0 ?_
      refine zi_istore3 (pc := 68) hX dX10_looks_68 rfl rfl ?_
      exact zp_Mo_looks_69 hX r51 (fun z1 z2 g => fn_Mo_looks_59 r51 n z1 z2 g) x2 hr51 (fun z1 z2 g => ih z1 z2 g) 1000000 x1 (0 : Int32) g
theorem zp_Mo_looks_51 {X : et_X} {w : et_W} (hX : et_Gd X w cX10_looks RX10 6 (none) [] rm_Mo_looks) : ∀ (n : Nat) (x1 : Int32) (g : et_G), et_Z X w 0 et_eU 51 [some (.ref (et_ad w 61)), some (.int x1), none, none, none, none] [] g (fn_Mo_looks_51 n x1 g) := by
  intro n
  induction n with
  | zero =>
    intro x1 g a g2 h
    cases h
  | succ n ih =>
    intro x1 g
    rw [fn_Mo_looks_51]
    refine zi_iload1 (pc := 51) hX dX10_looks_51 ?_
    refine zi_if_eq (pc := 52) 267 hX dX10_looks_52 (by decide) (fun _ => ?_) (fun _ => ?_)
    · exact zi_vret (pc := 267) hX dX10_looks_267 rfl rfl rfl
    · refine zi_iconst (pc := 55) hX dX10_looks_55 ki_0 ?_
      refine zi_istore1 (pc := 56) hX dX10_looks_56 rfl rfl ?_
      refine zi_iconst (pc := 57) hX dX10_looks_57 ki_0 ?_
      refine zi_istore2 (pc := 58) hX dX10_looks_58 rfl rfl ?_
      exact zp_Mo_looks_59 hX (fun z1 g => fn_Mo_looks_51 n z1 g) (fun z1 g => ih z1 g) 1000000 (0 : Int32) (0 : Int32) g
theorem zp_Mo_looks_25 {X : et_X} {w : et_W} (hX : et_Gd X w cX10_looks RX10 6 (none) [] rm_Mo_looks) : ∀ (n : Nat) (x1 : Int32) (g : et_G), et_Z X w 0 et_eU 25 [some (.ref (et_ad w 61)), some (.int x1), none, none, none, none] [] g (fn_Mo_looks_25 n x1 g) := by
  intro n
  induction n with
  | zero =>
    intro x1 g a g2 h
    cases h
  | succ n ih =>
    intro x1 g
    rw [fn_Mo_looks_25]
    refine zi_iload1 (pc := 25) hX dX10_looks_25 ?_
    refine zi_bipush (pc := 26) hX dX10_looks_26 kb_8 ?_
    refine zi_aload0 (pc := 28) hX dX10_looks_28 ?_
    refine zi_geti (pc := 29) hX dX10_looks_29 fl_1407 ly_61 rfl ?_
    refine zi_imul (pc := 32) hX dX10_looks_32 ?_
    refine zi_icmp_ge (pc := 33) 49 hX dX10_looks_33 (by decide) (fun _ => ?_) (fun _ => ?_)
    · refine zi_iconst (pc := 49) hX dX10_looks_49 ki_1 ?_
      refine zi_istore1 (pc := 50) hX dX10_looks_50 rfl rfl ?_
      exact zp_Mo_looks_51 hX 1000000 (1 : Int32) g
    · refine zi_aload0 (pc := 36) hX dX10_looks_36 ?_
      refine zi_getr (q := 93) (pc := 37) hX dX10_looks_37 fl_1412 ly_61 rfl ?_
      refine zi_iload1 (pc := 40) hX dX10_looks_40 ?_
      refine zi_iconst (pc := 41) hX dX10_looks_41 ki_0 ?_
      refine zi_iast (pc := 42) hX dX10_looks_42 ly_93 (zi_bg (fun g21 => ?_))
      refine zi_iincb1 (pc := 43) hX dX10_looks_43 (kn_1 _) rfl rfl (fun v22 => ?_)
      refine zi_goto (pc := 46) 25 hX dX10_looks_46 (by decide) ?_
      exact ih v22 g21
theorem zp_Mo_looks_2 {X : et_X} {w : et_W} (hX : et_Gd X w cX10_looks RX10 6 (none) [] rm_Mo_looks) : ∀ (n : Nat) (x1 : Int32) (g : et_G), et_Z X w 0 et_eU 2 [some (.ref (et_ad w 61)), some (.int x1), none, none, none, none] [] g (fn_Mo_looks_2 n x1 g) := by
  intro n
  induction n with
  | zero =>
    intro x1 g a g2 h
    cases h
  | succ n ih =>
    intro x1 g
    rw [fn_Mo_looks_2]
    refine zi_iload1 (pc := 2) hX dX10_looks_2 ?_
    refine zi_aload0 (pc := 3) hX dX10_looks_3 ?_
    refine zi_geti (pc := 4) hX dX10_looks_4 fl_1398 ly_61 rfl ?_
    refine zi_icmp_ge (pc := 7) 23 hX dX10_looks_7 (by decide) (fun _ => ?_) (fun _ => ?_)
    · refine zi_iconst (pc := 23) hX dX10_looks_23 ki_0 ?_
      refine zi_istore1 (pc := 24) hX dX10_looks_24 rfl rfl ?_
      exact zp_Mo_looks_25 hX 1000000 (0 : Int32) g
    · refine zi_aload0 (pc := 10) hX dX10_looks_10 ?_
      refine zi_getr (q := 92) (pc := 11) hX dX10_looks_11 fl_1411 ly_61 rfl ?_
      refine zi_iload1 (pc := 14) hX dX10_looks_14 ?_
      refine zi_iconst (pc := 15) hX dX10_looks_15 ki_0 ?_
      refine zi_iast (pc := 16) hX dX10_looks_16 ly_92 (zi_bg (fun g23 => ?_))
      refine zi_iincb1 (pc := 17) hX dX10_looks_17 (kn_1 _) rfl rfl (fun v24 => ?_)
      refine zi_goto (pc := 20) 2 hX dX10_looks_20 (by decide) ?_
      exact ih v24 g23
theorem zw_Mo_looks {X : et_X} {w : et_W} (hX : et_Gd X w cX10_looks RX10 6 (none) [] rm_Mo_looks) (g : et_G) : et_Z X w 0 et_eU 0 [some (.ref (et_ad w 61)), none, none, none, none, none] [] g (fn_Mo_looks g) := by
  unfold fn_Mo_looks
  refine zi_iconst (pc := 0) hX dX10_looks_0 ki_0 ?_
  refine zi_istore1 (pc := 1) hX dX10_looks_1 rfl rfl ?_
  exact zp_Mo_looks_2 hX 1000000 (0 : Int32) g
theorem ct_Mo_looks {w : et_W} (hw : et_Sane w) (g : et_G) : et_C w yX10_looks (Cond.code yX10_looks cX10_looks 6 (none)) rm_Mo_looks et_eU [.ref (et_ad w 61)] g (fn_Mo_looks g) := et_mk hw (by decide) rfl rfl (fun X hX => zw_Mo_looks hX g)
def rm_Mo_saying : Room := { frames := 6, cells := 0, slots := 0, locals := 151 }
def fn_Mo_saying_33 (x1 : Int32) (x2 : Int32) (s0 : Int32) (g : et_G) : Option (Int32 × et_G) :=
  et_bd (fn_Mo_right s0 (1 : Int32) g) (fun v2 g3 =>
  if v2 = 0 then
    some ((0 : Int32), g3)
  else
    if (5 : Int32) ≤ x2 then
      et_bd (fn_Mo_asks (-1 : Int32) (0 : Int32) g3) (fun _ g5 =>
      et_bd (fn_Mo_all g5) (fun v6 g7 =>
      et_bd (fn_Mo_reckons v6 (0 : Int32) g7) (fun _ g9 =>
      if (7 : Int32) ≤ x2 then
        et_bd (fn_Mo_looks g9) (fun _ g11 =>
        et_ck (et_ib x1 20) (
        some (g11.1 92 x1.toNatClampNeg, g11)))
      else
        if x2 = (5 : Int32) then
          et_ck (et_ib x1 20) (
          if (1000 : Int32) ≤ (g9.1 86 x1.toNatClampNeg) then
            some ((0 : Int32), g9)
          else
            some ((1 : Int32), g9))
        else
          et_ck (et_ib x1 20) (
          if (1000 : Int32) ≤ (g9.1 86 x1.toNatClampNeg) then
            some ((0 : Int32), g9)
          else
            et_ck (et_ib x1 20) (
            some (g9.1 86 x1.toNatClampNeg, g9))))))
    else
      et_bd (fn_Mo_of x1 x2 g3) (fun v12 g13 =>
      some (v12, g13)))
def fn_Mo_saying_32 (x1 : Int32) (x2 : Int32) (g : et_G) : Option (Int32 × et_G) :=
  fn_Mo_saying_33 x1 x2 (0 : Int32) g
def fn_Mo_saying (p1 : Int32) (p2 : Int32) (g : et_G) : Option (Int32 × et_G) :=
  et_b (et_si g 61 0 (0 : Int32)) (fun g1 =>
  if p1 < 0 then
    fn_Mo_saying_32 p1 p2 g1
  else
    if (g1.1 61 50) ≤ p1 then
      fn_Mo_saying_32 p1 p2 g1
    else
      et_bd (fn_Mo_within p2 (0 : Int32) (7 : Int32) g1) (fun v14 g15 =>
      if v14 = 0 then
        fn_Mo_saying_32 p1 p2 g15
      else
        fn_Mo_saying_33 p1 p2 (1 : Int32) g15))
theorem zp_Mo_saying_33 {X : et_X} {w : et_W} (hX : et_Gd X w cX10_saying RX10 3 (some .int) [] rm_Mo_saying) (x1 : Int32) (x2 : Int32) (s0 : Int32) (g : et_G) : et_Z X w 0 et_eI 33 [some (.ref (et_ad w 61)), some (.int x1), some (.int x2)] [.int s0, .ref (et_ad w 61)] g (fn_Mo_saying_33 x1 x2 s0 g) := by
  unfold fn_Mo_saying_33
  refine zi_iconst (pc := 33) hX dX10_saying_33 ki_1 ?_
  refine zi_callI (zc_virt (pc := 34) hX dX10_saying_34 tm_1587 md_X10_right mi_X10_right ly_61 (ct_Mo_right hX.sane s0 (1 : Int32) g) rfl rfl rfl) (fun v2 g3 => ?_)
  refine zi_if_ne (pc := 37) 42 hX dX10_saying_37 (by decide) (fun _ => ?_) (fun _ => ?_)
  · refine zi_iconst (pc := 40) hX dX10_saying_40 ki_0 ?_
    exact zi_ret (pc := 41) hX dX10_saying_41 rfl rfl rfl rfl
  · refine zi_iload2 (pc := 42) hX dX10_saying_42 ?_
    refine zi_iconst (pc := 43) hX dX10_saying_43 ki_5 ?_
    refine zi_icmp_ge (pc := 44) 54 hX dX10_saying_44 (by decide) (fun _ => ?_) (fun _ => ?_)
    · refine zi_aload0 (pc := 54) hX dX10_saying_54 ?_
      refine zi_iconst (pc := 55) hX dX10_saying_55 ki_m1 ?_
      refine zi_iconst (pc := 56) hX dX10_saying_56 ki_0 ?_
      refine zi_callU (zc_virt (pc := 57) hX dX10_saying_57 tm_1777 md_X10_asks mi_X10_asks ly_61 (ct_Mo_asks hX.sane (-1 : Int32) (0 : Int32) g3) rfl rfl rfl) (fun g5 => ?_)
      refine zi_aload0 (pc := 60) hX dX10_saying_60 ?_
      refine zi_aload0 (pc := 61) hX dX10_saying_61 ?_
      refine zi_callI (zc_virt (pc := 62) hX dX10_saying_62 tm_1785 md_X10_all mi_X10_all ly_61 (ct_Mo_all hX.sane g5) rfl rfl rfl) (fun v6 g7 => ?_)
      refine zi_iconst (pc := 65) hX dX10_saying_65 ki_0 ?_
      refine zi_callU (zc_virt (pc := 66) hX dX10_saying_66 tm_1789 md_X10_reckons mi_X10_reckons ly_61 (ct_Mo_reckons hX.sane v6 (0 : Int32) g7) rfl rfl rfl) (fun g9 => ?_)
      refine zi_iload2 (pc := 69) hX dX10_saying_69 ?_
      refine zi_bipush (pc := 70) hX dX10_saying_70 kb_7 ?_
      refine zi_icmp_ge (pc := 72) 123 hX dX10_saying_72 (by decide) (fun _ => ?_) (fun _ => ?_)
      · refine zi_aload0 (pc := 123) hX dX10_saying_123 ?_
        refine zi_callU (zc_virt (pc := 124) hX dX10_saying_124 tm_1817 md_X10_looks mi_X10_looks ly_61 (ct_Mo_looks hX.sane g9) rfl rfl rfl) (fun g11 => ?_)
        refine zi_aload0 (pc := 127) hX dX10_saying_127 ?_
        refine zi_getr (q := 92) (pc := 128) hX dX10_saying_128 fl_1411 ly_61 rfl ?_
        refine zi_iload1 (pc := 131) hX dX10_saying_131 ?_
        refine zi_iald (pc := 132) hX dX10_saying_132 ly_92 ?_
        exact zi_ret (pc := 133) hX dX10_saying_133 rfl rfl rfl rfl
      · refine zi_iload2 (pc := 75) hX dX10_saying_75 ?_
        refine zi_iconst (pc := 76) hX dX10_saying_76 ki_5 ?_
        refine zi_icmp_ne (pc := 77) 100 hX dX10_saying_77 (by decide) (fun _ => ?_) (fun _ => ?_)
        · refine zi_aload0 (pc := 80) hX dX10_saying_80 ?_
          refine zi_getr (q := 86) (pc := 81) hX dX10_saying_81 fl_1401 ly_61 rfl ?_
          refine zi_iload1 (pc := 84) hX dX10_saying_84 ?_
          refine zi_iald (pc := 85) hX dX10_saying_85 ly_86 ?_
          refine zi_sipush (pc := 86) hX dX10_saying_86 ks_1000 ?_
          refine zi_icmp_ge (pc := 89) 96 hX dX10_saying_89 (by decide) (fun _ => ?_) (fun _ => ?_)
          · refine zi_iconst (pc := 96) hX dX10_saying_96 ki_0 ?_
            refine zi_goto (pc := 97) 122 hX dX10_saying_97 (by decide) ?_
            exact zi_ret (pc := 122) hX dX10_saying_122 rfl rfl rfl rfl
          · refine zi_iconst (pc := 92) hX dX10_saying_92 ki_1 ?_
            refine zi_goto (pc := 93) 122 hX dX10_saying_93 (by decide) ?_
            exact zi_ret (pc := 122) hX dX10_saying_122 rfl rfl rfl rfl
        · refine zi_aload0 (pc := 100) hX dX10_saying_100 ?_
          refine zi_getr (q := 86) (pc := 101) hX dX10_saying_101 fl_1401 ly_61 rfl ?_
          refine zi_iload1 (pc := 104) hX dX10_saying_104 ?_
          refine zi_iald (pc := 105) hX dX10_saying_105 ly_86 ?_
          refine zi_sipush (pc := 106) hX dX10_saying_106 ks_1000 ?_
          refine zi_icmp_ge (pc := 109) 121 hX dX10_saying_109 (by decide) (fun _ => ?_) (fun _ => ?_)
          · refine zi_iconst (pc := 121) hX dX10_saying_121 ki_0 ?_
            exact zi_ret (pc := 122) hX dX10_saying_122 rfl rfl rfl rfl
          · refine zi_aload0 (pc := 112) hX dX10_saying_112 ?_
            refine zi_getr (q := 86) (pc := 113) hX dX10_saying_113 fl_1401 ly_61 rfl ?_
            refine zi_iload1 (pc := 116) hX dX10_saying_116 ?_
            refine zi_iald (pc := 117) hX dX10_saying_117 ly_86 ?_
            refine zi_goto (pc := 118) 122 hX dX10_saying_118 (by decide) ?_
            exact zi_ret (pc := 122) hX dX10_saying_122 rfl rfl rfl rfl
    · refine zi_aload0 (pc := 47) hX dX10_saying_47 ?_
      refine zi_iload1 (pc := 48) hX dX10_saying_48 ?_
      refine zi_iload2 (pc := 49) hX dX10_saying_49 ?_
      refine zi_callI (zc_virt (pc := 50) hX dX10_saying_50 tm_1773 md_X10_of mi_X10_of ly_61 (ct_Mo_of hX.sane x1 x2 g3) rfl rfl rfl) (fun v12 g13 => ?_)
      exact zi_ret (pc := 53) hX dX10_saying_53 rfl rfl rfl rfl
theorem zp_Mo_saying_32 {X : et_X} {w : et_W} (hX : et_Gd X w cX10_saying RX10 3 (some .int) [] rm_Mo_saying) (x1 : Int32) (x2 : Int32) (g : et_G) : et_Z X w 0 et_eI 32 [some (.ref (et_ad w 61)), some (.int x1), some (.int x2)] [.ref (et_ad w 61)] g (fn_Mo_saying_32 x1 x2 g) := by
  unfold fn_Mo_saying_32
  refine zi_iconst (pc := 32) hX dX10_saying_32 ki_0 ?_
  exact zp_Mo_saying_33 hX x1 x2 (0 : Int32) g
theorem zw_Mo_saying {X : et_X} {w : et_W} (hX : et_Gd X w cX10_saying RX10 3 (some .int) [] rm_Mo_saying) (p1 : Int32) (p2 : Int32) (g : et_G) : et_Z X w 0 et_eI 0 [some (.ref (et_ad w 61)), some (.int p1), some (.int p2)] [] g (fn_Mo_saying p1 p2 g) := by
  unfold fn_Mo_saying
  refine zi_aload0 (pc := 0) hX dX10_saying_0 ?_
  refine zi_iconst (pc := 1) hX dX10_saying_1 ki_0 ?_
  refine zi_puti (pc := 2) hX dX10_saying_2 fl_1348 ly_61 rfl rfl rfl (zi_bg (fun g1 => ?_))
  refine zi_aload0 (pc := 5) hX dX10_saying_5 ?_
  refine zi_iload1 (pc := 6) hX dX10_saying_6 ?_
  refine zi_if_lt (pc := 7) 32 hX dX10_saying_7 (by decide) (fun _ => ?_) (fun _ => ?_)
  · exact zp_Mo_saying_32 hX p1 p2 g1
  · refine zi_iload1 (pc := 10) hX dX10_saying_10 ?_
    refine zi_aload0 (pc := 11) hX dX10_saying_11 ?_
    refine zi_geti (pc := 12) hX dX10_saying_12 fl_1398 ly_61 rfl ?_
    refine zi_icmp_ge (pc := 15) 32 hX dX10_saying_15 (by decide) (fun _ => ?_) (fun _ => ?_)
    · exact zp_Mo_saying_32 hX p1 p2 g1
    · refine zi_iload2 (pc := 18) hX dX10_saying_18 ?_
      refine zi_iconst (pc := 19) hX dX10_saying_19 ki_0 ?_
      refine zi_bipush (pc := 20) hX dX10_saying_20 kb_7 ?_
      refine zi_callI (zc_stat (pc := 22) hX dX10_saying_22 tm_1683 md_X10_within st_X10_within (ct_Mo_within hX.sane p2 (0 : Int32) (7 : Int32) g1) rfl rfl rfl) (fun v14 g15 => ?_)
      refine zi_if_eq (pc := 25) 32 hX dX10_saying_25 (by decide) (fun _ => ?_) (fun _ => ?_)
      · exact zp_Mo_saying_32 hX p1 p2 g15
      · refine zi_iconst (pc := 28) hX dX10_saying_28 ki_1 ?_
        refine zi_goto (pc := 29) 33 hX dX10_saying_29 (by decide) ?_
        exact zp_Mo_saying_33 hX p1 p2 (1 : Int32) g15
theorem ct_Mo_saying {w : et_W} (hw : et_Sane w) (p1 : Int32) (p2 : Int32) (g : et_G) : et_C w yX10_saying (Cond.code yX10_saying cX10_saying 3 (some .int)) rm_Mo_saying et_eI [.ref (et_ad w 61), .int p1, .int p2] g (fn_Mo_saying p1 p2 g) := et_mk hw (by decide) rfl rfl (fun X hX => zw_Mo_saying hX p1 p2 g)
