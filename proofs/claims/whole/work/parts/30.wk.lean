def rm_Gr_widenAll : Room := { frames := 2, cells := 0, slots := 0, locals := 48 }
def fn_Gr_widenAll_102 (r5 : Int32 → Int32 → et_G → Option (Int32 × et_G)) (x1 : Int32) (x2 : Int32) (x4 : Int32) (x5 : Int32) (s0 : Int32) (g : et_G) : Option (Int32 × et_G) :=
  et_ck (et_ib x4 20) (et_b (et_si g 54 x4.toNatClampNeg x5) (fun g6 =>
  et_b (x4 + (1 : Int32)) (fun v7 =>
  r5 s0 v7 g6)))
def fn_Gr_widenAll_97 (r5 : Int32 → Int32 → et_G → Option (Int32 × et_G)) (x1 : Int32) (x2 : Int32) (x4 : Int32) (x5 : Int32) (g : et_G) : Option (Int32 × et_G) :=
  fn_Gr_widenAll_102 r5 x1 x2 x4 x5 (1 : Int32) g
def fn_Gr_widenAll_49 (r5 : Int32 → Int32 → et_G → Option (Int32 × et_G)) (x1 : Int32) (x2 : Int32) (x3 : Int32) (x4 : Int32) (g : et_G) : Option (Int32 × et_G) :=
  et_ck (et_ib x4 20) (
  et_ck (et_ib x4 20) (
  et_ck (et_ib x4 20) (
  et_bd (fn_Gr_widened (g.1 54 x4.toNatClampNeg) ((g.1 49 x4.toNatClampNeg) &&& (g.1 48 14)) (g.1 50 x4.toNatClampNeg) g) (fun v4 g5 =>
  if x3 = 0 then
    et_ck (et_ib x4 20) (
    if v4 = (g5.1 54 x4.toNatClampNeg) then
      fn_Gr_widenAll_102 r5 x1 x2 x4 v4 (0 : Int32) g5
    else
      fn_Gr_widenAll_97 r5 x1 x2 x4 v4 g5)
  else
    fn_Gr_widenAll_97 r5 x1 x2 x4 v4 g5))))
def fn_Gr_widenAll_5 (x1 : Int32) (x2 : Int32) : Nat → Int32 → Int32 → et_G → Option (Int32 × et_G)
  | 0, _, _, _ => none
  | n + 1, x3, x4, g =>
    if (g.1 34 0) ≤ x4 then
      some (x3 &&& 1, g)
    else
      et_bd (fn_Et_hasBit x2 x4 g) (fun v1 g2 =>
      if v1 = 0 then
        et_b (x4 + (1 : Int32)) (fun v3 =>
        fn_Gr_widenAll_5 x1 x2 n x3 v3 g2)
      else
        et_ck (et_ib x4 20) (
        if (g2.1 38 x4.toNatClampNeg) = (3 : Int32) then
          fn_Gr_widenAll_49 (fun z3 z4 g => fn_Gr_widenAll_5 x1 x2 n z3 z4 g) x1 x2 x3 x4 g2
        else
          et_bd (fn_Et_hasBit x1 x4 g2) (fun v8 g9 =>
          if v8 = 0 then
            et_b (x4 + (1 : Int32)) (fun v10 =>
            fn_Gr_widenAll_5 x1 x2 n x3 v10 g9)
          else
            fn_Gr_widenAll_49 (fun z3 z4 g => fn_Gr_widenAll_5 x1 x2 n z3 z4 g) x1 x2 x3 x4 g9)))
def fn_Gr_widenAll (p1 : Int32) (p2 : Int32) (g : et_G) : Option (Int32 × et_G) :=
  fn_Gr_widenAll_5 p1 p2 1000000 (0 : Int32) (0 : Int32) g
theorem zp_Gr_widenAll_102 {X : et_X} {w : et_W} (hX : et_Gd X w cX0_widenAll RX0 6 (some .boolean) [] rm_Gr_widenAll) (r5 : Int32 → Int32 → et_G → Option (Int32 × et_G)) (x1 : Int32) (x2 : Int32) (x4 : Int32) (x5 : Int32) (s0 : Int32) (hr5 : ∀ (y3 : Int32) (y4 : Int32) (g : et_G), et_Z X w 0 et_eI 5 [some (.ref (et_ad w 48)), some (.int x1), some (.int x2), some (.int y3), some (.int y4), none] [] g (r5 y3 y4 g)) (g : et_G) : et_Z X w 0 et_eI 102 [some (.ref (et_ad w 48)), some (.int x1), some (.int x2), none, some (.int x4), some (.int x5)] [.int s0] g (fn_Gr_widenAll_102 r5 x1 x2 x4 x5 s0 g) := by
  unfold fn_Gr_widenAll_102
  refine zi_istore3 (pc := 102) hX dX0_widenAll_102 rfl rfl ?_
  refine zi_aload0 (pc := 103) hX dX0_widenAll_103 ?_
  refine zi_getr (q := 54) (pc := 104) hX dX0_widenAll_104 fl_422 ly_48 rfl ?_
  refine zi_iload4 (pc := 107) hX dX0_widenAll_107 ?_
  refine zi_iload5 (pc := 109) hX dX0_widenAll_109 ?_
  refine zi_iast (pc := 111) hX dX0_widenAll_111 ly_54 (zi_bg (fun g6 => ?_))
  refine zi_iincb4 (pc := 112) hX dX0_widenAll_112 (kn_1 _) rfl rfl (fun v7 => ?_)
  refine zi_goto (pc := 115) 5 hX dX0_widenAll_115 (by decide) ?_
  refine zi_drop (le_s (le_s (le_s (le_s (le_s (le_n le_nil)))))) ?_; exact hr5 s0 v7 g6
theorem zp_Gr_widenAll_97 {X : et_X} {w : et_W} (hX : et_Gd X w cX0_widenAll RX0 6 (some .boolean) [] rm_Gr_widenAll) (r5 : Int32 → Int32 → et_G → Option (Int32 × et_G)) (x1 : Int32) (x2 : Int32) (x4 : Int32) (x5 : Int32) (hr5 : ∀ (y3 : Int32) (y4 : Int32) (g : et_G), et_Z X w 0 et_eI 5 [some (.ref (et_ad w 48)), some (.int x1), some (.int x2), some (.int y3), some (.int y4), none] [] g (r5 y3 y4 g)) (g : et_G) : et_Z X w 0 et_eI 97 [some (.ref (et_ad w 48)), some (.int x1), some (.int x2), none, some (.int x4), some (.int x5)] [] g (fn_Gr_widenAll_97 r5 x1 x2 x4 x5 g) := by
  unfold fn_Gr_widenAll_97
  refine zi_iconst (pc := 97) hX dX0_widenAll_97 ki_1 ?_
  refine zi_goto (pc := 98) 102 hX dX0_widenAll_98 (by decide) ?_
  exact zp_Gr_widenAll_102 hX r5 x1 x2 x4 x5 (1 : Int32) hr5 g
theorem zp_Gr_widenAll_49 {X : et_X} {w : et_W} (hX : et_Gd X w cX0_widenAll RX0 6 (some .boolean) [] rm_Gr_widenAll) (r5 : Int32 → Int32 → et_G → Option (Int32 × et_G)) (x1 : Int32) (x2 : Int32) (x3 : Int32) (x4 : Int32) (hr5 : ∀ (y3 : Int32) (y4 : Int32) (g : et_G), et_Z X w 0 et_eI 5 [some (.ref (et_ad w 48)), some (.int x1), some (.int x2), some (.int y3), some (.int y4), none] [] g (r5 y3 y4 g)) (g : et_G) : et_Z X w 0 et_eI 49 [some (.ref (et_ad w 48)), some (.int x1), some (.int x2), some (.int x3), some (.int x4), none] [] g (fn_Gr_widenAll_49 r5 x1 x2 x3 x4 g) := by
  unfold fn_Gr_widenAll_49
  refine zi_aload0 (pc := 49) hX dX0_widenAll_49 ?_
  refine zi_aload0 (pc := 50) hX dX0_widenAll_50 ?_
  refine zi_getr (q := 54) (pc := 51) hX dX0_widenAll_51 fl_422 ly_48 rfl ?_
  refine zi_iload4 (pc := 54) hX dX0_widenAll_54 ?_
  refine zi_iald (pc := 56) hX dX0_widenAll_56 ly_54 ?_
  refine zi_aload0 (pc := 57) hX dX0_widenAll_57 ?_
  refine zi_getr (q := 49) (pc := 58) hX dX0_widenAll_58 fl_417 ly_48 rfl ?_
  refine zi_iload4 (pc := 61) hX dX0_widenAll_61 ?_
  refine zi_iald (pc := 63) hX dX0_widenAll_63 ly_49 ?_
  refine zi_aload0 (pc := 64) hX dX0_widenAll_64 ?_
  refine zi_geti (pc := 65) hX dX0_widenAll_65 fl_432 ly_48 rfl ?_
  refine zi_iand (pc := 68) hX dX0_widenAll_68 ?_
  refine zi_aload0 (pc := 69) hX dX0_widenAll_69 ?_
  refine zi_getr (q := 50) (pc := 70) hX dX0_widenAll_70 fl_418 ly_48 rfl ?_
  refine zi_iload4 (pc := 73) hX dX0_widenAll_73 ?_
  refine zi_iald (pc := 75) hX dX0_widenAll_75 ly_50 ?_
  refine zi_callI (zc_virt (pc := 76) hX dX0_widenAll_76 tm_654 md_X0_widened mi_X0_widened ly_48 (ct_Gr_widened hX.sane (g.1 54 x4.toNatClampNeg) ((g.1 49 x4.toNatClampNeg) &&& (g.1 48 14)) (g.1 50 x4.toNatClampNeg) g) rfl rfl rfl) (fun v4 g5 => ?_)
  refine zi_istore5 (pc := 79) hX dX0_widenAll_79 rfl rfl ?_
  refine zi_iload3 (pc := 81) hX dX0_widenAll_81 ?_
  refine zi_if_ne (pc := 82) 97 hX dX0_widenAll_82 (by decide) (fun _ => ?_) (fun _ => ?_)
  · refine zi_iload5 (pc := 85) hX dX0_widenAll_85 ?_
    refine zi_aload0 (pc := 87) hX dX0_widenAll_87 ?_
    refine zi_getr (q := 54) (pc := 88) hX dX0_widenAll_88 fl_422 ly_48 rfl ?_
    refine zi_iload4 (pc := 91) hX dX0_widenAll_91 ?_
    refine zi_iald (pc := 93) hX dX0_widenAll_93 ly_54 ?_
    refine zi_icmp_eq (pc := 94) 101 hX dX0_widenAll_94 (by decide) (fun _ => ?_) (fun _ => ?_)
    · refine zi_iconst (pc := 101) hX dX0_widenAll_101 ki_0 ?_
      refine zi_drop (le_s (le_s (le_s (le_n (le_s (le_s le_nil)))))) ?_; exact zp_Gr_widenAll_102 hX r5 x1 x2 x4 v4 (0 : Int32) hr5 g5
    · refine zi_drop (le_s (le_s (le_s (le_n (le_s (le_s le_nil)))))) ?_; exact zp_Gr_widenAll_97 hX r5 x1 x2 x4 v4 hr5 g5
  · refine zi_drop (le_s (le_s (le_s (le_n (le_s (le_s le_nil)))))) ?_; exact zp_Gr_widenAll_97 hX r5 x1 x2 x4 v4 hr5 g5
theorem zp_Gr_widenAll_5 {X : et_X} {w : et_W} (hX : et_Gd X w cX0_widenAll RX0 6 (some .boolean) [] rm_Gr_widenAll) (x1 : Int32) (x2 : Int32) : ∀ (n : Nat) (x3 : Int32) (x4 : Int32) (g : et_G), et_Z X w 0 et_eI 5 [some (.ref (et_ad w 48)), some (.int x1), some (.int x2), some (.int x3), some (.int x4), none] [] g (fn_Gr_widenAll_5 x1 x2 n x3 x4 g) := by
  intro n
  induction n with
  | zero =>
    intro x3 x4 g a g2 h
    cases h
  | succ n ih =>
    intro x3 x4 g
    rw [fn_Gr_widenAll_5]
    refine zi_iload4 (pc := 5) hX dX0_widenAll_5 ?_
    refine zi_aload0 (pc := 7) hX dX0_widenAll_7 ?_
    refine zi_getr (q := 34) (pc := 8) hX dX0_widenAll_8 fl_416 ly_48 rfl ?_
    refine zi_geti (pc := 11) hX dX0_widenAll_11 fl_361 ly_34 rfl ?_
    refine zi_icmp_ge (pc := 14) 118 hX dX0_widenAll_14 (by decide) (fun _ => ?_) (fun _ => ?_)
    · refine zi_iload3 (pc := 118) hX dX0_widenAll_118 ?_
      exact zi_ret (pc := 119) hX dX0_widenAll_119 rfl rfl rfl rfl
    · refine zi_iload2 (pc := 17) hX dX0_widenAll_17 ?_
      refine zi_iload4 (pc := 18) hX dX0_widenAll_18 ?_
      refine zi_callI (zc_nest (pc := 20) hX dX0_widenAll_20 nl_634 md_X9_hasBit st_X9_hasBit (ct_Et_hasBit hX.sane x2 x4 g) rfl rfl rfl) (fun v1 g2 => ?_)
      refine zi_if_eq (pc := 23) 112 hX dX0_widenAll_23 (by decide) (fun _ => ?_) (fun _ => ?_)
      · refine zi_iincb4 (pc := 112) hX dX0_widenAll_112 (kn_1 _) rfl rfl (fun v3 => ?_)
        refine zi_goto (pc := 115) 5 hX dX0_widenAll_115 (by decide) ?_
        exact ih x3 v3 g2
      · refine zi_aload0 (pc := 26) hX dX0_widenAll_26 ?_
        refine zi_getr (q := 34) (pc := 27) hX dX0_widenAll_27 fl_416 ly_48 rfl ?_
        refine zi_getr (q := 38) (pc := 30) hX dX0_widenAll_30 fl_373 ly_34 rfl ?_
        refine zi_iload4 (pc := 33) hX dX0_widenAll_33 ?_
        refine zi_iald (pc := 35) hX dX0_widenAll_35 ly_38 ?_
        refine zi_iconst (pc := 36) hX dX0_widenAll_36 ki_3 ?_
        refine zi_icmp_eq (pc := 37) 49 hX dX0_widenAll_37 (by decide) (fun _ => ?_) (fun _ => ?_)
        · exact zp_Gr_widenAll_49 hX (fun z3 z4 g => fn_Gr_widenAll_5 x1 x2 n z3 z4 g) x1 x2 x3 x4 (fun z3 z4 g => ih z3 z4 g) g2
        · refine zi_iload1 (pc := 40) hX dX0_widenAll_40 ?_
          refine zi_iload4 (pc := 41) hX dX0_widenAll_41 ?_
          refine zi_callI (zc_nest (pc := 43) hX dX0_widenAll_43 nl_634 md_X9_hasBit st_X9_hasBit (ct_Et_hasBit hX.sane x1 x4 g2) rfl rfl rfl) (fun v8 g9 => ?_)
          refine zi_if_eq (pc := 46) 112 hX dX0_widenAll_46 (by decide) (fun _ => ?_) (fun _ => ?_)
          · refine zi_iincb4 (pc := 112) hX dX0_widenAll_112 (kn_1 _) rfl rfl (fun v10 => ?_)
            refine zi_goto (pc := 115) 5 hX dX0_widenAll_115 (by decide) ?_
            exact ih x3 v10 g9
          · exact zp_Gr_widenAll_49 hX (fun z3 z4 g => fn_Gr_widenAll_5 x1 x2 n z3 z4 g) x1 x2 x3 x4 (fun z3 z4 g => ih z3 z4 g) g9
theorem zw_Gr_widenAll {X : et_X} {w : et_W} (hX : et_Gd X w cX0_widenAll RX0 6 (some .boolean) [] rm_Gr_widenAll) (p1 : Int32) (p2 : Int32) (g : et_G) : et_Z X w 0 et_eI 0 [some (.ref (et_ad w 48)), some (.int p1), some (.int p2), none, none, none] [] g (fn_Gr_widenAll p1 p2 g) := by
  unfold fn_Gr_widenAll
  refine zi_iconst (pc := 0) hX dX0_widenAll_0 ki_0 ?_
  refine zi_istore3 (pc := 1) hX dX0_widenAll_1 rfl rfl ?_
  refine zi_iconst (pc := 2) hX dX0_widenAll_2 ki_0 ?_
  refine zi_istore4 (pc := 3) hX dX0_widenAll_3 rfl rfl ?_
  exact zp_Gr_widenAll_5 hX p1 p2 1000000 (0 : Int32) (0 : Int32) g
theorem ct_Gr_widenAll {w : et_W} (hw : et_Sane w) (p1 : Int32) (p2 : Int32) (g : et_G) : et_C w yX0_widenAll (Cond.code yX0_widenAll cX0_widenAll 6 (some .boolean)) rm_Gr_widenAll et_eI [.ref (et_ad w 48), .int p1, .int p2] g (fn_Gr_widenAll p1 p2 g) := et_mk hw (by decide) rfl rfl (fun X hX => zw_Gr_widenAll hX p1 p2 g)
def rm_Gr_rise : Room := { frames := 4, cells := 0, slots := 0, locals := 97 }
def fn_Gr_rise_90 (r31 : Int32 → Int32 → et_G → Option (Unit × et_G)) (x1 : Int32) (x2 : Int32) (x4 : Int32) (x5 : Int32) (s0 : Int32) (g : et_G) : Option (Unit × et_G) :=
  et_b (et_si g 48 13 ((g.1 48 13) ||| x5)) (fun g11 =>
  et_b (et_si g11 48 14 ((g11.1 48 13) &&& (((g11.1 48 12) ^^^ (-1 : Int32)) ||| x1))) (fun g12 =>
  et_b (x4 + (1 : Int32)) (fun v13 =>
  r31 s0 v13 g12)))
def fn_Gr_rise_85 (r31 : Int32 → Int32 → et_G → Option (Unit × et_G)) (x1 : Int32) (x2 : Int32) (x4 : Int32) (x5 : Int32) (g : et_G) : Option (Unit × et_G) :=
  fn_Gr_rise_90 r31 x1 x2 x4 x5 (1 : Int32) g
def fn_Gr_rise_31 (x1 : Int32) (x2 : Int32) : Nat → Int32 → Int32 → et_G → Option (Unit × et_G)
  | 0, _, _, _ => none
  | n + 1, x3, x4, g =>
    if x3 = 0 then
      some ((), g)
    else
      if (181 : Int32) < x4 then
        some ((), g)
      else
        et_bd (fn_Gr_rising x1 (x2 &&& ((g.1 48 13) ^^^ (-1 : Int32))) x4 g) (fun v7 g8 =>
        et_bd (fn_Gr_widenAll x1 (x2 &&& ((g8.1 48 13) ^^^ (-1 : Int32))) g8) (fun v9 g10 =>
        if v9 = 0 then
          if v7 = 0 then
            fn_Gr_rise_90 (fun z3 z4 g => fn_Gr_rise_31 x1 x2 n z3 z4 g) x1 x2 x4 v7 (0 : Int32) g10
          else
            fn_Gr_rise_85 (fun z3 z4 g => fn_Gr_rise_31 x1 x2 n z3 z4 g) x1 x2 x4 v7 g10
        else
          fn_Gr_rise_85 (fun z3 z4 g => fn_Gr_rise_31 x1 x2 n z3 z4 g) x1 x2 x4 v7 g10))
def fn_Gr_rise (p1 : Int32) (p2 : Int32) (g : et_G) : Option (Unit × et_G) :=
  et_b (et_si g 48 13 (0 : Int32)) (fun g1 =>
  et_b (et_si g1 48 14 (0 : Int32)) (fun g2 =>
  et_bd (fn_Ja_fill_54 (0 : Int32) g2) (fun _ g4 =>
  et_bd (fn_Ja_fill_55 (0 : Int32) g4) (fun _ g6 =>
  fn_Gr_rise_31 p1 p2 1000000 (1 : Int32) (1 : Int32) g6))))
theorem zp_Gr_rise_90 {X : et_X} {w : et_W} (hX : et_Gd X w cX0_rise RX0 7 (none) [] rm_Gr_rise) (r31 : Int32 → Int32 → et_G → Option (Unit × et_G)) (x1 : Int32) (x2 : Int32) (x4 : Int32) (x5 : Int32) (s0 : Int32) (hr31 : ∀ (y3 : Int32) (y4 : Int32) (g : et_G), et_Z X w 0 et_eU 31 [some (.ref (et_ad w 48)), some (.int x1), some (.int x2), some (.int y3), some (.int y4), none, none] [] g (r31 y3 y4 g)) (g : et_G) : et_Z X w 0 et_eU 90 [some (.ref (et_ad w 48)), some (.int x1), some (.int x2), none, some (.int x4), some (.int x5), none] [.int s0] g (fn_Gr_rise_90 r31 x1 x2 x4 x5 s0 g) := by
  unfold fn_Gr_rise_90
  refine zi_istore3 (pc := 90) hX dX0_rise_90 rfl rfl ?_
  refine zi_aload0 (pc := 91) hX dX0_rise_91 ?_
  refine zi_dup (pc := 92) hX dX0_rise_92 rfl ?_
  refine zi_geti (pc := 93) hX dX0_rise_93 fl_430 ly_48 rfl ?_
  refine zi_iload5 (pc := 96) hX dX0_rise_96 ?_
  refine zi_ior (pc := 98) hX dX0_rise_98 ?_
  refine zi_puti (pc := 99) hX dX0_rise_99 fl_430 ly_48 rfl rfl rfl (zi_bg (fun g11 => ?_))
  refine zi_aload0 (pc := 102) hX dX0_rise_102 ?_
  refine zi_aload0 (pc := 103) hX dX0_rise_103 ?_
  refine zi_geti (pc := 104) hX dX0_rise_104 fl_430 ly_48 rfl ?_
  refine zi_aload0 (pc := 107) hX dX0_rise_107 ?_
  refine zi_geti (pc := 108) hX dX0_rise_108 fl_428 ly_48 rfl ?_
  refine zi_iconst (pc := 111) hX dX0_rise_111 ki_m1 ?_
  refine zi_ixor (pc := 112) hX dX0_rise_112 ?_
  refine zi_iload1 (pc := 113) hX dX0_rise_113 ?_
  refine zi_ior (pc := 114) hX dX0_rise_114 ?_
  refine zi_iand (pc := 115) hX dX0_rise_115 ?_
  refine zi_puti (pc := 116) hX dX0_rise_116 fl_432 ly_48 rfl rfl rfl (zi_bg (fun g12 => ?_))
  refine zi_iincb4 (pc := 119) hX dX0_rise_119 (kn_1 _) rfl rfl (fun v13 => ?_)
  refine zi_goto (pc := 122) 31 hX dX0_rise_122 (by decide) ?_
  refine zi_drop (le_s (le_s (le_s (le_s (le_s (le_n (le_s le_nil))))))) ?_; exact hr31 s0 v13 g12
theorem zp_Gr_rise_85 {X : et_X} {w : et_W} (hX : et_Gd X w cX0_rise RX0 7 (none) [] rm_Gr_rise) (r31 : Int32 → Int32 → et_G → Option (Unit × et_G)) (x1 : Int32) (x2 : Int32) (x4 : Int32) (x5 : Int32) (hr31 : ∀ (y3 : Int32) (y4 : Int32) (g : et_G), et_Z X w 0 et_eU 31 [some (.ref (et_ad w 48)), some (.int x1), some (.int x2), some (.int y3), some (.int y4), none, none] [] g (r31 y3 y4 g)) (g : et_G) : et_Z X w 0 et_eU 85 [some (.ref (et_ad w 48)), some (.int x1), some (.int x2), none, some (.int x4), some (.int x5), none] [] g (fn_Gr_rise_85 r31 x1 x2 x4 x5 g) := by
  unfold fn_Gr_rise_85
  refine zi_iconst (pc := 85) hX dX0_rise_85 ki_1 ?_
  refine zi_goto (pc := 86) 90 hX dX0_rise_86 (by decide) ?_
  exact zp_Gr_rise_90 hX r31 x1 x2 x4 x5 (1 : Int32) hr31 g
theorem zp_Gr_rise_31 {X : et_X} {w : et_W} (hX : et_Gd X w cX0_rise RX0 7 (none) [] rm_Gr_rise) (x1 : Int32) (x2 : Int32) : ∀ (n : Nat) (x3 : Int32) (x4 : Int32) (g : et_G), et_Z X w 0 et_eU 31 [some (.ref (et_ad w 48)), some (.int x1), some (.int x2), some (.int x3), some (.int x4), none, none] [] g (fn_Gr_rise_31 x1 x2 n x3 x4 g) := by
  intro n
  induction n with
  | zero =>
    intro x3 x4 g a g2 h
    cases h
  | succ n ih =>
    intro x3 x4 g
    rw [fn_Gr_rise_31]
    refine zi_iload3 (pc := 31) hX dX0_rise_31 ?_
    refine zi_if_eq (pc := 32) 125 hX dX0_rise_32 (by decide) (fun _ => ?_) (fun _ => ?_)
    · exact zi_vret (pc := 125) hX dX0_rise_125 rfl rfl rfl
    · refine zi_iload4 (pc := 35) hX dX0_rise_35 ?_
      refine zi_sipush (pc := 37) hX dX0_rise_37 ks_181 ?_
      refine zi_icmp_gt (pc := 40) 125 hX dX0_rise_40 (by decide) (fun _ => ?_) (fun _ => ?_)
      · exact zi_vret (pc := 125) hX dX0_rise_125 rfl rfl rfl
      · refine zi_aload0 (pc := 43) hX dX0_rise_43 ?_
        refine zi_iload1 (pc := 44) hX dX0_rise_44 ?_
        refine zi_iload2 (pc := 45) hX dX0_rise_45 ?_
        refine zi_aload0 (pc := 46) hX dX0_rise_46 ?_
        refine zi_geti (pc := 47) hX dX0_rise_47 fl_430 ly_48 rfl ?_
        refine zi_iconst (pc := 50) hX dX0_rise_50 ki_m1 ?_
        refine zi_ixor (pc := 51) hX dX0_rise_51 ?_
        refine zi_iand (pc := 52) hX dX0_rise_52 ?_
        refine zi_iload4 (pc := 53) hX dX0_rise_53 ?_
        refine zi_callI (zc_virt (pc := 55) hX dX0_rise_55 tm_630 md_X0_rising mi_X0_rising ly_48 (ct_Gr_rising hX.sane x1 (x2 &&& ((g.1 48 13) ^^^ (-1 : Int32))) x4 g) rfl rfl rfl) (fun v7 g8 => ?_)
        refine zi_istore5 (pc := 58) hX dX0_rise_58 rfl rfl ?_
        refine zi_aload0 (pc := 60) hX dX0_rise_60 ?_
        refine zi_iload1 (pc := 61) hX dX0_rise_61 ?_
        refine zi_iload2 (pc := 62) hX dX0_rise_62 ?_
        refine zi_aload0 (pc := 63) hX dX0_rise_63 ?_
        refine zi_geti (pc := 64) hX dX0_rise_64 fl_430 ly_48 rfl ?_
        refine zi_iconst (pc := 67) hX dX0_rise_67 ki_m1 ?_
        refine zi_ixor (pc := 68) hX dX0_rise_68 ?_
        refine zi_iand (pc := 69) hX dX0_rise_69 ?_
        refine zi_callI (zc_virt (pc := 70) hX dX0_rise_70 tm_650 md_X0_widenAll mi_X0_widenAll ly_48 (ct_Gr_widenAll hX.sane x1 (x2 &&& ((g8.1 48 13) ^^^ (-1 : Int32))) g8) rfl rfl rfl) (fun v9 g10 => ?_)
        refine zi_istore6 (pc := 73) hX dX0_rise_73 rfl rfl ?_
        refine zi_iload6 (pc := 75) hX dX0_rise_75 ?_
        refine zi_if_ne (pc := 77) 85 hX dX0_rise_77 (by decide) (fun _ => ?_) (fun _ => ?_)
        · refine zi_iload5 (pc := 80) hX dX0_rise_80 ?_
          refine zi_if_eq (pc := 82) 89 hX dX0_rise_82 (by decide) (fun _ => ?_) (fun _ => ?_)
          · refine zi_iconst (pc := 89) hX dX0_rise_89 ki_0 ?_
            refine zi_drop (le_s (le_s (le_s (le_n (le_s (le_s (le_n le_nil))))))) ?_; exact zp_Gr_rise_90 hX (fun z3 z4 g => fn_Gr_rise_31 x1 x2 n z3 z4 g) x1 x2 x4 v7 (0 : Int32) (fun z3 z4 g => ih z3 z4 g) g10
          · refine zi_drop (le_s (le_s (le_s (le_n (le_s (le_s (le_n le_nil))))))) ?_; exact zp_Gr_rise_85 hX (fun z3 z4 g => fn_Gr_rise_31 x1 x2 n z3 z4 g) x1 x2 x4 v7 (fun z3 z4 g => ih z3 z4 g) g10
        · refine zi_drop (le_s (le_s (le_s (le_n (le_s (le_s (le_n le_nil))))))) ?_; exact zp_Gr_rise_85 hX (fun z3 z4 g => fn_Gr_rise_31 x1 x2 n z3 z4 g) x1 x2 x4 v7 (fun z3 z4 g => ih z3 z4 g) g10
theorem zw_Gr_rise {X : et_X} {w : et_W} (hX : et_Gd X w cX0_rise RX0 7 (none) [] rm_Gr_rise) (p1 : Int32) (p2 : Int32) (g : et_G) : et_Z X w 0 et_eU 0 [some (.ref (et_ad w 48)), some (.int p1), some (.int p2), none, none, none, none] [] g (fn_Gr_rise p1 p2 g) := by
  unfold fn_Gr_rise
  refine zi_aload0 (pc := 0) hX dX0_rise_0 ?_
  refine zi_iconst (pc := 1) hX dX0_rise_1 ki_0 ?_
  refine zi_puti (pc := 2) hX dX0_rise_2 fl_430 ly_48 rfl rfl rfl (zi_bg (fun g1 => ?_))
  refine zi_aload0 (pc := 5) hX dX0_rise_5 ?_
  refine zi_iconst (pc := 6) hX dX0_rise_6 ki_0 ?_
  refine zi_puti (pc := 7) hX dX0_rise_7 fl_432 ly_48 rfl rfl rfl (zi_bg (fun g2 => ?_))
  refine zi_aload0 (pc := 10) hX dX0_rise_10 ?_
  refine zi_getr (q := 54) (pc := 11) hX dX0_rise_11 fl_422 ly_48 rfl ?_
  refine zi_iconst (pc := 14) hX dX0_rise_14 ki_0 ?_
  refine zi_callU (zc_stat (pc := 15) hX dX0_rise_15 tm_578 md_J7_fill_53178 st_J7_fill_53178 (ct_Ja_fill_54 hX.sane (0 : Int32) g2) rfl rfl rfl) (fun g4 => ?_)
  refine zi_aload0 (pc := 18) hX dX0_rise_18 ?_
  refine zi_getr (q := 55) (pc := 19) hX dX0_rise_19 fl_423 ly_48 rfl ?_
  refine zi_iconst (pc := 22) hX dX0_rise_22 ki_0 ?_
  refine zi_callU (zc_stat (pc := 23) hX dX0_rise_23 tm_578 md_J7_fill_53178 st_J7_fill_53178 (ct_Ja_fill_55 hX.sane (0 : Int32) g4) rfl rfl rfl) (fun g6 => ?_)
  refine zi_iconst (pc := 26) hX dX0_rise_26 ki_1 ?_
  refine zi_istore3 (pc := 27) hX dX0_rise_27 rfl rfl ?_
  refine zi_iconst (pc := 28) hX dX0_rise_28 ki_1 ?_
  refine zi_istore4 (pc := 29) hX dX0_rise_29 rfl rfl ?_
  exact zp_Gr_rise_31 hX p1 p2 1000000 (1 : Int32) (1 : Int32) g6
theorem ct_Gr_rise {w : et_W} (hw : et_Sane w) (p1 : Int32) (p2 : Int32) (g : et_G) : et_C w yX0_rise (Cond.code yX0_rise cX0_rise 7 (none)) rm_Gr_rise et_eU [.ref (et_ad w 48), .int p1, .int p2] g (fn_Gr_rise p1 p2 g) := et_mk hw (by decide) rfl rfl (fun X hX => zw_Gr_rise hX p1 p2 g)
def rm_Gr_settle : Room := { frames := 5, cells := 0, slots := 0, locals := 123 }
def fn_Gr_settle (g : et_G) : Option (Unit × et_G) :=
  if (g.1 48 15) = 0 then
    et_bd (fn_Gr_lay g) (fun _ g2 =>
    et_bd (fn_Le_every g2) (fun v3 g4 =>
    et_bd (fn_Gr_rise (0 : Int32) v3 g4) (fun _ g6 =>
    et_b (et_si g6 48 15 (1 : Int32)) (fun g7 =>
    et_b (et_si g7 48 16 (0 : Int32)) (fun g8 =>
    some ((), g8))))))
  else
    some ((), g)
theorem zw_Gr_settle {X : et_X} {w : et_W} (hX : et_Gd X w cX0_settle RX0 1 (none) [] rm_Gr_settle) (g : et_G) : et_Z X w 0 et_eU 0 [some (.ref (et_ad w 48))] [] g (fn_Gr_settle g) := by
  unfold fn_Gr_settle
  refine zi_aload0 (pc := 0) hX dX0_settle_0 ?_
  refine zi_geti (pc := 1) hX dX0_settle_1 fl_433 ly_48 rfl ?_
  refine zi_if_eq (pc := 4) 8 hX dX0_settle_4 (by decide) (fun _ => ?_) (fun _ => ?_)
  · refine zi_aload0 (pc := 8) hX dX0_settle_8 ?_
    refine zi_callU (zc_virt (pc := 9) hX dX0_settle_9 tm_1180 md_X0_lay mi_X0_lay ly_48 (ct_Gr_lay hX.sane g) rfl rfl rfl) (fun g2 => ?_)
    refine zi_aload0 (pc := 12) hX dX0_settle_12 ?_
    refine zi_iconst (pc := 13) hX dX0_settle_13 ki_0 ?_
    refine zi_aload0 (pc := 14) hX dX0_settle_14 ?_
    refine zi_getr (q := 34) (pc := 15) hX dX0_settle_15 fl_416 ly_48 rfl ?_
    refine zi_callI (zc_virt (pc := 18) hX dX0_settle_18 tm_1181 md_X1_every mi_X1_every ly_34 (ct_Le_every hX.sane g2) rfl rfl rfl) (fun v3 g4 => ?_)
    refine zi_callU (zc_virt (pc := 21) hX dX0_settle_21 tm_1182 md_X0_rise mi_X0_rise ly_48 (ct_Gr_rise hX.sane (0 : Int32) v3 g4) rfl rfl rfl) (fun g6 => ?_)
    refine zi_aload0 (pc := 24) hX dX0_settle_24 ?_
    refine zi_iconst (pc := 25) hX dX0_settle_25 ki_1 ?_
    refine zi_puti (pc := 26) hX dX0_settle_26 fl_433 ly_48 rfl et_z1 et_f1 (zi_bg (fun g7 => ?_))
    refine zi_aload0 (pc := 29) hX dX0_settle_29 ?_
    refine zi_iconst (pc := 30) hX dX0_settle_30 ki_0 ?_
    refine zi_puti (pc := 31) hX dX0_settle_31 fl_434 ly_48 rfl et_z0 et_f0 (zi_bg (fun g8 => ?_))
    exact zi_vret (pc := 34) hX dX0_settle_34 rfl rfl rfl
  · exact zi_vret (pc := 7) hX dX0_settle_7 rfl rfl rfl
theorem ct_Gr_settle {w : et_W} (hw : et_Sane w) (g : et_G) : et_C w yX0_settle (Cond.code yX0_settle cX0_settle 1 (none)) rm_Gr_settle et_eU [.ref (et_ad w 48)] g (fn_Gr_settle g) := et_mk hw (by decide) rfl rfl (fun X hX => zw_Gr_settle hX g)
def rm_Gr_widest : Room := { frames := 2, cells := 0, slots := 0, locals := 48 }
def fn_Gr_widest_20 (x1 : Int32) (x2 : Int32) : Nat → Int32 → Int32 → Int32 → et_G → Option (Int32 × et_G)
  | 0, _, _, _, _ => none
  | n + 1, x3, x4, x5, g =>
    if x4 = x3 then
      some (x4, g)
    else
      if (8 : Int32) ≤ x5 then
        some (x4, g)
      else
        et_bd (fn_Gr_widened x4 x1 x2 g) (fun v5 g6 =>
        et_b (x5 + (1 : Int32)) (fun v7 =>
        fn_Gr_widest_20 x1 x2 n x4 v5 v7 g6))
def fn_Gr_widest (p1 : Int32) (p2 : Int32) (g : et_G) : Option (Int32 × et_G) :=
  et_bd (fn_Gr_widened (0 : Int32) p1 p2 g) (fun v1 g2 =>
  et_bd (fn_Gr_widened v1 p1 p2 g2) (fun v3 g4 =>
  fn_Gr_widest_20 p1 p2 1000000 v1 v3 (0 : Int32) g4))
theorem zp_Gr_widest_20 {X : et_X} {w : et_W} (hX : et_Gd X w cX0_widest RX0 6 (some .int) [] rm_Gr_widest) (x1 : Int32) (x2 : Int32) : ∀ (n : Nat) (x3 : Int32) (x4 : Int32) (x5 : Int32) (g : et_G), et_Z X w 0 et_eI 20 [some (.ref (et_ad w 48)), some (.int x1), some (.int x2), some (.int x3), some (.int x4), some (.int x5)] [] g (fn_Gr_widest_20 x1 x2 n x3 x4 x5 g) := by
  intro n
  induction n with
  | zero =>
    intro x3 x4 x5 g a g2 h
    cases h
  | succ n ih =>
    intro x3 x4 x5 g
    rw [fn_Gr_widest_20]
    refine zi_iload4 (pc := 20) hX dX0_widest_20 ?_
    refine zi_iload3 (pc := 22) hX dX0_widest_22 ?_
    refine zi_icmp_eq (pc := 23) 51 hX dX0_widest_23 (by decide) (fun _ => ?_) (fun _ => ?_)
    · refine zi_iload4 (pc := 51) hX dX0_widest_51 ?_
      exact zi_ret (pc := 53) hX dX0_widest_53 rfl rfl rfl rfl
    · refine zi_iload5 (pc := 26) hX dX0_widest_26 ?_
      refine zi_bipush (pc := 28) hX dX0_widest_28 kb_8 ?_
      refine zi_icmp_ge (pc := 30) 51 hX dX0_widest_30 (by decide) (fun _ => ?_) (fun _ => ?_)
      · refine zi_iload4 (pc := 51) hX dX0_widest_51 ?_
        exact zi_ret (pc := 53) hX dX0_widest_53 rfl rfl rfl rfl
      · refine zi_iload4 (pc := 33) hX dX0_widest_33 ?_
        refine zi_istore3 (pc := 35) hX dX0_widest_35 rfl rfl ?_
        refine zi_aload0 (pc := 36) hX dX0_widest_36 ?_
        refine zi_iload3 (pc := 37) hX dX0_widest_37 ?_
        refine zi_iload1 (pc := 38) hX dX0_widest_38 ?_
        refine zi_iload2 (pc := 39) hX dX0_widest_39 ?_
        refine zi_callI (zc_virt (pc := 40) hX dX0_widest_40 tm_654 md_X0_widened mi_X0_widened ly_48 (ct_Gr_widened hX.sane x4 x1 x2 g) rfl rfl rfl) (fun v5 g6 => ?_)
        refine zi_istore4 (pc := 43) hX dX0_widest_43 rfl rfl ?_
        refine zi_iincb5 (pc := 45) hX dX0_widest_45 (kn_1 _) rfl rfl (fun v7 => ?_)
        refine zi_goto (pc := 48) 20 hX dX0_widest_48 (by decide) ?_
        exact ih x4 v5 v7 g6
theorem zw_Gr_widest {X : et_X} {w : et_W} (hX : et_Gd X w cX0_widest RX0 6 (some .int) [] rm_Gr_widest) (p1 : Int32) (p2 : Int32) (g : et_G) : et_Z X w 0 et_eI 0 [some (.ref (et_ad w 48)), some (.int p1), some (.int p2), none, none, none] [] g (fn_Gr_widest p1 p2 g) := by
  unfold fn_Gr_widest
  refine zi_aload0 (pc := 0) hX dX0_widest_0 ?_
  refine zi_iconst (pc := 1) hX dX0_widest_1 ki_0 ?_
  refine zi_iload1 (pc := 2) hX dX0_widest_2 ?_
  refine zi_iload2 (pc := 3) hX dX0_widest_3 ?_
  refine zi_callI (zc_virt (pc := 4) hX dX0_widest_4 tm_654 md_X0_widened mi_X0_widened ly_48 (ct_Gr_widened hX.sane (0 : Int32) p1 p2 g) rfl rfl rfl) (fun v1 g2 => ?_)
  refine zi_istore3 (pc := 7) hX dX0_widest_7 rfl rfl ?_
  refine zi_aload0 (pc := 8) hX dX0_widest_8 ?_
  refine zi_iload3 (pc := 9) hX dX0_widest_9 ?_
  refine zi_iload1 (pc := 10) hX dX0_widest_10 ?_
  refine zi_iload2 (pc := 11) hX dX0_widest_11 ?_
  refine zi_callI (zc_virt (pc := 12) hX dX0_widest_12 tm_654 md_X0_widened mi_X0_widened ly_48 (ct_Gr_widened hX.sane v1 p1 p2 g2) rfl rfl rfl) (fun v3 g4 => ?_)
  refine zi_istore4 (pc := 15) hX dX0_widest_15 rfl rfl ?_
  refine zi_iconst (pc := 17) hX dX0_widest_17 ki_0 ?_
  refine zi_istore5 (pc := 18) hX dX0_widest_18 rfl rfl ?_
  exact zp_Gr_widest_20 hX p1 p2 1000000 v1 v3 (0 : Int32) g4
theorem ct_Gr_widest {w : et_W} (hw : et_Sane w) (p1 : Int32) (p2 : Int32) (g : et_G) : et_C w yX0_widest (Cond.code yX0_widest cX0_widest 6 (some .int)) rm_Gr_widest et_eI [.ref (et_ad w 48), .int p1, .int p2] g (fn_Gr_widest p1 p2 g) := et_mk hw (by decide) rfl rfl (fun X hX => zw_Gr_widest hX p1 p2 g)
def rm_Gr_howsFor : Room := { frames := 6, cells := 0, slots := 0, locals := 143 }
def fn_Gr_howsFor_57 (x1 : Int32) (x2 : Int32) (x3 : Int32) (x4 : Int32) (x5 : Int32) (x6 : Int32) (g : et_G) : Option (Int32 × et_G) :=
  if x4 = 0 then
    et_bd (fn_Tw_ownThings x1 x2 g) (fun v11 g12 =>
    et_bd (fn_Gr_widest x6 v11 g12) (fun v13 g14 =>
    et_bd (fn_Tw_isWorkedOut x3 v13 g14) (fun v15 g16 =>
    if v15 = 0 then
      some (x5, g16)
    else
      et_b (x5 ||| (8 : Int32)) (fun v17 =>
      some (v17, g16)))))
  else
    some (x5, g)
def fn_Gr_howsFor (p1 : Int32) (p2 : Int32) (p3 : Int32) (p4 : Int32) (g : et_G) : Option (Int32 × et_G) :=
  et_bd (fn_Gr_settle g) (fun _ g2 =>
  et_bd (fn_Tw_ownHows p1 p2 p3 p4 g2) (fun v3 g4 =>
  et_b ((16 : Int32) ||| v3) (fun v5 =>
  et_bd (fn_Gr_heardBy p1 p2 g4) (fun v6 g7 =>
  et_b (v6 &&& (g7.1 48 14)) (fun v8 =>
  et_bd (fn_Gr_aboutRow p3 p4 g7) (fun v9 g10 =>
  et_ck (et_ib v9 16) (
  if (v8 &&& (g10.1 52 v9.toNatClampNeg)) = 0 then
    fn_Gr_howsFor_57 p1 p2 p3 p4 v5 v8 g10
  else
    et_b (v5 ||| (4 : Int32)) (fun v18 =>
    fn_Gr_howsFor_57 p1 p2 p3 p4 v18 v8 g10))))))))
theorem zp_Gr_howsFor_57 {X : et_X} {w : et_W} (hX : et_Gd X w cX0_howsFor RX0 7 (some .int) [] rm_Gr_howsFor) (x1 : Int32) (x2 : Int32) (x3 : Int32) (x4 : Int32) (x5 : Int32) (x6 : Int32) (g : et_G) : et_Z X w 0 et_eI 57 [some (.ref (et_ad w 48)), some (.int x1), some (.int x2), some (.int x3), some (.int x4), some (.int x5), some (.int x6)] [] g (fn_Gr_howsFor_57 x1 x2 x3 x4 x5 x6 g) := by
  unfold fn_Gr_howsFor_57
  refine zi_iload4 (pc := 57) hX dX0_howsFor_57 ?_
  refine zi_if_ne (pc := 59) 95 hX dX0_howsFor_59 (by decide) (fun _ => ?_) (fun _ => ?_)
  · refine zi_aload0 (pc := 62) hX dX0_howsFor_62 ?_
    refine zi_getr (q := 2) (pc := 63) hX dX0_howsFor_63 fl_415 ly_48 rfl ?_
    refine zi_iload3 (pc := 66) hX dX0_howsFor_66 ?_
    refine zi_aload0 (pc := 67) hX dX0_howsFor_67 ?_
    refine zi_iload6 (pc := 68) hX dX0_howsFor_68 ?_
    refine zi_aload0 (pc := 70) hX dX0_howsFor_70 ?_
    refine zi_getr (q := 2) (pc := 71) hX dX0_howsFor_71 fl_415 ly_48 rfl ?_
    refine zi_iload1 (pc := 74) hX dX0_howsFor_74 ?_
    refine zi_iload2 (pc := 75) hX dX0_howsFor_75 ?_
    refine zi_callI (zc_virt (pc := 76) hX dX0_howsFor_76 tm_593 md_X6_ownThings mi_X6_ownThings ly_2 (ct_Tw_ownThings hX.sane x1 x2 g) rfl rfl rfl) (fun v11 g12 => ?_)
    refine zi_callI (zc_virt (pc := 79) hX dX0_howsFor_79 tm_666 md_X0_widest mi_X0_widest ly_48 (ct_Gr_widest hX.sane x6 v11 g12) rfl rfl rfl) (fun v13 g14 => ?_)
    refine zi_callI (zc_virt (pc := 82) hX dX0_howsFor_82 tm_639 md_X6_isWorkedOut mi_X6_isWorkedOut ly_2 (ct_Tw_isWorkedOut hX.sane x3 v13 g14) rfl rfl rfl) (fun v15 g16 => ?_)
    refine zi_if_eq (pc := 85) 95 hX dX0_howsFor_85 (by decide) (fun _ => ?_) (fun _ => ?_)
    · refine zi_iload5 (pc := 95) hX dX0_howsFor_95 ?_
      exact zi_ret (pc := 97) hX dX0_howsFor_97 rfl rfl rfl rfl
    · refine zi_iload5 (pc := 88) hX dX0_howsFor_88 ?_
      refine zi_bipush (pc := 90) hX dX0_howsFor_90 kb_8 ?_
      refine zi_ior (pc := 92) hX dX0_howsFor_92 ?_
      refine zi_bi (fun v17 => ?_)
      refine zi_istore5 (pc := 93) hX dX0_howsFor_93 rfl rfl ?_
      refine zi_iload5 (pc := 95) hX dX0_howsFor_95 ?_
      exact zi_ret (pc := 97) hX dX0_howsFor_97 rfl rfl rfl rfl
  · refine zi_iload5 (pc := 95) hX dX0_howsFor_95 ?_
    exact zi_ret (pc := 97) hX dX0_howsFor_97 rfl rfl rfl rfl
theorem zw_Gr_howsFor {X : et_X} {w : et_W} (hX : et_Gd X w cX0_howsFor RX0 7 (some .int) [] rm_Gr_howsFor) (p1 : Int32) (p2 : Int32) (p3 : Int32) (p4 : Int32) (g : et_G) : et_Z X w 0 et_eI 0 [some (.ref (et_ad w 48)), some (.int p1), some (.int p2), some (.int p3), some (.int p4), none, none] [] g (fn_Gr_howsFor p1 p2 p3 p4 g) := by
  unfold fn_Gr_howsFor
  refine zi_aload0 (pc := 0) hX dX0_howsFor_0 ?_
  refine zi_callU (zc_virt (pc := 1) hX dX0_howsFor_1 tm_1176 md_X0_settle mi_X0_settle ly_48 (ct_Gr_settle hX.sane g) rfl rfl rfl) (fun g2 => ?_)
  refine zi_bipush (pc := 4) hX dX0_howsFor_4 kb_16 ?_
  refine zi_aload0 (pc := 6) hX dX0_howsFor_6 ?_
  refine zi_getr (q := 2) (pc := 7) hX dX0_howsFor_7 fl_415 ly_48 rfl ?_
  refine zi_iload1 (pc := 10) hX dX0_howsFor_10 ?_
  refine zi_iload2 (pc := 11) hX dX0_howsFor_11 ?_
  refine zi_iload3 (pc := 12) hX dX0_howsFor_12 ?_
  refine zi_iload4 (pc := 13) hX dX0_howsFor_13 ?_
  refine zi_callI (zc_virt (pc := 15) hX dX0_howsFor_15 tm_613 md_X6_ownHows mi_X6_ownHows ly_2 (ct_Tw_ownHows hX.sane p1 p2 p3 p4 g2) rfl rfl rfl) (fun v3 g4 => ?_)
  refine zi_ior (pc := 18) hX dX0_howsFor_18 ?_
  refine zi_bi (fun v5 => ?_)
  refine zi_istore5 (pc := 19) hX dX0_howsFor_19 rfl rfl ?_
  refine zi_aload0 (pc := 21) hX dX0_howsFor_21 ?_
  refine zi_iload1 (pc := 22) hX dX0_howsFor_22 ?_
  refine zi_iload2 (pc := 23) hX dX0_howsFor_23 ?_
  refine zi_callI (zc_virt (pc := 24) hX dX0_howsFor_24 tm_581 md_X0_heardBy mi_X0_heardBy ly_48 (ct_Gr_heardBy hX.sane p1 p2 g4) rfl rfl rfl) (fun v6 g7 => ?_)
  refine zi_aload0 (pc := 27) hX dX0_howsFor_27 ?_
  refine zi_geti (pc := 28) hX dX0_howsFor_28 fl_432 ly_48 rfl ?_
  refine zi_iand (pc := 31) hX dX0_howsFor_31 ?_
  refine zi_bi (fun v8 => ?_)
  refine zi_istore6 (pc := 32) hX dX0_howsFor_32 rfl rfl ?_
  refine zi_iload6 (pc := 34) hX dX0_howsFor_34 ?_
  refine zi_aload0 (pc := 36) hX dX0_howsFor_36 ?_
  refine zi_getr (q := 52) (pc := 37) hX dX0_howsFor_37 fl_420 ly_48 rfl ?_
  refine zi_iload3 (pc := 40) hX dX0_howsFor_40 ?_
  refine zi_iload4 (pc := 41) hX dX0_howsFor_41 ?_
  refine zi_callI (zc_stat (pc := 43) hX dX0_howsFor_43 tm_614 md_X0_aboutRow st_X0_aboutRow (ct_Gr_aboutRow hX.sane p3 p4 g7) rfl rfl rfl) (fun v9 g10 => ?_)
  refine zi_iald (pc := 46) hX dX0_howsFor_46 ly_52 ?_
  refine zi_iand (pc := 47) hX dX0_howsFor_47 ?_
  refine zi_if_eq (pc := 48) 57 hX dX0_howsFor_48 (by decide) (fun _ => ?_) (fun _ => ?_)
  · exact zp_Gr_howsFor_57 hX p1 p2 p3 p4 v5 v8 g10
  · refine zi_iload5 (pc := 51) hX dX0_howsFor_51 ?_
    refine zi_iconst (pc := 53) hX dX0_howsFor_53 ki_4 ?_
    refine zi_ior (pc := 54) hX dX0_howsFor_54 ?_
    refine zi_bi (fun v18 => ?_)
    refine zi_istore5 (pc := 55) hX dX0_howsFor_55 rfl rfl ?_
    exact zp_Gr_howsFor_57 hX p1 p2 p3 p4 v18 v8 g10
theorem ct_Gr_howsFor {w : et_W} (hw : et_Sane w) (p1 : Int32) (p2 : Int32) (p3 : Int32) (p4 : Int32) (g : et_G) : et_C w yX0_howsFor (Cond.code yX0_howsFor cX0_howsFor 7 (some .int)) rm_Gr_howsFor et_eI [.ref (et_ad w 48), .int p1, .int p2, .int p3, .int p4] g (fn_Gr_howsFor p1 p2 p3 p4 g) := et_mk hw (by decide) rfl rfl (fun X hX => zw_Gr_howsFor hX p1 p2 p3 p4 g)
def rm_Et_could : Room := { frames := 7, cells := 3, slots := 18, locals := 169 }
def fn_Et_could (p1 : Int32) (p2 : Int32) (p3 : Int32) (p4 : Int32) (g : et_G) : Option ((Nat ⊕ Int32) × et_G) :=
  et_bt (fn_Et_needPerson p1 g) (fun _ g2 =>
  et_bt (fn_Et_needHour p2 g2) (fun _ g4 =>
  et_bt (fn_Et_needThing p3 g4) (fun _ g6 =>
  et_bd (fn_Gr_howsFor p1 p2 p3 p4 g6) (fun v7 g8 =>
  some (.inr (v7), g8)))))
theorem zw_Et_could {X : et_X} {w : et_W} (hX : et_Gd X w cX9_could RX9 5 (some .int) [] rm_Et_could) (p1 : Int32) (p2 : Int32) (p3 : Int32) (p4 : Int32) (g : et_G) : et_Z X w 0 et_tI 0 [some (.ref (et_ad w 0)), some (.int p1), some (.int p2), some (.int p3), some (.int p4)] [] g (fn_Et_could p1 p2 p3 p4 g) := by
  unfold fn_Et_could
  refine zi_aload0 (pc := 0) hX dX9_could_0 ?_
  refine zi_iload1 (pc := 1) hX dX9_could_1 ?_
  refine zi_callTU hX (fun _ => rfl) rfl rfl (zc_virt (pc := 2) hX dX9_could_2 tm_1031 md_X9_needPerson mi_X9_needPerson ly_0 (ct_Et_needPerson hX.sane p1 g) rfl rfl rfl) (fun g2 => ?_)
  refine zi_aload0 (pc := 5) hX dX9_could_5 ?_
  refine zi_iload2 (pc := 6) hX dX9_could_6 ?_
  refine zi_callTU hX (fun _ => rfl) rfl rfl (zc_virt (pc := 7) hX dX9_could_7 tm_1039 md_X9_needHour mi_X9_needHour ly_0 (ct_Et_needHour hX.sane p2 g2) rfl rfl rfl) (fun g4 => ?_)
  refine zi_aload0 (pc := 10) hX dX9_could_10 ?_
  refine zi_iload3 (pc := 11) hX dX9_could_11 ?_
  refine zi_callTU hX (fun _ => rfl) rfl rfl (zc_virt (pc := 12) hX dX9_could_12 tm_1054 md_X9_needThing mi_X9_needThing ly_0 (ct_Et_needThing hX.sane p3 g4) rfl rfl rfl) (fun g6 => ?_)
  refine zi_aload0 (pc := 15) hX dX9_could_15 ?_
  refine zi_getr (q := 48) (pc := 16) hX dX9_could_16 fl_503 ly_0 rfl ?_
  refine zi_iload1 (pc := 19) hX dX9_could_19 ?_
  refine zi_iload2 (pc := 20) hX dX9_could_20 ?_
  refine zi_iload3 (pc := 21) hX dX9_could_21 ?_
  refine zi_iload4 (pc := 22) hX dX9_could_22 ?_
  refine zi_callI (zc_virt (pc := 24) hX dX9_could_24 tm_1219 md_X0_howsFor mi_X0_howsFor ly_48 (ct_Gr_howsFor hX.sane p1 p2 p3 p4 g6) rfl rfl rfl) (fun v7 g8 => ?_)
  exact zi_ret (pc := 27) hX dX9_could_27 rfl rfl rfl rfl
theorem ct_Et_could {w : et_W} (hw : et_Sane w) (p1 : Int32) (p2 : Int32) (p3 : Int32) (p4 : Int32) (g : et_G) : et_C w yX9_could (Cond.code yX9_could cX9_could 5 (some .int)) rm_Et_could et_tI [.ref (et_ad w 0), .int p1, .int p2, .int p3, .int p4] g (fn_Et_could p1 p2 p3 p4 g) := et_mk hw (by decide) rfl rfl (fun X hX => zw_Et_could hX p1 p2 p3 p4 g)
def rm_Ji_bitCount : Room := { frames := 0, cells := 0, slots := 0, locals := 0 }
def fn_Ji_bitCount (p0 : Int32) (g : et_G) : Option (Int32 × et_G) :=
  et_b (p0 - ((et_us p0 (1 : Int32)) &&& (1431655765 : Int32))) (fun v1 =>
  et_b ((v1 &&& (858993459 : Int32)) + ((et_us v1 (2 : Int32)) &&& (858993459 : Int32))) (fun v2 =>
  et_b ((v2 + (et_us v2 (4 : Int32))) &&& (252645135 : Int32)) (fun v3 =>
  et_b (v3 + (et_us v3 (8 : Int32))) (fun v4 =>
  et_b (v4 + (et_us v4 (16 : Int32))) (fun v5 =>
  some (v5 &&& (63 : Int32), g))))))
theorem zw_Ji_bitCount {X : et_X} {w : et_W} (hX : et_Gd X w cJ6_bitCount_0f7a4 RJ6 1 (some .int) [] rm_Ji_bitCount) (p0 : Int32) (g : et_G) : et_Z X w 0 et_eI 0 [some (.int p0)] [] g (fn_Ji_bitCount p0 g) := by
  unfold fn_Ji_bitCount
  refine zi_iload0 (pc := 0) hX dJ6_bitCount_0f7a4_0 ?_
  refine zi_iload0 (pc := 1) hX dJ6_bitCount_0f7a4_1 ?_
  refine zi_iconst (pc := 2) hX dJ6_bitCount_0f7a4_2 ki_1 ?_
  refine zi_iushr (pc := 3) hX dJ6_bitCount_0f7a4_3 ?_
  refine zi_ldcw (pc := 4) hX dJ6_bitCount_0f7a4_4 tm_673 ?_
  refine zi_iand (pc := 7) hX dJ6_bitCount_0f7a4_7 ?_
  refine zi_isub (pc := 8) hX dJ6_bitCount_0f7a4_8 ?_
  refine zi_bi (fun v1 => ?_)
  refine zi_istore0 (pc := 9) hX dJ6_bitCount_0f7a4_9 rfl ?_
  refine zi_iload0 (pc := 10) hX dJ6_bitCount_0f7a4_10 ?_
  refine zi_ldcw (pc := 11) hX dJ6_bitCount_0f7a4_11 tm_674 ?_
  refine zi_iand (pc := 14) hX dJ6_bitCount_0f7a4_14 ?_
  refine zi_iload0 (pc := 15) hX dJ6_bitCount_0f7a4_15 ?_
  refine zi_iconst (pc := 16) hX dJ6_bitCount_0f7a4_16 ki_2 ?_
  refine zi_iushr (pc := 17) hX dJ6_bitCount_0f7a4_17 ?_
  refine zi_ldcw (pc := 18) hX dJ6_bitCount_0f7a4_18 tm_674 ?_
  refine zi_iand (pc := 21) hX dJ6_bitCount_0f7a4_21 ?_
  refine zi_iadd (pc := 22) hX dJ6_bitCount_0f7a4_22 ?_
  refine zi_bi (fun v2 => ?_)
  refine zi_istore0 (pc := 23) hX dJ6_bitCount_0f7a4_23 rfl ?_
  refine zi_iload0 (pc := 24) hX dJ6_bitCount_0f7a4_24 ?_
  refine zi_iload0 (pc := 25) hX dJ6_bitCount_0f7a4_25 ?_
  refine zi_iconst (pc := 26) hX dJ6_bitCount_0f7a4_26 ki_4 ?_
  refine zi_iushr (pc := 27) hX dJ6_bitCount_0f7a4_27 ?_
  refine zi_iadd (pc := 28) hX dJ6_bitCount_0f7a4_28 ?_
  refine zi_ldcw (pc := 29) hX dJ6_bitCount_0f7a4_29 tm_675 ?_
  refine zi_iand (pc := 32) hX dJ6_bitCount_0f7a4_32 ?_
  refine zi_bi (fun v3 => ?_)
  refine zi_istore0 (pc := 33) hX dJ6_bitCount_0f7a4_33 rfl ?_
  refine zi_iload0 (pc := 34) hX dJ6_bitCount_0f7a4_34 ?_
  refine zi_iload0 (pc := 35) hX dJ6_bitCount_0f7a4_35 ?_
  refine zi_bipush (pc := 36) hX dJ6_bitCount_0f7a4_36 kb_8 ?_
  refine zi_iushr (pc := 38) hX dJ6_bitCount_0f7a4_38 ?_
  refine zi_iadd (pc := 39) hX dJ6_bitCount_0f7a4_39 ?_
  refine zi_bi (fun v4 => ?_)
  refine zi_istore0 (pc := 40) hX dJ6_bitCount_0f7a4_40 rfl ?_
  refine zi_iload0 (pc := 41) hX dJ6_bitCount_0f7a4_41 ?_
  refine zi_iload0 (pc := 42) hX dJ6_bitCount_0f7a4_42 ?_
  refine zi_bipush (pc := 43) hX dJ6_bitCount_0f7a4_43 kb_16 ?_
  refine zi_iushr (pc := 45) hX dJ6_bitCount_0f7a4_45 ?_
  refine zi_iadd (pc := 46) hX dJ6_bitCount_0f7a4_46 ?_
  refine zi_bi (fun v5 => ?_)
  refine zi_istore0 (pc := 47) hX dJ6_bitCount_0f7a4_47 rfl ?_
  refine zi_iload0 (pc := 48) hX dJ6_bitCount_0f7a4_48 ?_
  refine zi_bipush (pc := 49) hX dJ6_bitCount_0f7a4_49 kb_63 ?_
  refine zi_iand (pc := 51) hX dJ6_bitCount_0f7a4_51 ?_
  exact zi_ret (pc := 52) hX dJ6_bitCount_0f7a4_52 rfl rfl rfl rfl
theorem ct_Ji_bitCount {w : et_W} (hw : et_Sane w) (p0 : Int32) (g : et_G) : et_C w yJ6_bitCount_0f7a4 (Cond.code yJ6_bitCount_0f7a4 cJ6_bitCount_0f7a4 1 (some .int)) rm_Ji_bitCount et_eI [.int p0] g (fn_Ji_bitCount p0 g) := et_mk hw (by decide) rfl rfl (fun X hX => zw_Ji_bitCount hX p0 g)
def rm_Et_count : Room := { frames := 6, cells := 1, slots := 6, locals := 81 }
def fn_Et_count (p1 : Int32) (g : et_G) : Option ((Nat ⊕ Int32) × et_G) :=
  if p1 = 0 then
    some (.inr (g.1 3 2), g)
  else
  if p1 = 1 then
    some (.inr (g.1 3 3), g)
  else
  if p1 = 2 then
    some (.inr (g.1 2 1), g)
  else
  if p1 = 3 then
    some (.inr (g.1 2 3), g)
  else
  if p1 = 4 then
    some (.inr (g.1 2 5), g)
  else
  if p1 = 5 then
    some (.inr (g.1 2 11), g)
  else
  if p1 = 6 then
    some (.inr (g.1 34 0), g)
  else
  if p1 = 7 then
    some (.inr (g.1 0 1), g)
  else
  if p1 = 8 then
    some (.inr (g.1 0 15), g)
  else
  if p1 = 9 then
    some (.inr (g.1 0 16), g)
  else
  if p1 = 10 then
    some (.inr (g.1 0 17), g)
  else
  if p1 = 11 then
    et_bd (fn_Ji_bitCount (g.1 46 2) g) (fun v1 g2 =>
    some (.inr (v1), g2))
  else
  some (.inl 0, g)
theorem zw_Et_count {X : et_X} {w : et_W} (hX : et_Gd X w cX9_count RX9 2 (some .int) [] rm_Et_count) (p1 : Int32) (g : et_G) : et_Z X w 0 et_tI 0 [some (.ref (et_ad w 0)), some (.int p1)] [] g (fn_Et_count p1 g) := by
  unfold fn_Et_count
  refine zi_iload1 (pc := 0) hX dX9_count_0 ?_
  refine zi_ite (fun h0 => ?_) (fun h0 => ?_)
  · refine zi_tabI (pc := 1) 64 hX dX9_count_1 0 h0 (by decide) (by decide) rfl (by decide) ?_
    refine zi_aload0 (pc := 64) hX dX9_count_64 ?_
    refine zi_getr (q := 2) (pc := 65) hX dX9_count_65 fl_493 ly_0 rfl ?_
    refine zi_getr (q := 3) (pc := 68) hX dX9_count_68 fl_186 ly_2 rfl ?_
    refine zi_geti (pc := 71) hX dX9_count_71 fl_160 ly_3 rfl ?_
    exact zi_ret (pc := 74) hX dX9_count_74 rfl rfl rfl rfl
  refine zi_ite (fun h1 => ?_) (fun h1 => ?_)
  · refine zi_tabI (pc := 1) 75 hX dX9_count_1 1 h1 (by decide) (by decide) rfl (by decide) ?_
    refine zi_aload0 (pc := 75) hX dX9_count_75 ?_
    refine zi_getr (q := 2) (pc := 76) hX dX9_count_76 fl_493 ly_0 rfl ?_
    refine zi_getr (q := 3) (pc := 79) hX dX9_count_79 fl_186 ly_2 rfl ?_
    refine zi_geti (pc := 82) hX dX9_count_82 fl_163 ly_3 rfl ?_
    exact zi_ret (pc := 85) hX dX9_count_85 rfl rfl rfl rfl
  refine zi_ite (fun h2 => ?_) (fun h2 => ?_)
  · refine zi_tabI (pc := 1) 86 hX dX9_count_1 2 h2 (by decide) (by decide) rfl (by decide) ?_
    refine zi_aload0 (pc := 86) hX dX9_count_86 ?_
    refine zi_getr (q := 2) (pc := 87) hX dX9_count_87 fl_493 ly_0 rfl ?_
    refine zi_geti (pc := 90) hX dX9_count_90 fl_188 ly_2 rfl ?_
    exact zi_ret (pc := 93) hX dX9_count_93 rfl rfl rfl rfl
  refine zi_ite (fun h3 => ?_) (fun h3 => ?_)
  · refine zi_tabI (pc := 1) 94 hX dX9_count_1 3 h3 (by decide) (by decide) rfl (by decide) ?_
    refine zi_aload0 (pc := 94) hX dX9_count_94 ?_
    refine zi_getr (q := 2) (pc := 95) hX dX9_count_95 fl_493 ly_0 rfl ?_
    refine zi_geti (pc := 98) hX dX9_count_98 fl_193 ly_2 rfl ?_
    exact zi_ret (pc := 101) hX dX9_count_101 rfl rfl rfl rfl
  refine zi_ite (fun h4 => ?_) (fun h4 => ?_)
  · refine zi_tabI (pc := 1) 102 hX dX9_count_1 4 h4 (by decide) (by decide) rfl (by decide) ?_
    refine zi_aload0 (pc := 102) hX dX9_count_102 ?_
    refine zi_getr (q := 2) (pc := 103) hX dX9_count_103 fl_493 ly_0 rfl ?_
    refine zi_geti (pc := 106) hX dX9_count_106 fl_200 ly_2 rfl ?_
    exact zi_ret (pc := 109) hX dX9_count_109 rfl rfl rfl rfl
  refine zi_ite (fun h5 => ?_) (fun h5 => ?_)
  · refine zi_tabI (pc := 1) 110 hX dX9_count_1 5 h5 (by decide) (by decide) rfl (by decide) ?_
    refine zi_aload0 (pc := 110) hX dX9_count_110 ?_
    refine zi_getr (q := 2) (pc := 111) hX dX9_count_111 fl_493 ly_0 rfl ?_
    refine zi_geti (pc := 114) hX dX9_count_114 fl_220 ly_2 rfl ?_
    exact zi_ret (pc := 117) hX dX9_count_117 rfl rfl rfl rfl
  refine zi_ite (fun h6 => ?_) (fun h6 => ?_)
  · refine zi_tabI (pc := 1) 118 hX dX9_count_1 6 h6 (by decide) (by decide) rfl (by decide) ?_
    refine zi_aload0 (pc := 118) hX dX9_count_118 ?_
    refine zi_getr (q := 34) (pc := 119) hX dX9_count_119 fl_498 ly_0 rfl ?_
    refine zi_geti (pc := 122) hX dX9_count_122 fl_360 ly_34 rfl ?_
    exact zi_ret (pc := 125) hX dX9_count_125 rfl rfl rfl rfl
  refine zi_ite (fun h7 => ?_) (fun h7 => ?_)
  · refine zi_tabI (pc := 1) 126 hX dX9_count_1 7 h7 (by decide) (by decide) rfl (by decide) ?_
    refine zi_aload0 (pc := 126) hX dX9_count_126 ?_
    refine zi_geti (pc := 127) hX dX9_count_127 fl_492 ly_0 rfl ?_
    exact zi_ret (pc := 130) hX dX9_count_130 rfl rfl rfl rfl
  refine zi_ite (fun h8 => ?_) (fun h8 => ?_)
  · refine zi_tabI (pc := 1) 131 hX dX9_count_1 8 h8 (by decide) (by decide) rfl (by decide) ?_
    refine zi_aload0 (pc := 131) hX dX9_count_131 ?_
    refine zi_geti (pc := 132) hX dX9_count_132 fl_506 ly_0 rfl ?_
    exact zi_ret (pc := 135) hX dX9_count_135 rfl rfl rfl rfl
  refine zi_ite (fun h9 => ?_) (fun h9 => ?_)
  · refine zi_tabI (pc := 1) 136 hX dX9_count_1 9 h9 (by decide) (by decide) rfl (by decide) ?_
    refine zi_aload0 (pc := 136) hX dX9_count_136 ?_
    refine zi_geti (pc := 137) hX dX9_count_137 fl_507 ly_0 rfl ?_
    exact zi_ret (pc := 140) hX dX9_count_140 rfl rfl rfl rfl
  refine zi_ite (fun h10 => ?_) (fun h10 => ?_)
  · refine zi_tabI (pc := 1) 141 hX dX9_count_1 10 h10 (by decide) (by decide) rfl (by decide) ?_
    refine zi_aload0 (pc := 141) hX dX9_count_141 ?_
    refine zi_geti (pc := 142) hX dX9_count_142 fl_508 ly_0 rfl ?_
    exact zi_ret (pc := 145) hX dX9_count_145 rfl rfl rfl rfl
  refine zi_ite (fun h11 => ?_) (fun h11 => ?_)
  · refine zi_tabI (pc := 1) 146 hX dX9_count_1 11 h11 (by decide) (by decide) rfl (by decide) ?_
    refine zi_aload0 (pc := 146) hX dX9_count_146 ?_
    refine zi_getr (q := 46) (pc := 147) hX dX9_count_147 fl_500 ly_0 rfl ?_
    refine zi_geti (pc := 150) hX dX9_count_150 fl_401 ly_46 rfl ?_
    refine zi_callI (zc_stat (pc := 153) hX dX9_count_153 tm_1008 md_J6_bitCount_0f7a4 st_J6_bitCount_0f7a4 (ct_Ji_bitCount hX.sane (g.1 46 2) g) rfl rfl rfl) (fun v1 g2 => ?_)
    exact zi_ret (pc := 156) hX dX9_count_156 rfl rfl rfl rfl
  refine zi_tabO (pc := 1) 157 hX dX9_count_1 (et_out0_11 h0 h1 h2 h3 h4 h5 h6 h7 h8 h9 h10 h11) (by decide) ?_
  exact zi_thr (pc := 157) hX dX9_count_157 dX9_count_160 dX9_count_161 dX9_count_164 th_0 rfl rfl rfl rfl rfl
theorem ct_Et_count {w : et_W} (hw : et_Sane w) (p1 : Int32) (g : et_G) : et_C w yX9_count (Cond.code yX9_count cX9_count 2 (some .int)) rm_Et_count et_tI [.ref (et_ad w 0), .int p1] g (fn_Et_count p1 g) := et_mk hw (by decide) rfl rfl (fun X hX => zw_Et_count hX p1 g)
def rm_Et_fault : Room := { frames := 0, cells := 0, slots := 0, locals := 0 }
def fn_Et_fault (g : et_G) : Option (Int32 × et_G) :=
  some (g.1 0 14, g)
theorem zw_Et_fault {X : et_X} {w : et_W} (hX : et_Gd X w cX9_fault RX9 1 (some .int) [] rm_Et_fault) (g : et_G) : et_Z X w 0 et_eI 0 [some (.ref (et_ad w 0))] [] g (fn_Et_fault g) := by
  unfold fn_Et_fault
  refine zi_aload0 (pc := 0) hX dX9_fault_0 ?_
  refine zi_geti (pc := 1) hX dX9_fault_1 fl_505 ly_0 rfl ?_
  exact zi_ret (pc := 4) hX dX9_fault_4 rfl rfl rfl rfl
theorem ct_Et_fault {w : et_W} (hw : et_Sane w) (g : et_G) : et_C w yX9_fault (Cond.code yX9_fault cX9_fault 1 (some .int)) rm_Et_fault et_eI [.ref (et_ad w 0)] g (fn_Et_fault g) := et_mk hw (by decide) rfl rfl (fun X hX => zw_Et_fault hX g)
def rm_Et_putBytes : Room := { frames := 0, cells := 0, slots := 0, locals := 0 }
def fn_Et_putBytes_3 (x1 : Int32) : Nat → Int32 → et_G → Option (Unit × et_G)
  | 0, _, _ => none
  | n + 1, x2, g =>
    if x2 < 0 then
      some ((), g)
    else
      if (800 : Int32) ≤ (g.1 0 1) then
        et_b (x2 + (-8 : Int32)) (fun v1 =>
        fn_Et_putBytes_3 x1 n v1 g)
      else
        et_ck (et_ib (g.1 0 1) 800) (et_b (et_si g 1 (g.1 0 1).toNatClampNeg (vp_nar .byte ((et_us x1 x2).toInt8.toInt32))) (fun g2 =>
        et_b (et_si g2 0 1 ((g2.1 0 1) + (1 : Int32))) (fun g3 =>
        et_b (x2 + (-8 : Int32)) (fun v4 =>
        fn_Et_putBytes_3 x1 n v4 g3))))
def fn_Et_putBytes (p1 : Int32) (g : et_G) : Option (Unit × et_G) :=
  fn_Et_putBytes_3 p1 1000000 (24 : Int32) g
theorem zp_Et_putBytes_3 {X : et_X} {w : et_W} (hX : et_Gd X w cX9_putBytes RX9 3 (none) [] rm_Et_putBytes) (x1 : Int32) : ∀ (n : Nat) (x2 : Int32) (g : et_G), et_Z X w 0 et_eU 3 [some (.ref (et_ad w 0)), some (.int x1), some (.int x2)] [] g (fn_Et_putBytes_3 x1 n x2 g) := by
  intro n
  induction n with
  | zero =>
    intro x2 g a g2 h
    cases h
  | succ n ih =>
    intro x2 g
    rw [fn_Et_putBytes_3]
    refine zi_iload2 (pc := 3) hX dX9_putBytes_3 ?_
    refine zi_if_lt (pc := 4) 48 hX dX9_putBytes_4 (by decide) (fun _ => ?_) (fun _ => ?_)
    · exact zi_vret (pc := 48) hX dX9_putBytes_48 rfl rfl rfl
    · refine zi_aload0 (pc := 7) hX dX9_putBytes_7 ?_
      refine zi_geti (pc := 8) hX dX9_putBytes_8 fl_492 ly_0 rfl ?_
      refine zi_aload0 (pc := 11) hX dX9_putBytes_11 ?_
      refine zi_getr (q := 1) (pc := 12) hX dX9_putBytes_12 fl_491 ly_0 rfl ?_
      refine zi_alen (pc := 15) hX dX9_putBytes_15 ly_1 1 (et_t1 w) ka_800 ?_
      refine zi_icmp_ge (pc := 16) 42 hX dX9_putBytes_16 (by decide) (fun _ => ?_) (fun _ => ?_)
      · refine zi_iincb2 (pc := 42) hX dX9_putBytes_42 (kn_m8 _) rfl rfl (fun v1 => ?_)
        refine zi_goto (pc := 45) 3 hX dX9_putBytes_45 (by decide) ?_
        exact ih v1 g
      · refine zi_aload0 (pc := 19) hX dX9_putBytes_19 ?_
        refine zi_getr (q := 1) (pc := 20) hX dX9_putBytes_20 fl_491 ly_0 rfl ?_
        refine zi_aload0 (pc := 23) hX dX9_putBytes_23 ?_
        refine zi_geti (pc := 24) hX dX9_putBytes_24 fl_492 ly_0 rfl ?_
        refine zi_iload1 (pc := 27) hX dX9_putBytes_27 ?_
        refine zi_iload2 (pc := 28) hX dX9_putBytes_28 ?_
        refine zi_iushr (pc := 29) hX dX9_putBytes_29 ?_
        refine zi_i2b (pc := 30) hX dX9_putBytes_30 ?_
        refine zi_bast (pc := 31) hX dX9_putBytes_31 ly_1 (zi_bg (fun g2 => ?_))
        refine zi_aload0 (pc := 32) hX dX9_putBytes_32 ?_
        refine zi_dup (pc := 33) hX dX9_putBytes_33 rfl ?_
        refine zi_geti (pc := 34) hX dX9_putBytes_34 fl_492 ly_0 rfl ?_
        refine zi_iconst (pc := 37) hX dX9_putBytes_37 ki_1 ?_
        refine zi_iadd (pc := 38) hX dX9_putBytes_38 ?_
        refine zi_puti (pc := 39) hX dX9_putBytes_39 fl_492 ly_0 rfl rfl rfl (zi_bg (fun g3 => ?_))
        refine zi_iincb2 (pc := 42) hX dX9_putBytes_42 (kn_m8 _) rfl rfl (fun v4 => ?_)
        refine zi_goto (pc := 45) 3 hX dX9_putBytes_45 (by decide) ?_
        exact ih v4 g3
theorem zw_Et_putBytes {X : et_X} {w : et_W} (hX : et_Gd X w cX9_putBytes RX9 3 (none) [] rm_Et_putBytes) (p1 : Int32) (g : et_G) : et_Z X w 0 et_eU 0 [some (.ref (et_ad w 0)), some (.int p1), none] [] g (fn_Et_putBytes p1 g) := by
  unfold fn_Et_putBytes
  refine zi_bipush (pc := 0) hX dX9_putBytes_0 kb_24 ?_
  refine zi_istore2 (pc := 2) hX dX9_putBytes_2 rfl rfl ?_
  exact zp_Et_putBytes_3 hX p1 1000000 (24 : Int32) g
theorem ct_Et_putBytes {w : et_W} (hw : et_Sane w) (p1 : Int32) (g : et_G) : et_C w yX9_putBytes (Cond.code yX9_putBytes cX9_putBytes 3 (none)) rm_Et_putBytes et_eU [.ref (et_ad w 0), .int p1] g (fn_Et_putBytes p1 g) := et_mk hw (by decide) rfl rfl (fun X hX => zw_Et_putBytes hX p1 g)
def rm_Et_feed : Room := { frames := 1, cells := 0, slots := 0, locals := 22 }
def fn_Et_feed (p1 : Int32) (p2 : Int32) (p3 : Int32) (p4 : Int32) (p5 : Int32) (g : et_G) : Option (Int32 × et_G) :=
  if ((g.1 0 1) + (20 : Int32)) ≤ (800 : Int32) then
    et_bd (fn_Et_putBytes p1 g) (fun _ g2 =>
    et_bd (fn_Et_putBytes p2 g2) (fun _ g4 =>
    et_bd (fn_Et_putBytes p3 g4) (fun _ g6 =>
    et_bd (fn_Et_putBytes p4 g6) (fun _ g8 =>
    et_bd (fn_Et_putBytes p5 g8) (fun _ g10 =>
    some (g10.1 0 1, g10))))))
  else
    some ((-1 : Int32), g)
theorem zw_Et_feed {X : et_X} {w : et_W} (hX : et_Gd X w cX9_feed RX9 6 (some .int) [] rm_Et_feed) (p1 : Int32) (p2 : Int32) (p3 : Int32) (p4 : Int32) (p5 : Int32) (g : et_G) : et_Z X w 0 et_eI 0 [some (.ref (et_ad w 0)), some (.int p1), some (.int p2), some (.int p3), some (.int p4), some (.int p5)] [] g (fn_Et_feed p1 p2 p3 p4 p5 g) := by
  unfold fn_Et_feed
  refine zi_aload0 (pc := 0) hX dX9_feed_0 ?_
  refine zi_geti (pc := 1) hX dX9_feed_1 fl_492 ly_0 rfl ?_
  refine zi_bipush (pc := 4) hX dX9_feed_4 kb_20 ?_
  refine zi_iadd (pc := 6) hX dX9_feed_6 ?_
  refine zi_sipush (pc := 7) hX dX9_feed_7 ks_800 ?_
  refine zi_icmp_le (pc := 10) 15 hX dX9_feed_10 (by decide) (fun _ => ?_) (fun _ => ?_)
  · refine zi_aload0 (pc := 15) hX dX9_feed_15 ?_
    refine zi_iload1 (pc := 16) hX dX9_feed_16 ?_
    refine zi_callU (zc_virt (pc := 17) hX dX9_feed_17 tm_550 md_X9_putBytes mi_X9_putBytes ly_0 (ct_Et_putBytes hX.sane p1 g) rfl rfl rfl) (fun g2 => ?_)
    refine zi_aload0 (pc := 20) hX dX9_feed_20 ?_
    refine zi_iload2 (pc := 21) hX dX9_feed_21 ?_
    refine zi_callU (zc_virt (pc := 22) hX dX9_feed_22 tm_550 md_X9_putBytes mi_X9_putBytes ly_0 (ct_Et_putBytes hX.sane p2 g2) rfl rfl rfl) (fun g4 => ?_)
    refine zi_aload0 (pc := 25) hX dX9_feed_25 ?_
    refine zi_iload3 (pc := 26) hX dX9_feed_26 ?_
    refine zi_callU (zc_virt (pc := 27) hX dX9_feed_27 tm_550 md_X9_putBytes mi_X9_putBytes ly_0 (ct_Et_putBytes hX.sane p3 g4) rfl rfl rfl) (fun g6 => ?_)
    refine zi_aload0 (pc := 30) hX dX9_feed_30 ?_
    refine zi_iload4 (pc := 31) hX dX9_feed_31 ?_
    refine zi_callU (zc_virt (pc := 33) hX dX9_feed_33 tm_550 md_X9_putBytes mi_X9_putBytes ly_0 (ct_Et_putBytes hX.sane p4 g6) rfl rfl rfl) (fun g8 => ?_)
    refine zi_aload0 (pc := 36) hX dX9_feed_36 ?_
    refine zi_iload5 (pc := 37) hX dX9_feed_37 ?_
    refine zi_callU (zc_virt (pc := 39) hX dX9_feed_39 tm_550 md_X9_putBytes mi_X9_putBytes ly_0 (ct_Et_putBytes hX.sane p5 g8) rfl rfl rfl) (fun g10 => ?_)
    refine zi_aload0 (pc := 42) hX dX9_feed_42 ?_
    refine zi_geti (pc := 43) hX dX9_feed_43 fl_492 ly_0 rfl ?_
    exact zi_ret (pc := 46) hX dX9_feed_46 rfl rfl rfl rfl
  · refine zi_iconst (pc := 13) hX dX9_feed_13 ki_m1 ?_
    exact zi_ret (pc := 14) hX dX9_feed_14 rfl rfl rfl rfl
theorem ct_Et_feed {w : et_W} (hw : et_Sane w) (p1 : Int32) (p2 : Int32) (p3 : Int32) (p4 : Int32) (p5 : Int32) (g : et_G) : et_C w yX9_feed (Cond.code yX9_feed cX9_feed 6 (some .int)) rm_Et_feed et_eI [.ref (et_ad w 0), .int p1, .int p2, .int p3, .int p4, .int p5] g (fn_Et_feed p1 p2 p3 p4 p5 g) := et_mk hw (by decide) rfl rfl (fun X hX => zw_Et_feed hX p1 p2 p3 p4 p5 g)
def rm_Le_copyFrom_40 : Room := { frames := 1, cells := 0, slots := 0, locals := 18 }
def fn_Le_copyFrom_40_82 : Nat → Int32 → et_G → Option (Unit × et_G)
  | 0, _, _ => none
  | n + 1, x2, g =>
    if (20 : Int32) ≤ x2 then
      some ((), g)
    else
      et_ck (et_ib x2 20) (
      et_ck (et_ib x2 20) (et_b (et_si g 45 x2.toNatClampNeg (vp_nar .boolean (g.1 39 x2.toNatClampNeg))) (fun g6 =>
      et_b (x2 + (1 : Int32)) (fun v7 =>
      fn_Le_copyFrom_40_82 n v7 g6))))
def fn_Le_copyFrom_40 (g : et_G) : Option (Unit × et_G) :=
  et_b (et_si g 40 0 (g.1 34 0)) (fun g1 =>
  et_ck (et_cc (0 : Int32) (0 : Int32) (20 : Int32) 20 20) (et_b (et_cp g1 35 41 (0 : Int32).toNatClampNeg (0 : Int32).toNatClampNeg (20 : Int32).toNatClampNeg) (fun g2 =>
  et_ck (et_cc (0 : Int32) (0 : Int32) (20 : Int32) 20 20) (et_b (et_cp g2 36 42 (0 : Int32).toNatClampNeg (0 : Int32).toNatClampNeg (20 : Int32).toNatClampNeg) (fun g3 =>
  et_ck (et_cc (0 : Int32) (0 : Int32) (20 : Int32) 20 20) (et_b (et_cp g3 37 43 (0 : Int32).toNatClampNeg (0 : Int32).toNatClampNeg (20 : Int32).toNatClampNeg) (fun g4 =>
  et_ck (et_cc (0 : Int32) (0 : Int32) (20 : Int32) 20 20) (et_b (et_cp g4 38 44 (0 : Int32).toNatClampNeg (0 : Int32).toNatClampNeg (20 : Int32).toNatClampNeg) (fun g5 =>
  fn_Le_copyFrom_40_82 1000000 (0 : Int32) g5)))))))))
theorem zp_Le_copyFrom_40_82 {X : et_X} {w : et_W} (hX : et_Gd X w cX1_copyFrom RX1 3 (none) [] rm_Le_copyFrom_40) : ∀ (n : Nat) (x2 : Int32) (g : et_G), et_Z X w 0 et_eU 82 [some (.ref (et_ad w 40)), some (.ref (et_ad w 34)), some (.int x2)] [] g (fn_Le_copyFrom_40_82 n x2 g) := by
  intro n
  induction n with
  | zero =>
    intro x2 g a g2 h
    cases h
  | succ n ih =>
    intro x2 g
    rw [fn_Le_copyFrom_40_82]
    refine zi_iload2 (pc := 82) hX dX1_copyFrom_82 ?_
    refine zi_aload0 (pc := 83) hX dX1_copyFrom_83 ?_
    refine zi_getr (q := 45) (pc := 84) hX dX1_copyFrom_84 fl_375 ly_40 rfl ?_
    refine zi_alen (pc := 87) hX dX1_copyFrom_87 ly_45 2 (et_t2 w) ka_20 ?_
    refine zi_icmp_ge (pc := 88) 109 hX dX1_copyFrom_88 (by decide) (fun _ => ?_) (fun _ => ?_)
    · exact zi_vret (pc := 109) hX dX1_copyFrom_109 rfl rfl rfl
    · refine zi_aload0 (pc := 91) hX dX1_copyFrom_91 ?_
      refine zi_getr (q := 45) (pc := 92) hX dX1_copyFrom_92 fl_375 ly_40 rfl ?_
      refine zi_iload2 (pc := 95) hX dX1_copyFrom_95 ?_
      refine zi_aload1 (pc := 96) hX dX1_copyFrom_96 ?_
      refine zi_getr (q := 39) (pc := 97) hX dX1_copyFrom_97 fl_375 ly_34 rfl ?_
      refine zi_iload2 (pc := 100) hX dX1_copyFrom_100 ?_
      refine zi_zald (pc := 101) hX dX1_copyFrom_101 ly_39 ?_
      refine zi_zast (pc := 102) hX dX1_copyFrom_102 ly_45 (zi_bg (fun g6 => ?_))
      refine zi_iincb2 (pc := 103) hX dX1_copyFrom_103 (kn_1 _) rfl rfl (fun v7 => ?_)
      refine zi_goto (pc := 106) 82 hX dX1_copyFrom_106 (by decide) ?_
      exact ih v7 g6
theorem zw_Le_copyFrom_40 {X : et_X} {w : et_W} (hX : et_Gd X w cX1_copyFrom RX1 3 (none) [] rm_Le_copyFrom_40) (g : et_G) : et_Z X w 0 et_eU 0 [some (.ref (et_ad w 40)), some (.ref (et_ad w 34)), none] [] g (fn_Le_copyFrom_40 g) := by
  unfold fn_Le_copyFrom_40
  refine zi_aload0 (pc := 0) hX dX1_copyFrom_0 ?_
  refine zi_aload1 (pc := 1) hX dX1_copyFrom_1 ?_
  refine zi_geti (pc := 2) hX dX1_copyFrom_2 fl_358 ly_34 rfl ?_
  refine zi_puti (pc := 5) hX dX1_copyFrom_5 fl_358 ly_40 rfl rfl rfl (zi_bg (fun g1 => ?_))
  refine zi_aload1 (pc := 8) hX dX1_copyFrom_8 ?_
  refine zi_getr (q := 35) (pc := 9) hX dX1_copyFrom_9 fl_362 ly_34 rfl ?_
  refine zi_iconst (pc := 12) hX dX1_copyFrom_12 ki_0 ?_
  refine zi_aload0 (pc := 13) hX dX1_copyFrom_13 ?_
  refine zi_getr (q := 41) (pc := 14) hX dX1_copyFrom_14 fl_362 ly_40 rfl ?_
  refine zi_iconst (pc := 17) hX dX1_copyFrom_17 ki_0 ?_
  refine zi_aload0 (pc := 18) hX dX1_copyFrom_18 ?_
  refine zi_getr (q := 41) (pc := 19) hX dX1_copyFrom_19 fl_362 ly_40 rfl ?_
  refine zi_alen (pc := 22) hX dX1_copyFrom_22 ly_41 0 (et_t0 w) ka_20 ?_
  refine zi_cpi (pc := 23) hX dX1_copyFrom_23 tm_688 ly_35 ly_41 rfl rfl (zi_bg (fun g2 => ?_))
  refine zi_aload1 (pc := 26) hX dX1_copyFrom_26 ?_
  refine zi_getr (q := 36) (pc := 27) hX dX1_copyFrom_27 fl_365 ly_34 rfl ?_
  refine zi_iconst (pc := 30) hX dX1_copyFrom_30 ki_0 ?_
  refine zi_aload0 (pc := 31) hX dX1_copyFrom_31 ?_
  refine zi_getr (q := 42) (pc := 32) hX dX1_copyFrom_32 fl_365 ly_40 rfl ?_
  refine zi_iconst (pc := 35) hX dX1_copyFrom_35 ki_0 ?_
  refine zi_aload0 (pc := 36) hX dX1_copyFrom_36 ?_
  refine zi_getr (q := 42) (pc := 37) hX dX1_copyFrom_37 fl_365 ly_40 rfl ?_
  refine zi_alen (pc := 40) hX dX1_copyFrom_40 ly_42 0 (et_t0 w) ka_20 ?_
  refine zi_cpi (pc := 41) hX dX1_copyFrom_41 tm_688 ly_36 ly_42 rfl rfl (zi_bg (fun g3 => ?_))
  refine zi_aload1 (pc := 44) hX dX1_copyFrom_44 ?_
  refine zi_getr (q := 37) (pc := 45) hX dX1_copyFrom_45 fl_368 ly_34 rfl ?_
  refine zi_iconst (pc := 48) hX dX1_copyFrom_48 ki_0 ?_
  refine zi_aload0 (pc := 49) hX dX1_copyFrom_49 ?_
  refine zi_getr (q := 43) (pc := 50) hX dX1_copyFrom_50 fl_368 ly_40 rfl ?_
  refine zi_iconst (pc := 53) hX dX1_copyFrom_53 ki_0 ?_
  refine zi_aload0 (pc := 54) hX dX1_copyFrom_54 ?_
  refine zi_getr (q := 43) (pc := 55) hX dX1_copyFrom_55 fl_368 ly_40 rfl ?_
  refine zi_alen (pc := 58) hX dX1_copyFrom_58 ly_43 0 (et_t0 w) ka_20 ?_
  refine zi_cpi (pc := 59) hX dX1_copyFrom_59 tm_688 ly_37 ly_43 rfl rfl (zi_bg (fun g4 => ?_))
  refine zi_aload1 (pc := 62) hX dX1_copyFrom_62 ?_
  refine zi_getr (q := 38) (pc := 63) hX dX1_copyFrom_63 fl_371 ly_34 rfl ?_
  refine zi_iconst (pc := 66) hX dX1_copyFrom_66 ki_0 ?_
  refine zi_aload0 (pc := 67) hX dX1_copyFrom_67 ?_
  refine zi_getr (q := 44) (pc := 68) hX dX1_copyFrom_68 fl_371 ly_40 rfl ?_
  refine zi_iconst (pc := 71) hX dX1_copyFrom_71 ki_0 ?_
  refine zi_aload0 (pc := 72) hX dX1_copyFrom_72 ?_
  refine zi_getr (q := 44) (pc := 73) hX dX1_copyFrom_73 fl_371 ly_40 rfl ?_
  refine zi_alen (pc := 76) hX dX1_copyFrom_76 ly_44 0 (et_t0 w) ka_20 ?_
  refine zi_cpi (pc := 77) hX dX1_copyFrom_77 tm_688 ly_38 ly_44 rfl rfl (zi_bg (fun g5 => ?_))
  refine zi_iconst (pc := 80) hX dX1_copyFrom_80 ki_0 ?_
  refine zi_istore2 (pc := 81) hX dX1_copyFrom_81 rfl rfl ?_
  exact zp_Le_copyFrom_40_82 hX 1000000 (0 : Int32) g5
theorem ct_Le_copyFrom_40 {w : et_W} (hw : et_Sane w) (g : et_G) : et_C w yX1_copyFrom (Cond.code yX1_copyFrom cX1_copyFrom 3 (none)) rm_Le_copyFrom_40 et_eU [.ref (et_ad w 40), .ref (et_ad w 34)] g (fn_Le_copyFrom_40 g) := et_mk hw (by decide) rfl rfl (fun X hX => zw_Le_copyFrom_40 hX g)
def rm_Mi_copyFrom_47 : Room := { frames := 0, cells := 0, slots := 0, locals := 0 }
def fn_Mi_copyFrom_47 (g : et_G) : Option (Unit × et_G) :=
  et_b (et_si g 47 1 (g.1 46 1)) (fun g1 =>
  et_b (et_si g1 47 2 (g1.1 46 2)) (fun g2 =>
  some ((), g2)))
theorem zw_Mi_copyFrom_47 {X : et_X} {w : et_W} (hX : et_Gd X w cX3_copyFrom RX3 2 (none) [] rm_Mi_copyFrom_47) (g : et_G) : et_Z X w 0 et_eU 0 [some (.ref (et_ad w 47)), some (.ref (et_ad w 46))] [] g (fn_Mi_copyFrom_47 g) := by
  unfold fn_Mi_copyFrom_47
  refine zi_aload0 (pc := 0) hX dX3_copyFrom_0 ?_
  refine zi_aload1 (pc := 1) hX dX3_copyFrom_1 ?_
  refine zi_geti (pc := 2) hX dX3_copyFrom_2 fl_399 ly_46 rfl ?_
  refine zi_puti (pc := 5) hX dX3_copyFrom_5 fl_399 ly_47 rfl rfl rfl (zi_bg (fun g1 => ?_))
  refine zi_aload0 (pc := 8) hX dX3_copyFrom_8 ?_
  refine zi_aload1 (pc := 9) hX dX3_copyFrom_9 ?_
  refine zi_geti (pc := 10) hX dX3_copyFrom_10 fl_400 ly_46 rfl ?_
  refine zi_puti (pc := 13) hX dX3_copyFrom_13 fl_400 ly_47 rfl rfl rfl (zi_bg (fun g2 => ?_))
  exact zi_vret (pc := 16) hX dX3_copyFrom_16 rfl rfl rfl
theorem ct_Mi_copyFrom_47 {w : et_W} (hw : et_Sane w) (g : et_G) : et_C w yX3_copyFrom (Cond.code yX3_copyFrom cX3_copyFrom 2 (none)) rm_Mi_copyFrom_47 et_eU [.ref (et_ad w 47), .ref (et_ad w 46)] g (fn_Mi_copyFrom_47 g) := et_mk hw (by decide) rfl rfl (fun X hX => zw_Mi_copyFrom_47 hX g)
def rm_Et_image : Room := { frames := 2, cells := 0, slots := 0, locals := 40 }
def fn_Et_image (g : et_G) : Option (Unit × et_G) :=
  et_bd (fn_Le_copyFrom_40 g) (fun _ g2 =>
  et_bd (fn_Mi_copyFrom_47 g2) (fun _ g4 =>
  et_b (et_si g4 0 11 (1 : Int32)) (fun g5 =>
  some ((), g5))))
theorem zw_Et_image {X : et_X} {w : et_W} (hX : et_Gd X w cX9_image RX9 1 (none) [] rm_Et_image) (g : et_G) : et_Z X w 0 et_eU 0 [some (.ref (et_ad w 0))] [] g (fn_Et_image g) := by
  unfold fn_Et_image
  refine zi_aload0 (pc := 0) hX dX9_image_0 ?_
  refine zi_getr (q := 40) (pc := 1) hX dX9_image_1 fl_499 ly_0 rfl ?_
  refine zi_aload0 (pc := 4) hX dX9_image_4 ?_
  refine zi_getr (q := 34) (pc := 5) hX dX9_image_5 fl_498 ly_0 rfl ?_
  refine zi_callU (zc_virt (pc := 8) hX dX9_image_8 tm_684 md_X1_copyFrom mi_X1_copyFrom ly_40 (ct_Le_copyFrom_40 hX.sane g) rfl rfl rfl) (fun g2 => ?_)
  refine zi_aload0 (pc := 11) hX dX9_image_11 ?_
  refine zi_getr (q := 47) (pc := 12) hX dX9_image_12 fl_501 ly_0 rfl ?_
  refine zi_aload0 (pc := 15) hX dX9_image_15 ?_
  refine zi_getr (q := 46) (pc := 16) hX dX9_image_16 fl_500 ly_0 rfl ?_
  refine zi_callU (zc_virt (pc := 19) hX dX9_image_19 tm_691 md_X3_copyFrom mi_X3_copyFrom ly_47 (ct_Mi_copyFrom_47 hX.sane g2) rfl rfl rfl) (fun g4 => ?_)
  refine zi_aload0 (pc := 22) hX dX9_image_22 ?_
  refine zi_iconst (pc := 23) hX dX9_image_23 ki_1 ?_
  refine zi_puti (pc := 24) hX dX9_image_24 fl_502 ly_0 rfl et_z1 et_f1 (zi_bg (fun g5 => ?_))
  exact zi_vret (pc := 27) hX dX9_image_27 rfl rfl rfl
theorem ct_Et_image {w : et_W} (hw : et_Sane w) (g : et_G) : et_C w yX9_image (Cond.code yX9_image cX9_image 1 (none)) rm_Et_image et_eU [.ref (et_ad w 0)] g (fn_Et_image g) := et_mk hw (by decide) rfl rfl (fun X hX => zw_Et_image hX g)
def rm_Mi_slot : Room := { frames := 1, cells := 0, slots := 0, locals := 20 }
def fn_Mi_slot (p1 : Int32) (g : et_G) : Option (Int32 × et_G) :=
  et_bd (fn_Ji_bitCount ((g.1 46 1) &&& (((1 : Int32) <<< (p1 &&& 31)) - (1 : Int32))) g) (fun v1 g2 =>
  some (v1, g2))
theorem zw_Mi_slot {X : et_X} {w : et_W} (hX : et_Gd X w cX3_slot RX3 2 (some .int) [] rm_Mi_slot) (p1 : Int32) (g : et_G) : et_Z X w 0 et_eI 0 [some (.ref (et_ad w 46)), some (.int p1)] [] g (fn_Mi_slot p1 g) := by
  unfold fn_Mi_slot
  refine zi_aload0 (pc := 0) hX dX3_slot_0 ?_
  refine zi_geti (pc := 1) hX dX3_slot_1 fl_399 ly_46 rfl ?_
  refine zi_iconst (pc := 4) hX dX3_slot_4 ki_1 ?_
  refine zi_iload1 (pc := 5) hX dX3_slot_5 ?_
  refine zi_ishl (pc := 6) hX dX3_slot_6 ?_
  refine zi_iconst (pc := 7) hX dX3_slot_7 ki_1 ?_
  refine zi_isub (pc := 8) hX dX3_slot_8 ?_
  refine zi_iand (pc := 9) hX dX3_slot_9 ?_
  refine zi_callI (zc_stat (pc := 10) hX dX3_slot_10 tm_1289 md_J6_bitCount_0f7a4 st_J6_bitCount_0f7a4 (ct_Ji_bitCount hX.sane ((g.1 46 1) &&& (((1 : Int32) <<< (p1 &&& 31)) - (1 : Int32))) g) rfl rfl rfl) (fun v1 g2 => ?_)
  exact zi_ret (pc := 13) hX dX3_slot_13 rfl rfl rfl rfl
theorem ct_Mi_slot {w : et_W} (hw : et_Sane w) (p1 : Int32) (g : et_G) : et_C w yX3_slot (Cond.code yX3_slot cX3_slot 2 (some .int)) rm_Mi_slot et_eI [.ref (et_ad w 46), .int p1] g (fn_Mi_slot p1 g) := et_mk hw (by decide) rfl rfl (fun X hX => zw_Mi_slot hX p1 g)
def rm_Mi_worldsWith : Room := { frames := 2, cells := 0, slots := 0, locals := 41 }
def fn_Mi_worldsWith_44 (x4 : Int32) (g : et_G) : Option (Int32 × et_G) :=
  some (x4 &&& (g.1 46 2), g)
def fn_Mi_worldsWith_12 (x2 : Int32) (x3 : Int32) : Nat → Int32 → Int32 → et_G → Option (Int32 × et_G)
  | 0, _, _, _ => none
  | n + 1, x4, x5, g =>
    if (16 : Int32) ≤ x5 then
      fn_Mi_worldsWith_44 x4 g
    else
      et_bd (fn_Et_hasBit x5 x3 g) (fun v3 g4 =>
      if v3 = x2 then
        et_b (x5 + (1 : Int32)) (fun v5 =>
        fn_Mi_worldsWith_12 x2 x3 n x4 v5 g4)
      else
        et_b (x4 ||| ((1 : Int32) <<< (x5 &&& 31))) (fun v6 =>
        et_b (x5 + (1 : Int32)) (fun v7 =>
        fn_Mi_worldsWith_12 x2 x3 n v6 v7 g4)))
def fn_Mi_worldsWith (p1 : Int32) (p2 : Int32) (g : et_G) : Option (Int32 × et_G) :=
  et_bd (fn_Mi_slot p1 g) (fun v1 g2 =>
  fn_Mi_worldsWith_12 p2 v1 1000000 (0 : Int32) (0 : Int32) g2)
theorem zp_Mi_worldsWith_44 {X : et_X} {w : et_W} (hX : et_Gd X w cX3_worldsWith RX3 6 (some .int) [] rm_Mi_worldsWith) (x4 : Int32) (g : et_G) : et_Z X w 0 et_eI 44 [some (.ref (et_ad w 46)), none, none, none, some (.int x4), none] [] g (fn_Mi_worldsWith_44 x4 g) := by
  unfold fn_Mi_worldsWith_44
  refine zi_iload4 (pc := 44) hX dX3_worldsWith_44 ?_
  refine zi_aload0 (pc := 46) hX dX3_worldsWith_46 ?_
  refine zi_geti (pc := 47) hX dX3_worldsWith_47 fl_400 ly_46 rfl ?_
  refine zi_iand (pc := 50) hX dX3_worldsWith_50 ?_
  exact zi_ret (pc := 51) hX dX3_worldsWith_51 rfl rfl rfl rfl
theorem zp_Mi_worldsWith_12 {X : et_X} {w : et_W} (hX : et_Gd X w cX3_worldsWith RX3 6 (some .int) [] rm_Mi_worldsWith) (x2 : Int32) (x3 : Int32) : ∀ (n : Nat) (x4 : Int32) (x5 : Int32) (g : et_G), et_Z X w 0 et_eI 12 [some (.ref (et_ad w 46)), none, some (.int x2), some (.int x3), some (.int x4), some (.int x5)] [] g (fn_Mi_worldsWith_12 x2 x3 n x4 x5 g) := by
  intro n
  induction n with
  | zero =>
    intro x4 x5 g a g2 h
    cases h
  | succ n ih =>
    intro x4 x5 g
    rw [fn_Mi_worldsWith_12]
    refine zi_iload5 (pc := 12) hX dX3_worldsWith_12 ?_
    refine zi_bipush (pc := 14) hX dX3_worldsWith_14 kb_16 ?_
    refine zi_icmp_ge (pc := 16) 44 hX dX3_worldsWith_16 (by decide) (fun _ => ?_) (fun _ => ?_)
    · refine zi_drop (le_s (le_s (le_n (le_n (le_s (le_n le_nil)))))) ?_; exact zp_Mi_worldsWith_44 hX x4 g
    · refine zi_iload5 (pc := 19) hX dX3_worldsWith_19 ?_
      refine zi_iload3 (pc := 21) hX dX3_worldsWith_21 ?_
      refine zi_callI (zc_nest (pc := 22) hX dX3_worldsWith_22 nl_1301 md_X9_hasBit st_X9_hasBit (ct_Et_hasBit hX.sane x5 x3 g) rfl rfl rfl) (fun v3 g4 => ?_)
      refine zi_iload2 (pc := 25) hX dX3_worldsWith_25 ?_
      refine zi_icmp_eq (pc := 26) 38 hX dX3_worldsWith_26 (by decide) (fun _ => ?_) (fun _ => ?_)
      · refine zi_iincb5 (pc := 38) hX dX3_worldsWith_38 (kn_1 _) rfl rfl (fun v5 => ?_)
        refine zi_goto (pc := 41) 12 hX dX3_worldsWith_41 (by decide) ?_
        exact ih x4 v5 g4
      · refine zi_iload4 (pc := 29) hX dX3_worldsWith_29 ?_
        refine zi_iconst (pc := 31) hX dX3_worldsWith_31 ki_1 ?_
        refine zi_iload5 (pc := 32) hX dX3_worldsWith_32 ?_
        refine zi_ishl (pc := 34) hX dX3_worldsWith_34 ?_
        refine zi_ior (pc := 35) hX dX3_worldsWith_35 ?_
        refine zi_bi (fun v6 => ?_)
        refine zi_istore4 (pc := 36) hX dX3_worldsWith_36 rfl rfl ?_
        refine zi_iincb5 (pc := 38) hX dX3_worldsWith_38 (kn_1 _) rfl rfl (fun v7 => ?_)
        refine zi_goto (pc := 41) 12 hX dX3_worldsWith_41 (by decide) ?_
        exact ih v6 v7 g4
theorem zw_Mi_worldsWith {X : et_X} {w : et_W} (hX : et_Gd X w cX3_worldsWith RX3 6 (some .int) [] rm_Mi_worldsWith) (p1 : Int32) (p2 : Int32) (g : et_G) : et_Z X w 0 et_eI 0 [some (.ref (et_ad w 46)), some (.int p1), some (.int p2), none, none, none] [] g (fn_Mi_worldsWith p1 p2 g) := by
  unfold fn_Mi_worldsWith
  refine zi_aload0 (pc := 0) hX dX3_worldsWith_0 ?_
  refine zi_iload1 (pc := 1) hX dX3_worldsWith_1 ?_
  refine zi_callI (zc_virt (pc := 2) hX dX3_worldsWith_2 tm_1306 md_X3_slot mi_X3_slot ly_46 (ct_Mi_slot hX.sane p1 g) rfl rfl rfl) (fun v1 g2 => ?_)
  refine zi_istore3 (pc := 5) hX dX3_worldsWith_5 rfl rfl ?_
  refine zi_iconst (pc := 6) hX dX3_worldsWith_6 ki_0 ?_
  refine zi_istore4 (pc := 7) hX dX3_worldsWith_7 rfl rfl ?_
  refine zi_iconst (pc := 9) hX dX3_worldsWith_9 ki_0 ?_
  refine zi_istore5 (pc := 10) hX dX3_worldsWith_10 rfl rfl ?_
  refine zi_drop (le_s (le_n (le_s (le_s (le_s (le_s le_nil)))))) ?_; exact zp_Mi_worldsWith_12 hX p2 v1 1000000 (0 : Int32) (0 : Int32) g2
theorem ct_Mi_worldsWith {w : et_W} (hw : et_Sane w) (p1 : Int32) (p2 : Int32) (g : et_G) : et_C w yX3_worldsWith (Cond.code yX3_worldsWith cX3_worldsWith 6 (some .int)) rm_Mi_worldsWith et_eI [.ref (et_ad w 46), .int p1, .int p2] g (fn_Mi_worldsWith p1 p2 g) := et_mk hw (by decide) rfl rfl (fun X hX => zw_Mi_worldsWith hX p1 p2 g)
def rm_Mi_realWorld : Room := { frames := 2, cells := 0, slots := 0, locals := 41 }
def fn_Mi_realWorld_4 : Nat → Int32 → Int32 → et_G → Option (Int32 × et_G)
  | 0, _, _, _ => none
  | n + 1, x1, x2, g =>
    if (g.1 2 5) ≤ x2 then
      some (x1, g)
    else
      et_bd (fn_Et_hasBit ((g.1 46 1) &&& ((g.1 2 10) ^^^ (-1 : Int32))) x2 g) (fun v1 g2 =>
      if v1 = 0 then
        et_b (x2 + (1 : Int32)) (fun v3 =>
        fn_Mi_realWorld_4 n x1 v3 g2)
      else
        et_bd (fn_Mi_slot x2 g2) (fun v4 g5 =>
        et_b (x1 ||| ((1 : Int32) <<< (v4 &&& 31))) (fun v6 =>
        et_b (x2 + (1 : Int32)) (fun v7 =>
        fn_Mi_realWorld_4 n v6 v7 g5))))
def fn_Mi_realWorld (g : et_G) : Option (Int32 × et_G) :=
  fn_Mi_realWorld_4 1000000 (0 : Int32) (0 : Int32) g
theorem zp_Mi_realWorld_4 {X : et_X} {w : et_W} (hX : et_Gd X w cX3_realWorld RX3 3 (some .int) [] rm_Mi_realWorld) : ∀ (n : Nat) (x1 : Int32) (x2 : Int32) (g : et_G), et_Z X w 0 et_eI 4 [some (.ref (et_ad w 46)), some (.int x1), some (.int x2)] [] g (fn_Mi_realWorld_4 n x1 x2 g) := by
  intro n
  induction n with
  | zero =>
    intro x1 x2 g a g2 h
    cases h
  | succ n ih =>
    intro x1 x2 g
    rw [fn_Mi_realWorld_4]
    refine zi_iload2 (pc := 4) hX dX3_realWorld_4 ?_
    refine zi_aload0 (pc := 5) hX dX3_realWorld_5 ?_
    refine zi_getr (q := 2) (pc := 6) hX dX3_realWorld_6 fl_398 ly_46 rfl ?_
    refine zi_geti (pc := 9) hX dX3_realWorld_9 fl_199 ly_2 rfl ?_
    refine zi_icmp_ge (pc := 12) 52 hX dX3_realWorld_12 (by decide) (fun _ => ?_) (fun _ => ?_)
    · refine zi_iload1 (pc := 52) hX dX3_realWorld_52 ?_
      exact zi_ret (pc := 53) hX dX3_realWorld_53 rfl rfl rfl rfl
    · refine zi_aload0 (pc := 15) hX dX3_realWorld_15 ?_
      refine zi_geti (pc := 16) hX dX3_realWorld_16 fl_399 ly_46 rfl ?_
      refine zi_aload0 (pc := 19) hX dX3_realWorld_19 ?_
      refine zi_getr (q := 2) (pc := 20) hX dX3_realWorld_20 fl_398 ly_46 rfl ?_
      refine zi_geti (pc := 23) hX dX3_realWorld_23 fl_216 ly_2 rfl ?_
      refine zi_iconst (pc := 26) hX dX3_realWorld_26 ki_m1 ?_
      refine zi_ixor (pc := 27) hX dX3_realWorld_27 ?_
      refine zi_iand (pc := 28) hX dX3_realWorld_28 ?_
      refine zi_iload2 (pc := 29) hX dX3_realWorld_29 ?_
      refine zi_callI (zc_nest (pc := 30) hX dX3_realWorld_30 nl_1301 md_X9_hasBit st_X9_hasBit (ct_Et_hasBit hX.sane ((g.1 46 1) &&& ((g.1 2 10) ^^^ (-1 : Int32))) x2 g) rfl rfl rfl) (fun v1 g2 => ?_)
      refine zi_if_eq (pc := 33) 46 hX dX3_realWorld_33 (by decide) (fun _ => ?_) (fun _ => ?_)
      · refine zi_iincb2 (pc := 46) hX dX3_realWorld_46 (kn_1 _) rfl rfl (fun v3 => ?_)
        refine zi_goto (pc := 49) 4 hX dX3_realWorld_49 (by decide) ?_
        exact ih x1 v3 g2
      · refine zi_iload1 (pc := 36) hX dX3_realWorld_36 ?_
        refine zi_iconst (pc := 37) hX dX3_realWorld_37 ki_1 ?_
        refine zi_aload0 (pc := 38) hX dX3_realWorld_38 ?_
        refine zi_iload2 (pc := 39) hX dX3_realWorld_39 ?_
        refine zi_callI (zc_virt (pc := 40) hX dX3_realWorld_40 tm_1306 md_X3_slot mi_X3_slot ly_46 (ct_Mi_slot hX.sane x2 g2) rfl rfl rfl) (fun v4 g5 => ?_)
        refine zi_ishl (pc := 43) hX dX3_realWorld_43 ?_
        refine zi_ior (pc := 44) hX dX3_realWorld_44 ?_
        refine zi_bi (fun v6 => ?_)
        refine zi_istore1 (pc := 45) hX dX3_realWorld_45 rfl rfl ?_
        refine zi_iincb2 (pc := 46) hX dX3_realWorld_46 (kn_1 _) rfl rfl (fun v7 => ?_)
        refine zi_goto (pc := 49) 4 hX dX3_realWorld_49 (by decide) ?_
        exact ih v6 v7 g5
theorem zw_Mi_realWorld {X : et_X} {w : et_W} (hX : et_Gd X w cX3_realWorld RX3 3 (some .int) [] rm_Mi_realWorld) (g : et_G) : et_Z X w 0 et_eI 0 [some (.ref (et_ad w 46)), none, none] [] g (fn_Mi_realWorld g) := by
  unfold fn_Mi_realWorld
  refine zi_iconst (pc := 0) hX dX3_realWorld_0 ki_0 ?_
  refine zi_istore1 (pc := 1) hX dX3_realWorld_1 rfl rfl ?_
  refine zi_iconst (pc := 2) hX dX3_realWorld_2 ki_0 ?_
  refine zi_istore2 (pc := 3) hX dX3_realWorld_3 rfl rfl ?_
  exact zp_Mi_realWorld_4 hX 1000000 (0 : Int32) (0 : Int32) g
theorem ct_Mi_realWorld {w : et_W} (hw : et_Sane w) (g : et_G) : et_C w yX3_realWorld (Cond.code yX3_realWorld cX3_realWorld 3 (some .int)) rm_Mi_realWorld et_eI [.ref (et_ad w 46)] g (fn_Mi_realWorld g) := et_mk hw (by decide) rfl rfl (fun X hX => zw_Mi_realWorld hX g)
def rm_Mi_figure : Room := { frames := 0, cells := 0, slots := 0, locals := 0 }
def fn_Mi_figure (p0 : Int32) (p1 : Int32) (g : et_G) : Option (Int32 × et_G) :=
  some ((et_us p0 ((3 : Int32) * p1)) &&& (7 : Int32), g)
theorem zw_Mi_figure {X : et_X} {w : et_W} (hX : et_Gd X w cX3_figure RX3 2 (some .int) [] rm_Mi_figure) (p0 : Int32) (p1 : Int32) (g : et_G) : et_Z X w 0 et_eI 0 [some (.int p0), some (.int p1)] [] g (fn_Mi_figure p0 p1 g) := by
  unfold fn_Mi_figure
  refine zi_iload0 (pc := 0) hX dX3_figure_0 ?_
  refine zi_iconst (pc := 1) hX dX3_figure_1 ki_3 ?_
  refine zi_iload1 (pc := 2) hX dX3_figure_2 ?_
  refine zi_imul (pc := 3) hX dX3_figure_3 ?_
  refine zi_iushr (pc := 4) hX dX3_figure_4 ?_
  refine zi_bipush (pc := 5) hX dX3_figure_5 kb_7 ?_
  refine zi_iand (pc := 7) hX dX3_figure_7 ?_
  exact zi_ret (pc := 8) hX dX3_figure_8 rfl rfl rfl rfl
theorem ct_Mi_figure {w : et_W} (hw : et_Sane w) (p0 : Int32) (p1 : Int32) (g : et_G) : et_C w yX3_figure (Cond.code yX3_figure cX3_figure 2 (some .int)) rm_Mi_figure et_eI [.int p0, .int p1] g (fn_Mi_figure p0 p1 g) := et_mk hw (by decide) rfl rfl (fun X hX => zw_Mi_figure hX p0 p1 g)
def rm_Mi_distinguished : Room := { frames := 2, cells := 0, slots := 0, locals := 44 }
def fn_Mi_distinguished_4 (x1 : Int32) : Nat → Int32 → Int32 → et_G → Option (Int32 × et_G)
  | 0, _, _, _ => none
  | n + 1, x2, x3, g =>
    if (g.1 2 5) ≤ x3 then
      some (x2, g)
    else
      et_bd (fn_Et_hasBit (g.1 46 1) x3 g) (fun v1 g2 =>
      if v1 = 0 then
        et_b (x3 + (1 : Int32)) (fun v3 =>
        fn_Mi_distinguished_4 x1 n x2 v3 g2)
      else
        et_bd (fn_Tw_wasThere x1 x3 g2) (fun v4 g5 =>
        if v4 = 0 then
          et_b (x3 + (1 : Int32)) (fun v6 =>
          fn_Mi_distinguished_4 x1 n x2 v6 g5)
        else
          et_bd (fn_Mi_slot x3 g5) (fun v7 g8 =>
          et_b (x2 ||| ((1 : Int32) <<< (v7 &&& 31))) (fun v9 =>
          et_b (x3 + (1 : Int32)) (fun v10 =>
          fn_Mi_distinguished_4 x1 n v9 v10 g8)))))
def fn_Mi_distinguished (p1 : Int32) (g : et_G) : Option (Int32 × et_G) :=
  fn_Mi_distinguished_4 p1 1000000 (0 : Int32) (0 : Int32) g
theorem zp_Mi_distinguished_4 {X : et_X} {w : et_W} (hX : et_Gd X w cX3_distinguished RX3 4 (some .int) [] rm_Mi_distinguished) (x1 : Int32) : ∀ (n : Nat) (x2 : Int32) (x3 : Int32) (g : et_G), et_Z X w 0 et_eI 4 [some (.ref (et_ad w 46)), some (.int x1), some (.int x2), some (.int x3)] [] g (fn_Mi_distinguished_4 x1 n x2 x3 g) := by
  intro n
  induction n with
  | zero =>
    intro x2 x3 g a g2 h
    cases h
  | succ n ih =>
    intro x2 x3 g
    rw [fn_Mi_distinguished_4]
    refine zi_iload3 (pc := 4) hX dX3_distinguished_4 ?_
    refine zi_aload0 (pc := 5) hX dX3_distinguished_5 ?_
    refine zi_getr (q := 2) (pc := 6) hX dX3_distinguished_6 fl_398 ly_46 rfl ?_
    refine zi_geti (pc := 9) hX dX3_distinguished_9 fl_199 ly_2 rfl ?_
    refine zi_icmp_ge (pc := 12) 54 hX dX3_distinguished_12 (by decide) (fun _ => ?_) (fun _ => ?_)
    · refine zi_iload2 (pc := 54) hX dX3_distinguished_54 ?_
      exact zi_ret (pc := 55) hX dX3_distinguished_55 rfl rfl rfl rfl
    · refine zi_aload0 (pc := 15) hX dX3_distinguished_15 ?_
      refine zi_geti (pc := 16) hX dX3_distinguished_16 fl_399 ly_46 rfl ?_
      refine zi_iload3 (pc := 19) hX dX3_distinguished_19 ?_
      refine zi_callI (zc_nest (pc := 20) hX dX3_distinguished_20 nl_1301 md_X9_hasBit st_X9_hasBit (ct_Et_hasBit hX.sane (g.1 46 1) x3 g) rfl rfl rfl) (fun v1 g2 => ?_)
      refine zi_if_eq (pc := 23) 48 hX dX3_distinguished_23 (by decide) (fun _ => ?_) (fun _ => ?_)
      · refine zi_iincb3 (pc := 48) hX dX3_distinguished_48 (kn_1 _) rfl rfl (fun v3 => ?_)
        refine zi_goto (pc := 51) 4 hX dX3_distinguished_51 (by decide) ?_
        exact ih x2 v3 g2
      · refine zi_aload0 (pc := 26) hX dX3_distinguished_26 ?_
        refine zi_getr (q := 2) (pc := 27) hX dX3_distinguished_27 fl_398 ly_46 rfl ?_
        refine zi_iload1 (pc := 30) hX dX3_distinguished_30 ?_
        refine zi_iload3 (pc := 31) hX dX3_distinguished_31 ?_
        refine zi_callI (zc_virt (pc := 32) hX dX3_distinguished_32 tm_1318 md_X6_wasThere mi_X6_wasThere ly_2 (ct_Tw_wasThere hX.sane x1 x3 g2) rfl rfl rfl) (fun v4 g5 => ?_)
        refine zi_if_eq (pc := 35) 48 hX dX3_distinguished_35 (by decide) (fun _ => ?_) (fun _ => ?_)
        · refine zi_iincb3 (pc := 48) hX dX3_distinguished_48 (kn_1 _) rfl rfl (fun v6 => ?_)
          refine zi_goto (pc := 51) 4 hX dX3_distinguished_51 (by decide) ?_
          exact ih x2 v6 g5
        · refine zi_iload2 (pc := 38) hX dX3_distinguished_38 ?_
          refine zi_iconst (pc := 39) hX dX3_distinguished_39 ki_1 ?_
          refine zi_aload0 (pc := 40) hX dX3_distinguished_40 ?_
          refine zi_iload3 (pc := 41) hX dX3_distinguished_41 ?_
          refine zi_callI (zc_virt (pc := 42) hX dX3_distinguished_42 tm_1306 md_X3_slot mi_X3_slot ly_46 (ct_Mi_slot hX.sane x3 g5) rfl rfl rfl) (fun v7 g8 => ?_)
          refine zi_ishl (pc := 45) hX dX3_distinguished_45 ?_
          refine zi_ior (pc := 46) hX dX3_distinguished_46 ?_
          refine zi_bi (fun v9 => ?_)
          refine zi_istore2 (pc := 47) hX dX3_distinguished_47 rfl rfl ?_
          refine zi_iincb3 (pc := 48) hX dX3_distinguished_48 (kn_1 _) rfl rfl (fun v10 => ?_)
          refine zi_goto (pc := 51) 4 hX dX3_distinguished_51 (by decide) ?_
          exact ih v9 v10 g8
theorem zw_Mi_distinguished {X : et_X} {w : et_W} (hX : et_Gd X w cX3_distinguished RX3 4 (some .int) [] rm_Mi_distinguished) (p1 : Int32) (g : et_G) : et_Z X w 0 et_eI 0 [some (.ref (et_ad w 46)), some (.int p1), none, none] [] g (fn_Mi_distinguished p1 g) := by
  unfold fn_Mi_distinguished
  refine zi_iconst (pc := 0) hX dX3_distinguished_0 ki_0 ?_
  refine zi_istore2 (pc := 1) hX dX3_distinguished_1 rfl rfl ?_
  refine zi_iconst (pc := 2) hX dX3_distinguished_2 ki_0 ?_
  refine zi_istore3 (pc := 3) hX dX3_distinguished_3 rfl rfl ?_
  exact zp_Mi_distinguished_4 hX p1 1000000 (0 : Int32) (0 : Int32) g
theorem ct_Mi_distinguished {w : et_W} (hw : et_Sane w) (p1 : Int32) (g : et_G) : et_C w yX3_distinguished (Cond.code yX3_distinguished cX3_distinguished 4 (some .int)) rm_Mi_distinguished et_eI [.ref (et_ad w 46), .int p1] g (fn_Mi_distinguished p1 g) := et_mk hw (by decide) rfl rfl (fun X hX => zw_Mi_distinguished hX p1 g)
def rm_Mi_alike : Room := { frames := 1, cells := 0, slots := 0, locals := 21 }
def fn_Mi_alike_5 (x1 : Int32) (x2 : Int32) : Nat → Int32 → Int32 → et_G → Option (Int32 × et_G)
  | 0, _, _, _ => none
  | n + 1, x3, x4, g =>
    if (16 : Int32) ≤ x4 then
      some (x3, g)
    else
      et_bd (fn_Et_hasBit (g.1 46 2) x4 g) (fun v1 g2 =>
      if v1 = 0 then
        et_b (x4 + (1 : Int32)) (fun v3 =>
        fn_Mi_alike_5 x1 x2 n x3 v3 g2)
      else
        if ((x4 ^^^ x1) &&& x2) = 0 then
          et_b (x3 ||| ((1 : Int32) <<< (x4 &&& 31))) (fun v5 =>
          et_b (x4 + (1 : Int32)) (fun v6 =>
          fn_Mi_alike_5 x1 x2 n v5 v6 g2))
        else
          et_b (x4 + (1 : Int32)) (fun v4 =>
          fn_Mi_alike_5 x1 x2 n x3 v4 g2))
def fn_Mi_alike (p1 : Int32) (p2 : Int32) (g : et_G) : Option (Int32 × et_G) :=
  fn_Mi_alike_5 p1 p2 1000000 (0 : Int32) (0 : Int32) g
theorem zp_Mi_alike_5 {X : et_X} {w : et_W} (hX : et_Gd X w cX3_alike RX3 5 (some .int) [] rm_Mi_alike) (x1 : Int32) (x2 : Int32) : ∀ (n : Nat) (x3 : Int32) (x4 : Int32) (g : et_G), et_Z X w 0 et_eI 5 [some (.ref (et_ad w 46)), some (.int x1), some (.int x2), some (.int x3), some (.int x4)] [] g (fn_Mi_alike_5 x1 x2 n x3 x4 g) := by
  intro n
  induction n with
  | zero =>
    intro x3 x4 g a g2 h
    cases h
  | succ n ih =>
    intro x3 x4 g
    rw [fn_Mi_alike_5]
    refine zi_iload4 (pc := 5) hX dX3_alike_5 ?_
    refine zi_bipush (pc := 7) hX dX3_alike_7 kb_16 ?_
    refine zi_icmp_ge (pc := 9) 46 hX dX3_alike_9 (by decide) (fun _ => ?_) (fun _ => ?_)
    · refine zi_iload3 (pc := 46) hX dX3_alike_46 ?_
      exact zi_ret (pc := 47) hX dX3_alike_47 rfl rfl rfl rfl
    · refine zi_aload0 (pc := 12) hX dX3_alike_12 ?_
      refine zi_geti (pc := 13) hX dX3_alike_13 fl_400 ly_46 rfl ?_
      refine zi_iload4 (pc := 16) hX dX3_alike_16 ?_
      refine zi_callI (zc_nest (pc := 18) hX dX3_alike_18 nl_1301 md_X9_hasBit st_X9_hasBit (ct_Et_hasBit hX.sane (g.1 46 2) x4 g) rfl rfl rfl) (fun v1 g2 => ?_)
      refine zi_if_eq (pc := 21) 40 hX dX3_alike_21 (by decide) (fun _ => ?_) (fun _ => ?_)
      · refine zi_iincb4 (pc := 40) hX dX3_alike_40 (kn_1 _) rfl rfl (fun v3 => ?_)
        refine zi_goto (pc := 43) 5 hX dX3_alike_43 (by decide) ?_
        exact ih x3 v3 g2
      · refine zi_iload4 (pc := 24) hX dX3_alike_24 ?_
        refine zi_iload1 (pc := 26) hX dX3_alike_26 ?_
        refine zi_ixor (pc := 27) hX dX3_alike_27 ?_
        refine zi_iload2 (pc := 28) hX dX3_alike_28 ?_
        refine zi_iand (pc := 29) hX dX3_alike_29 ?_
        refine zi_if_ne (pc := 30) 40 hX dX3_alike_30 (by decide) (fun _ => ?_) (fun _ => ?_)
        · refine zi_iload3 (pc := 33) hX dX3_alike_33 ?_
          refine zi_iconst (pc := 34) hX dX3_alike_34 ki_1 ?_
          refine zi_iload4 (pc := 35) hX dX3_alike_35 ?_
          refine zi_ishl (pc := 37) hX dX3_alike_37 ?_
          refine zi_ior (pc := 38) hX dX3_alike_38 ?_
          refine zi_bi (fun v5 => ?_)
          refine zi_istore3 (pc := 39) hX dX3_alike_39 rfl rfl ?_
          refine zi_iincb4 (pc := 40) hX dX3_alike_40 (kn_1 _) rfl rfl (fun v6 => ?_)
          refine zi_goto (pc := 43) 5 hX dX3_alike_43 (by decide) ?_
          exact ih v5 v6 g2
        · refine zi_iincb4 (pc := 40) hX dX3_alike_40 (kn_1 _) rfl rfl (fun v4 => ?_)
          refine zi_goto (pc := 43) 5 hX dX3_alike_43 (by decide) ?_
          exact ih x3 v4 g2
theorem zw_Mi_alike {X : et_X} {w : et_W} (hX : et_Gd X w cX3_alike RX3 5 (some .int) [] rm_Mi_alike) (p1 : Int32) (p2 : Int32) (g : et_G) : et_Z X w 0 et_eI 0 [some (.ref (et_ad w 46)), some (.int p1), some (.int p2), none, none] [] g (fn_Mi_alike p1 p2 g) := by
  unfold fn_Mi_alike
  refine zi_iconst (pc := 0) hX dX3_alike_0 ki_0 ?_
  refine zi_istore3 (pc := 1) hX dX3_alike_1 rfl rfl ?_
  refine zi_iconst (pc := 2) hX dX3_alike_2 ki_0 ?_
  refine zi_istore4 (pc := 3) hX dX3_alike_3 rfl rfl ?_
  exact zp_Mi_alike_5 hX p1 p2 1000000 (0 : Int32) (0 : Int32) g
theorem ct_Mi_alike {w : et_W} (hw : et_Sane w) (p1 : Int32) (p2 : Int32) (g : et_G) : et_C w yX3_alike (Cond.code yX3_alike cX3_alike 5 (some .int)) rm_Mi_alike et_eI [.ref (et_ad w 46), .int p1, .int p2] g (fn_Mi_alike p1 p2 g) := et_mk hw (by decide) rfl rfl (fun X hX => zw_Mi_alike hX p1 p2 g)
