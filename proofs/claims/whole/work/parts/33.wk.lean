def rm_Et_thing : Room := { frames := 7, cells := 2, slots := 12, locals := 102 }
def fn_Et_thing (p1 : Int32) (p2 : Int32) (g : et_G) : Option ((Nat ⊕ Int32) × et_G) :=
  et_bt (fn_Et_needThing p1 g) (fun _ g2 =>
  if p2 = 0 then
    et_ck (et_ib p1 8) (
    some (.inr (g2.1 9 p1.toNatClampNeg), g2))
  else
  if p2 = 1 then
    et_ck (et_ib p1 8) (
    some (.inr (g2.1 10 p1.toNatClampNeg), g2))
  else
  if p2 = 2 then
    et_ck (et_ib p1 8) (
    some (.inr (g2.1 11 p1.toNatClampNeg), g2))
  else
  if p2 = 3 then
    et_bd (fn_Et_hasBit (g2.1 2 9) p1 g2) (fun v3 g4 =>
    if v3 = 0 then
      some (.inr ((0 : Int32)), g4)
    else
      some (.inr ((1 : Int32)), g4))
  else
  if p2 = 4 then
    et_bd (fn_Et_hasBit (g2.1 2 10) p1 g2) (fun v5 g6 =>
    if v5 = 0 then
      some (.inr ((0 : Int32)), g6)
    else
      some (.inr ((1 : Int32)), g6))
  else
  some (.inl 0, g2))
theorem zw_Et_thing {X : et_X} {w : et_W} (hX : et_Gd X w cX9_thing RX9 3 (some .int) [] rm_Et_thing) (p1 : Int32) (p2 : Int32) (g : et_G) : et_Z X w 0 et_tI 0 [some (.ref (et_ad w 0)), some (.int p1), some (.int p2)] [] g (fn_Et_thing p1 p2 g) := by
  unfold fn_Et_thing
  refine zi_aload0 (pc := 0) hX dX9_thing_0 ?_
  refine zi_iload1 (pc := 1) hX dX9_thing_1 ?_
  refine zi_callTU hX (fun _ => rfl) rfl rfl (zc_virt (pc := 2) hX dX9_thing_2 tm_1054 md_X9_needThing mi_X9_needThing ly_0 (ct_Et_needThing hX.sane p1 g) rfl rfl rfl) (fun g2 => ?_)
  refine zi_iload2 (pc := 5) hX dX9_thing_5 ?_
  refine zi_ite (fun h0 => ?_) (fun h0 => ?_)
  · refine zi_tabI (pc := 6) 40 hX dX9_thing_6 0 h0 (by decide) (by decide) rfl (by decide) ?_
    refine zi_aload0 (pc := 40) hX dX9_thing_40 ?_
    refine zi_getr (q := 2) (pc := 41) hX dX9_thing_41 fl_493 ly_0 rfl ?_
    refine zi_getr (q := 9) (pc := 44) hX dX9_thing_44 fl_204 ly_2 rfl ?_
    refine zi_iload1 (pc := 47) hX dX9_thing_47 ?_
    refine zi_iald (pc := 48) hX dX9_thing_48 ly_9 ?_
    exact zi_ret (pc := 49) hX dX9_thing_49 rfl rfl rfl rfl
  refine zi_ite (fun h1 => ?_) (fun h1 => ?_)
  · refine zi_tabI (pc := 6) 50 hX dX9_thing_6 1 h1 (by decide) (by decide) rfl (by decide) ?_
    refine zi_aload0 (pc := 50) hX dX9_thing_50 ?_
    refine zi_getr (q := 2) (pc := 51) hX dX9_thing_51 fl_493 ly_0 rfl ?_
    refine zi_getr (q := 10) (pc := 54) hX dX9_thing_54 fl_207 ly_2 rfl ?_
    refine zi_iload1 (pc := 57) hX dX9_thing_57 ?_
    refine zi_iald (pc := 58) hX dX9_thing_58 ly_10 ?_
    exact zi_ret (pc := 59) hX dX9_thing_59 rfl rfl rfl rfl
  refine zi_ite (fun h2 => ?_) (fun h2 => ?_)
  · refine zi_tabI (pc := 6) 60 hX dX9_thing_6 2 h2 (by decide) (by decide) rfl (by decide) ?_
    refine zi_aload0 (pc := 60) hX dX9_thing_60 ?_
    refine zi_getr (q := 2) (pc := 61) hX dX9_thing_61 fl_493 ly_0 rfl ?_
    refine zi_getr (q := 11) (pc := 64) hX dX9_thing_64 fl_210 ly_2 rfl ?_
    refine zi_iload1 (pc := 67) hX dX9_thing_67 ?_
    refine zi_iald (pc := 68) hX dX9_thing_68 ly_11 ?_
    exact zi_ret (pc := 69) hX dX9_thing_69 rfl rfl rfl rfl
  refine zi_ite (fun h3 => ?_) (fun h3 => ?_)
  · refine zi_tabI (pc := 6) 70 hX dX9_thing_6 3 h3 (by decide) (by decide) rfl (by decide) ?_
    refine zi_aload0 (pc := 70) hX dX9_thing_70 ?_
    refine zi_getr (q := 2) (pc := 71) hX dX9_thing_71 fl_493 ly_0 rfl ?_
    refine zi_geti (pc := 74) hX dX9_thing_74 fl_213 ly_2 rfl ?_
    refine zi_iload1 (pc := 77) hX dX9_thing_77 ?_
    refine zi_callI (zc_stat (pc := 78) hX dX9_thing_78 tm_1062 md_X9_hasBit st_X9_hasBit (ct_Et_hasBit hX.sane (g2.1 2 9) p1 g2) rfl rfl rfl) (fun v3 g4 => ?_)
    refine zi_if_eq (pc := 81) 88 hX dX9_thing_81 (by decide) (fun _ => ?_) (fun _ => ?_)
    · refine zi_iconst (pc := 88) hX dX9_thing_88 ki_0 ?_
      exact zi_ret (pc := 89) hX dX9_thing_89 rfl rfl rfl rfl
    · refine zi_iconst (pc := 84) hX dX9_thing_84 ki_1 ?_
      refine zi_goto (pc := 85) 89 hX dX9_thing_85 (by decide) ?_
      exact zi_ret (pc := 89) hX dX9_thing_89 rfl rfl rfl rfl
  refine zi_ite (fun h4 => ?_) (fun h4 => ?_)
  · refine zi_tabI (pc := 6) 90 hX dX9_thing_6 4 h4 (by decide) (by decide) rfl (by decide) ?_
    refine zi_aload0 (pc := 90) hX dX9_thing_90 ?_
    refine zi_getr (q := 2) (pc := 91) hX dX9_thing_91 fl_493 ly_0 rfl ?_
    refine zi_geti (pc := 94) hX dX9_thing_94 fl_217 ly_2 rfl ?_
    refine zi_iload1 (pc := 97) hX dX9_thing_97 ?_
    refine zi_callI (zc_stat (pc := 98) hX dX9_thing_98 tm_1062 md_X9_hasBit st_X9_hasBit (ct_Et_hasBit hX.sane (g2.1 2 10) p1 g2) rfl rfl rfl) (fun v5 g6 => ?_)
    refine zi_if_eq (pc := 101) 108 hX dX9_thing_101 (by decide) (fun _ => ?_) (fun _ => ?_)
    · refine zi_iconst (pc := 108) hX dX9_thing_108 ki_0 ?_
      exact zi_ret (pc := 109) hX dX9_thing_109 rfl rfl rfl rfl
    · refine zi_iconst (pc := 104) hX dX9_thing_104 ki_1 ?_
      refine zi_goto (pc := 105) 109 hX dX9_thing_105 (by decide) ?_
      exact zi_ret (pc := 109) hX dX9_thing_109 rfl rfl rfl rfl
  refine zi_tabO (pc := 6) 110 hX dX9_thing_6 (et_out0_4 h0 h1 h2 h3 h4) (by decide) ?_
  exact zi_thr (pc := 110) hX dX9_thing_110 dX9_thing_113 dX9_thing_114 dX9_thing_117 th_0 rfl rfl rfl rfl rfl
theorem ct_Et_thing {w : et_W} (hw : et_Sane w) (p1 : Int32) (p2 : Int32) (g : et_G) : et_C w yX9_thing (Cond.code yX9_thing cX9_thing 3 (some .int)) rm_Et_thing et_tI [.ref (et_ad w 0), .int p1, .int p2] g (fn_Et_thing p1 p2 g) := et_mk hw (by decide) rfl rfl (fun X hX => zw_Et_thing hX p1 p2 g)
def rm_Et_unsay : Room := { frames := 1, cells := 0, slots := 0, locals := 20 }
def fn_Et_unsay (g : et_G) : Option (Int32 × et_G) :=
  if (g.1 34 0) = 0 then
    some ((-1 : Int32), g)
  else
    et_b (et_si g 34 0 ((g.1 34 0) - (1 : Int32))) (fun g1 =>
    et_bd (fn_Gr_forget g1) (fun _ g3 =>
    some (g3.1 34 0, g3)))
theorem zw_Et_unsay {X : et_X} {w : et_W} (hX : et_Gd X w cX9_unsay RX9 1 (some .int) [] rm_Et_unsay) (g : et_G) : et_Z X w 0 et_eI 0 [some (.ref (et_ad w 0))] [] g (fn_Et_unsay g) := by
  unfold fn_Et_unsay
  refine zi_aload0 (pc := 0) hX dX9_unsay_0 ?_
  refine zi_getr (q := 34) (pc := 1) hX dX9_unsay_1 fl_498 ly_0 rfl ?_
  refine zi_geti (pc := 4) hX dX9_unsay_4 fl_360 ly_34 rfl ?_
  refine zi_if_ne (pc := 7) 12 hX dX9_unsay_7 (by decide) (fun _ => ?_) (fun _ => ?_)
  · refine zi_iconst (pc := 10) hX dX9_unsay_10 ki_m1 ?_
    exact zi_ret (pc := 11) hX dX9_unsay_11 rfl rfl rfl rfl
  · refine zi_aload0 (pc := 12) hX dX9_unsay_12 ?_
    refine zi_getr (q := 34) (pc := 13) hX dX9_unsay_13 fl_498 ly_0 rfl ?_
    refine zi_dup (pc := 16) hX dX9_unsay_16 rfl ?_
    refine zi_geti (pc := 17) hX dX9_unsay_17 fl_360 ly_34 rfl ?_
    refine zi_iconst (pc := 20) hX dX9_unsay_20 ki_1 ?_
    refine zi_isub (pc := 21) hX dX9_unsay_21 ?_
    refine zi_puti (pc := 22) hX dX9_unsay_22 fl_360 ly_34 rfl rfl rfl (zi_bg (fun g1 => ?_))
    refine zi_aload0 (pc := 25) hX dX9_unsay_25 ?_
    refine zi_getr (q := 48) (pc := 26) hX dX9_unsay_26 fl_503 ly_0 rfl ?_
    refine zi_callU (zc_virt (pc := 29) hX dX9_unsay_29 tm_562 md_X0_forget mi_X0_forget ly_48 (ct_Gr_forget hX.sane g1) rfl rfl rfl) (fun g3 => ?_)
    refine zi_aload0 (pc := 32) hX dX9_unsay_32 ?_
    refine zi_getr (q := 34) (pc := 33) hX dX9_unsay_33 fl_498 ly_0 rfl ?_
    refine zi_geti (pc := 36) hX dX9_unsay_36 fl_360 ly_34 rfl ?_
    exact zi_ret (pc := 39) hX dX9_unsay_39 rfl rfl rfl rfl
theorem ct_Et_unsay {w : et_W} (hw : et_Sane w) (g : et_G) : et_C w yX9_unsay (Cond.code yX9_unsay cX9_unsay 1 (some .int)) rm_Et_unsay et_eI [.ref (et_ad w 0)] g (fn_Et_unsay g) := et_mk hw (by decide) rfl rfl (fun X hX => zw_Et_unsay hX g)
def rm_Et_isBlank : Room := { frames := 0, cells := 0, slots := 0, locals := 0 }
def fn_Et_isBlank (p0 : Int32) (g : et_G) : Option (Int32 × et_G) :=
  if p0 = (32 : Int32) then
    some ((1 : Int32), g)
  else
    if p0 = (10 : Int32) then
      some ((1 : Int32), g)
    else
      some ((0 : Int32), g)
theorem zw_Et_isBlank {X : et_X} {w : et_W} (hX : et_Gd X w cX9_isBlank RX9 1 (some .boolean) [] rm_Et_isBlank) (p0 : Int32) (g : et_G) : et_Z X w 0 et_eI 0 [some (.int p0)] [] g (fn_Et_isBlank p0 g) := by
  unfold fn_Et_isBlank
  refine zi_iload0 (pc := 0) hX dX9_isBlank_0 ?_
  refine zi_bipush (pc := 1) hX dX9_isBlank_1 kb_32 ?_
  refine zi_icmp_eq (pc := 3) 12 hX dX9_isBlank_3 (by decide) (fun _ => ?_) (fun _ => ?_)
  · refine zi_iconst (pc := 12) hX dX9_isBlank_12 ki_1 ?_
    refine zi_goto (pc := 13) 17 hX dX9_isBlank_13 (by decide) ?_
    exact zi_ret (pc := 17) hX dX9_isBlank_17 et_z1 rfl rfl rfl
  · refine zi_iload0 (pc := 6) hX dX9_isBlank_6 ?_
    refine zi_bipush (pc := 7) hX dX9_isBlank_7 kb_10 ?_
    refine zi_icmp_ne (pc := 9) 16 hX dX9_isBlank_9 (by decide) (fun _ => ?_) (fun _ => ?_)
    · refine zi_iconst (pc := 12) hX dX9_isBlank_12 ki_1 ?_
      refine zi_goto (pc := 13) 17 hX dX9_isBlank_13 (by decide) ?_
      exact zi_ret (pc := 17) hX dX9_isBlank_17 et_z1 rfl rfl rfl
    · refine zi_iconst (pc := 16) hX dX9_isBlank_16 ki_0 ?_
      exact zi_ret (pc := 17) hX dX9_isBlank_17 et_z0 rfl rfl rfl
theorem ct_Et_isBlank {w : et_W} (hw : et_Sane w) (p0 : Int32) (g : et_G) : et_C w yX9_isBlank (Cond.code yX9_isBlank cX9_isBlank 1 (some .boolean)) rm_Et_isBlank et_eI [.int p0] g (fn_Et_isBlank p0 g) := et_mk hw (by decide) rfl rfl (fun X hX => zw_Et_isBlank hX p0 g)
def rm_Ut_skipBlanks : Room := { frames := 1, cells := 0, slots := 0, locals := 20 }
def fn_Ut_skipBlanks_0 : Nat → et_G → Option (Unit × et_G)
  | 0, _ => none
  | n + 1, g =>
    if (g.1 31 3) ≤ (g.1 31 2) then
      some ((), g)
    else
      et_ck (et_ib (g.1 31 2) 800) (
      et_bd (fn_Et_isBlank (g.1 1 (g.1 31 2).toNatClampNeg) g) (fun v1 g2 =>
      if v1 = 0 then
        some ((), g2)
      else
        et_b (et_si g2 31 2 ((g2.1 31 2) + (1 : Int32))) (fun g3 =>
        fn_Ut_skipBlanks_0 n g3)))
def fn_Ut_skipBlanks (g : et_G) : Option (Unit × et_G) :=
  fn_Ut_skipBlanks_0 1000000 g
theorem zp_Ut_skipBlanks_0 {X : et_X} {w : et_W} (hX : et_Gd X w cX7_skipBlanks RX7 1 (none) [] rm_Ut_skipBlanks) : ∀ (n : Nat) (g : et_G), et_Z X w 0 et_eU 0 [some (.ref (et_ad w 31))] [] g (fn_Ut_skipBlanks_0 n g) := by
  intro n
  induction n with
  | zero =>
    intro g a g2 h
    cases h
  | succ n ih =>
    intro g
    rw [fn_Ut_skipBlanks_0]
    refine zi_aload0 (pc := 0) hX dX7_skipBlanks_0 ?_
    refine zi_geti (pc := 1) hX dX7_skipBlanks_1 fl_329 ly_31 rfl ?_
    refine zi_aload0 (pc := 4) hX dX7_skipBlanks_4 ?_
    refine zi_geti (pc := 5) hX dX7_skipBlanks_5 fl_330 ly_31 rfl ?_
    refine zi_icmp_ge (pc := 8) 39 hX dX7_skipBlanks_8 (by decide) (fun _ => ?_) (fun _ => ?_)
    · exact zi_vret (pc := 39) hX dX7_skipBlanks_39 rfl rfl rfl
    · refine zi_aload0 (pc := 11) hX dX7_skipBlanks_11 ?_
      refine zi_getr (q := 1) (pc := 12) hX dX7_skipBlanks_12 fl_327 ly_31 rfl ?_
      refine zi_aload0 (pc := 15) hX dX7_skipBlanks_15 ?_
      refine zi_geti (pc := 16) hX dX7_skipBlanks_16 fl_329 ly_31 rfl ?_
      refine zi_bald (pc := 19) hX dX7_skipBlanks_19 ly_1 ?_
      refine zi_callI (zc_nest (pc := 20) hX dX7_skipBlanks_20 nl_1148 md_X9_isBlank st_X9_isBlank (ct_Et_isBlank hX.sane (g.1 1 (g.1 31 2).toNatClampNeg) g) rfl rfl rfl) (fun v1 g2 => ?_)
      refine zi_if_eq (pc := 23) 39 hX dX7_skipBlanks_23 (by decide) (fun _ => ?_) (fun _ => ?_)
      · exact zi_vret (pc := 39) hX dX7_skipBlanks_39 rfl rfl rfl
      · refine zi_aload0 (pc := 26) hX dX7_skipBlanks_26 ?_
        refine zi_dup (pc := 27) hX dX7_skipBlanks_27 rfl ?_
        refine zi_geti (pc := 28) hX dX7_skipBlanks_28 fl_329 ly_31 rfl ?_
        refine zi_iconst (pc := 31) hX dX7_skipBlanks_31 ki_1 ?_
        refine zi_iadd (pc := 32) hX dX7_skipBlanks_32 ?_
        refine zi_puti (pc := 33) hX dX7_skipBlanks_33 fl_329 ly_31 rfl rfl rfl (zi_bg (fun g3 => ?_))
        refine zi_goto (pc := 36) 0 hX dX7_skipBlanks_36 (by decide) ?_
        exact ih g3
theorem zw_Ut_skipBlanks {X : et_X} {w : et_W} (hX : et_Gd X w cX7_skipBlanks RX7 1 (none) [] rm_Ut_skipBlanks) (g : et_G) : et_Z X w 0 et_eU 0 [some (.ref (et_ad w 31))] [] g (fn_Ut_skipBlanks g) := by
  unfold fn_Ut_skipBlanks
  exact zp_Ut_skipBlanks_0 hX 1000000 g
theorem ct_Ut_skipBlanks {w : et_W} (hw : et_Sane w) (g : et_G) : et_C w yX7_skipBlanks (Cond.code yX7_skipBlanks cX7_skipBlanks 1 (none)) rm_Ut_skipBlanks et_eU [.ref (et_ad w 31)] g (fn_Ut_skipBlanks g) := et_mk hw (by decide) rfl rfl (fun X hX => zw_Ut_skipBlanks hX g)
def rm_Et_isLetter : Room := { frames := 0, cells := 0, slots := 0, locals := 0 }
def fn_Et_isLetter (p0 : Int32) (g : et_G) : Option (Int32 × et_G) :=
  if p0 < (97 : Int32) then
    some ((0 : Int32), g)
  else
    if (122 : Int32) < p0 then
      some ((0 : Int32), g)
    else
      some ((1 : Int32), g)
theorem zw_Et_isLetter {X : et_X} {w : et_W} (hX : et_Gd X w cX9_isLetter RX9 1 (some .boolean) [] rm_Et_isLetter) (p0 : Int32) (g : et_G) : et_Z X w 0 et_eI 0 [some (.int p0)] [] g (fn_Et_isLetter p0 g) := by
  unfold fn_Et_isLetter
  refine zi_iload0 (pc := 0) hX dX9_isLetter_0 ?_
  refine zi_bipush (pc := 1) hX dX9_isLetter_1 kb_97 ?_
  refine zi_icmp_lt (pc := 3) 16 hX dX9_isLetter_3 (by decide) (fun _ => ?_) (fun _ => ?_)
  · refine zi_iconst (pc := 16) hX dX9_isLetter_16 ki_0 ?_
    exact zi_ret (pc := 17) hX dX9_isLetter_17 et_z0 rfl rfl rfl
  · refine zi_iload0 (pc := 6) hX dX9_isLetter_6 ?_
    refine zi_bipush (pc := 7) hX dX9_isLetter_7 kb_122 ?_
    refine zi_icmp_gt (pc := 9) 16 hX dX9_isLetter_9 (by decide) (fun _ => ?_) (fun _ => ?_)
    · refine zi_iconst (pc := 16) hX dX9_isLetter_16 ki_0 ?_
      exact zi_ret (pc := 17) hX dX9_isLetter_17 et_z0 rfl rfl rfl
    · refine zi_iconst (pc := 12) hX dX9_isLetter_12 ki_1 ?_
      refine zi_goto (pc := 13) 17 hX dX9_isLetter_13 (by decide) ?_
      exact zi_ret (pc := 17) hX dX9_isLetter_17 et_z1 rfl rfl rfl
theorem ct_Et_isLetter {w : et_W} (hw : et_Sane w) (p0 : Int32) (g : et_G) : et_C w yX9_isLetter (Cond.code yX9_isLetter cX9_isLetter 1 (some .boolean)) rm_Et_isLetter et_eI [.int p0] g (fn_Et_isLetter p0 g) := et_mk hw (by decide) rfl rfl (fun X hX => zw_Et_isLetter hX p0 g)
def rm_Ut_takeWord : Room := { frames := 1, cells := 0, slots := 0, locals := 20 }
def fn_Ut_takeWord_44 (x1 : Int32) (g : et_G) : Option (Int32 × et_G) :=
  some ((g.1 31 2) - x1, g)
def fn_Ut_takeWord_5 (x1 : Int32) : Nat → et_G → Option (Int32 × et_G)
  | 0, _ => none
  | n + 1, g =>
    if (g.1 31 3) ≤ (g.1 31 2) then
      fn_Ut_takeWord_44 x1 g
    else
      et_ck (et_ib (g.1 31 2) 800) (
      et_bd (fn_Et_isLetter (g.1 1 (g.1 31 2).toNatClampNeg) g) (fun v2 g3 =>
      if v2 = 0 then
        fn_Ut_takeWord_44 x1 g3
      else
        et_b (et_si g3 31 2 ((g3.1 31 2) + (1 : Int32))) (fun g4 =>
        fn_Ut_takeWord_5 x1 n g4)))
def fn_Ut_takeWord (g : et_G) : Option (Int32 × et_G) :=
  et_b (g.1 31 2) (fun v1 =>
  fn_Ut_takeWord_5 v1 1000000 g)
theorem zp_Ut_takeWord_44 {X : et_X} {w : et_W} (hX : et_Gd X w cX7_takeWord RX7 2 (some .int) [] rm_Ut_takeWord) (x1 : Int32) (g : et_G) : et_Z X w 0 et_eI 44 [some (.ref (et_ad w 31)), some (.int x1)] [] g (fn_Ut_takeWord_44 x1 g) := by
  unfold fn_Ut_takeWord_44
  refine zi_aload0 (pc := 44) hX dX7_takeWord_44 ?_
  refine zi_geti (pc := 45) hX dX7_takeWord_45 fl_329 ly_31 rfl ?_
  refine zi_iload1 (pc := 48) hX dX7_takeWord_48 ?_
  refine zi_isub (pc := 49) hX dX7_takeWord_49 ?_
  exact zi_ret (pc := 50) hX dX7_takeWord_50 rfl rfl rfl rfl
theorem zp_Ut_takeWord_5 {X : et_X} {w : et_W} (hX : et_Gd X w cX7_takeWord RX7 2 (some .int) [] rm_Ut_takeWord) (x1 : Int32) : ∀ (n : Nat) (g : et_G), et_Z X w 0 et_eI 5 [some (.ref (et_ad w 31)), some (.int x1)] [] g (fn_Ut_takeWord_5 x1 n g) := by
  intro n
  induction n with
  | zero =>
    intro g a g2 h
    cases h
  | succ n ih =>
    intro g
    rw [fn_Ut_takeWord_5]
    refine zi_aload0 (pc := 5) hX dX7_takeWord_5 ?_
    refine zi_geti (pc := 6) hX dX7_takeWord_6 fl_329 ly_31 rfl ?_
    refine zi_aload0 (pc := 9) hX dX7_takeWord_9 ?_
    refine zi_geti (pc := 10) hX dX7_takeWord_10 fl_330 ly_31 rfl ?_
    refine zi_icmp_ge (pc := 13) 44 hX dX7_takeWord_13 (by decide) (fun _ => ?_) (fun _ => ?_)
    · exact zp_Ut_takeWord_44 hX x1 g
    · refine zi_aload0 (pc := 16) hX dX7_takeWord_16 ?_
      refine zi_getr (q := 1) (pc := 17) hX dX7_takeWord_17 fl_327 ly_31 rfl ?_
      refine zi_aload0 (pc := 20) hX dX7_takeWord_20 ?_
      refine zi_geti (pc := 21) hX dX7_takeWord_21 fl_329 ly_31 rfl ?_
      refine zi_bald (pc := 24) hX dX7_takeWord_24 ly_1 ?_
      refine zi_callI (zc_nest (pc := 25) hX dX7_takeWord_25 nl_1153 md_X9_isLetter st_X9_isLetter (ct_Et_isLetter hX.sane (g.1 1 (g.1 31 2).toNatClampNeg) g) rfl rfl rfl) (fun v2 g3 => ?_)
      refine zi_if_eq (pc := 28) 44 hX dX7_takeWord_28 (by decide) (fun _ => ?_) (fun _ => ?_)
      · exact zp_Ut_takeWord_44 hX x1 g3
      · refine zi_aload0 (pc := 31) hX dX7_takeWord_31 ?_
        refine zi_dup (pc := 32) hX dX7_takeWord_32 rfl ?_
        refine zi_geti (pc := 33) hX dX7_takeWord_33 fl_329 ly_31 rfl ?_
        refine zi_iconst (pc := 36) hX dX7_takeWord_36 ki_1 ?_
        refine zi_iadd (pc := 37) hX dX7_takeWord_37 ?_
        refine zi_puti (pc := 38) hX dX7_takeWord_38 fl_329 ly_31 rfl rfl rfl (zi_bg (fun g4 => ?_))
        refine zi_goto (pc := 41) 5 hX dX7_takeWord_41 (by decide) ?_
        exact ih g4
theorem zw_Ut_takeWord {X : et_X} {w : et_W} (hX : et_Gd X w cX7_takeWord RX7 2 (some .int) [] rm_Ut_takeWord) (g : et_G) : et_Z X w 0 et_eI 0 [some (.ref (et_ad w 31)), none] [] g (fn_Ut_takeWord g) := by
  unfold fn_Ut_takeWord
  refine zi_aload0 (pc := 0) hX dX7_takeWord_0 ?_
  refine zi_geti (pc := 1) hX dX7_takeWord_1 fl_329 ly_31 rfl ?_
  refine zi_bi (fun v1 => ?_)
  refine zi_istore1 (pc := 4) hX dX7_takeWord_4 rfl rfl ?_
  exact zp_Ut_takeWord_5 hX v1 1000000 g
theorem ct_Ut_takeWord {w : et_W} (hw : et_Sane w) (g : et_G) : et_C w yX7_takeWord (Cond.code yX7_takeWord cX7_takeWord 2 (some .int)) rm_Ut_takeWord et_eI [.ref (et_ad w 31)] g (fn_Ut_takeWord g) := et_mk hw (by decide) rfl rfl (fun X hX => zw_Ut_takeWord hX g)
def rm_Wa_keep_32 : Room := { frames := 0, cells := 0, slots := 0, locals := 0 }
def fn_Wa_keep_32 (p1 : Int32) (g : et_G) : Option (Unit × et_G) :=
  if (180 : Int32) ≤ (g.1 32 1) then
    some ((), g)
  else
    et_ck (et_ib (g.1 32 1) 180) (et_b (et_si g 33 (g.1 32 1).toNatClampNeg p1) (fun g1 =>
    et_b (et_si g1 32 1 ((g1.1 32 1) + (1 : Int32))) (fun g2 =>
    some ((), g2))))
theorem zw_Wa_keep_32 {X : et_X} {w : et_W} (hX : et_Gd X w cX8_keep RX8 2 (none) [] rm_Wa_keep_32) (p1 : Int32) (g : et_G) : et_Z X w 0 et_eU 0 [some (.ref (et_ad w 32)), some (.int p1)] [] g (fn_Wa_keep_32 p1 g) := by
  unfold fn_Wa_keep_32
  refine zi_aload0 (pc := 0) hX dX8_keep_0 ?_
  refine zi_geti (pc := 1) hX dX8_keep_1 fl_311 ly_32 rfl ?_
  refine zi_aload0 (pc := 4) hX dX8_keep_4 ?_
  refine zi_getr (q := 33) (pc := 5) hX dX8_keep_5 fl_308 ly_32 rfl ?_
  refine zi_alen (pc := 8) hX dX8_keep_8 ly_33 0 (et_t0 w) ka_180 ?_
  refine zi_icmp_ge (pc := 9) 32 hX dX8_keep_9 (by decide) (fun _ => ?_) (fun _ => ?_)
  · exact zi_vret (pc := 32) hX dX8_keep_32 rfl rfl rfl
  · refine zi_aload0 (pc := 12) hX dX8_keep_12 ?_
    refine zi_getr (q := 33) (pc := 13) hX dX8_keep_13 fl_308 ly_32 rfl ?_
    refine zi_aload0 (pc := 16) hX dX8_keep_16 ?_
    refine zi_geti (pc := 17) hX dX8_keep_17 fl_311 ly_32 rfl ?_
    refine zi_iload1 (pc := 20) hX dX8_keep_20 ?_
    refine zi_iast (pc := 21) hX dX8_keep_21 ly_33 (zi_bg (fun g1 => ?_))
    refine zi_aload0 (pc := 22) hX dX8_keep_22 ?_
    refine zi_dup (pc := 23) hX dX8_keep_23 rfl ?_
    refine zi_geti (pc := 24) hX dX8_keep_24 fl_311 ly_32 rfl ?_
    refine zi_iconst (pc := 27) hX dX8_keep_27 ki_1 ?_
    refine zi_iadd (pc := 28) hX dX8_keep_28 ?_
    refine zi_puti (pc := 29) hX dX8_keep_29 fl_311 ly_32 rfl rfl rfl (zi_bg (fun g2 => ?_))
    exact zi_vret (pc := 32) hX dX8_keep_32 rfl rfl rfl
theorem ct_Wa_keep_32 {w : et_W} (hw : et_Sane w) (p1 : Int32) (g : et_G) : et_C w yX8_keep (Cond.code yX8_keep cX8_keep 2 (none)) rm_Wa_keep_32 et_eU [.ref (et_ad w 32), .int p1] g (fn_Wa_keep_32 p1 g) := et_mk hw (by decide) rfl rfl (fun X hX => zw_Wa_keep_32 hX p1 g)
def rm_Wa_find_32_1 : Room := { frames := 4, cells := 0, slots := 0, locals := 98 }
def fn_Wa_find_32_1_43 (r22 : Int32 → et_G → Option (Unit × et_G)) (r34 : Int32 → et_G → Option (Unit × et_G)) (x3 : Int32) (x4 : Int32) (x5 : Int32) (x6 : Int32) : Nat → Int32 → et_G → Option (Unit × et_G)
  | 0, _, _ => none
  | n + 1, x7, g =>
    if (5 : Int32) ≤ x7 then
      et_b (x6 + (1 : Int32)) (fun v3 =>
      r34 v3 g)
    else
      et_bd (fn_To_make x5 x6 x7 g) (fun v4 g5 =>
      if v4 = x4 then
        et_bd (fn_To_isMade_1 x3 x4 g5) (fun v7 g8 =>
        if v7 = 0 then
          et_b (x7 + (1 : Int32)) (fun v9 =>
          fn_Wa_find_32_1_43 r22 r34 x3 x4 x5 x6 n v9 g8)
        else
          et_bd (fn_Wa_keep_32 ((((15 : Int32) * x5) + ((5 : Int32) * x6)) + x7) g8) (fun _ g11 =>
          et_b (x7 + (1 : Int32)) (fun v12 =>
          fn_Wa_find_32_1_43 r22 r34 x3 x4 x5 x6 n v12 g11)))
      else
        et_b (x7 + (1 : Int32)) (fun v6 =>
        fn_Wa_find_32_1_43 r22 r34 x3 x4 x5 x6 n v6 g5))
def fn_Wa_find_32_1_34 (r22 : Int32 → et_G → Option (Unit × et_G)) (x3 : Int32) (x4 : Int32) (x5 : Int32) : Nat → Int32 → et_G → Option (Unit × et_G)
  | 0, _, _ => none
  | n + 1, x6, g =>
    if (3 : Int32) ≤ x6 then
      et_b (x5 + (1 : Int32)) (fun v2 =>
      r22 v2 g)
    else
      fn_Wa_find_32_1_43 r22 (fun z6 g => fn_Wa_find_32_1_34 r22 x3 x4 x5 n z6 g) x3 x4 x5 x6 1000000 (0 : Int32) g
def fn_Wa_find_32_1_22 (x3 : Int32) (x4 : Int32) : Nat → Int32 → et_G → Option (Unit × et_G)
  | 0, _, _ => none
  | n + 1, x5, g =>
    if (g.1 3 2) ≤ x5 then
      some ((), g)
    else
      fn_Wa_find_32_1_34 (fun z5 g => fn_Wa_find_32_1_22 x3 x4 n z5 g) x3 x4 x5 1000000 (0 : Int32) g
def fn_Wa_find_32_1 (p3 : Int32) (p4 : Int32) (g : et_G) : Option (Unit × et_G) :=
  et_b (et_si g 32 1 (0 : Int32)) (fun g1 =>
  if p4 < (1 : Int32) then
    some ((), g1)
  else
    if p4 ≤ (24 : Int32) then
      fn_Wa_find_32_1_22 p3 p4 1000000 (0 : Int32) g1
    else
      some ((), g1))
theorem zp_Wa_find_32_1_43 {X : et_X} {w : et_W} (hX : et_Gd X w cX8_find RX8 8 (none) [] rm_Wa_find_32_1) (r22 : Int32 → et_G → Option (Unit × et_G)) (r34 : Int32 → et_G → Option (Unit × et_G)) (x3 : Int32) (x4 : Int32) (x5 : Int32) (x6 : Int32) (hr22 : ∀ (y5 : Int32) (g : et_G), et_Z X w 0 et_eU 22 [some (.ref (et_ad w 32)), some (.ref (et_ad w 3)), some (.ref (et_ad w 1)), some (.int x3), some (.int x4), some (.int y5), none, none] [] g (r22 y5 g)) (hr34 : ∀ (y6 : Int32) (g : et_G), et_Z X w 0 et_eU 34 [some (.ref (et_ad w 32)), some (.ref (et_ad w 3)), some (.ref (et_ad w 1)), some (.int x3), some (.int x4), some (.int x5), some (.int y6), none] [] g (r34 y6 g)) : ∀ (n : Nat) (x7 : Int32) (g : et_G), et_Z X w 0 et_eU 43 [some (.ref (et_ad w 32)), some (.ref (et_ad w 3)), some (.ref (et_ad w 1)), some (.int x3), some (.int x4), some (.int x5), some (.int x6), some (.int x7)] [] g (fn_Wa_find_32_1_43 r22 r34 x3 x4 x5 x6 n x7 g) := by
  intro n
  induction n with
  | zero =>
    intro x7 g a g2 h
    cases h
  | succ n ih =>
    intro x7 g
    rw [fn_Wa_find_32_1_43]
    refine zi_iload7 (pc := 43) hX dX8_find_43 ?_
    refine zi_iconst (pc := 45) hX dX8_find_45 ki_5 ?_
    refine zi_icmp_ge (pc := 46) 98 hX dX8_find_46 (by decide) (fun _ => ?_) (fun _ => ?_)
    · refine zi_iincb6 (pc := 98) hX dX8_find_98 (kn_1 _) rfl rfl (fun v3 => ?_)
      refine zi_goto (pc := 101) 34 hX dX8_find_101 (by decide) ?_
      refine zi_drop (le_s (le_s (le_s (le_s (le_s (le_s (le_s (le_n le_nil)))))))) ?_; exact hr34 v3 g
    · refine zi_aload1 (pc := 49) hX dX8_find_49 ?_
      refine zi_iload5 (pc := 50) hX dX8_find_50 ?_
      refine zi_iload6 (pc := 52) hX dX8_find_52 ?_
      refine zi_iload7 (pc := 54) hX dX8_find_54 ?_
      refine zi_callI (zc_virt (pc := 56) hX dX8_find_56 tm_1105 md_X5_make mi_X5_make ly_3 (ct_To_make hX.sane x5 x6 x7 g) rfl rfl rfl) (fun v4 g5 => ?_)
      refine zi_iload4 (pc := 59) hX dX8_find_59 ?_
      refine zi_icmp_ne (pc := 61) 92 hX dX8_find_61 (by decide) (fun _ => ?_) (fun _ => ?_)
      · refine zi_aload1 (pc := 64) hX dX8_find_64 ?_
        refine zi_aload2 (pc := 65) hX dX8_find_65 ?_
        refine zi_iload3 (pc := 66) hX dX8_find_66 ?_
        refine zi_iload4 (pc := 67) hX dX8_find_67 ?_
        refine zi_callI (zc_virt (pc := 69) hX dX8_find_69 tm_1106 md_X5_isMade mi_X5_isMade ly_3 (ct_To_isMade_1 hX.sane x3 x4 g5) rfl rfl rfl) (fun v7 g8 => ?_)
        refine zi_if_eq (pc := 72) 92 hX dX8_find_72 (by decide) (fun _ => ?_) (fun _ => ?_)
        · refine zi_iincb7 (pc := 92) hX dX8_find_92 (kn_1 _) rfl rfl (fun v9 => ?_)
          refine zi_goto (pc := 95) 43 hX dX8_find_95 (by decide) ?_
          exact ih v9 g8
        · refine zi_aload0 (pc := 75) hX dX8_find_75 ?_
          refine zi_bipush (pc := 76) hX dX8_find_76 kb_15 ?_
          refine zi_iload5 (pc := 78) hX dX8_find_78 ?_
          refine zi_imul (pc := 80) hX dX8_find_80 ?_
          refine zi_iconst (pc := 81) hX dX8_find_81 ki_5 ?_
          refine zi_iload6 (pc := 82) hX dX8_find_82 ?_
          refine zi_imul (pc := 84) hX dX8_find_84 ?_
          refine zi_iadd (pc := 85) hX dX8_find_85 ?_
          refine zi_iload7 (pc := 86) hX dX8_find_86 ?_
          refine zi_iadd (pc := 88) hX dX8_find_88 ?_
          refine zi_callU (zc_virt (pc := 89) hX dX8_find_89 tm_1110 md_X8_keep mi_X8_keep ly_32 (ct_Wa_keep_32 hX.sane ((((15 : Int32) * x5) + ((5 : Int32) * x6)) + x7) g8) rfl rfl rfl) (fun g11 => ?_)
          refine zi_iincb7 (pc := 92) hX dX8_find_92 (kn_1 _) rfl rfl (fun v12 => ?_)
          refine zi_goto (pc := 95) 43 hX dX8_find_95 (by decide) ?_
          exact ih v12 g11
      · refine zi_iincb7 (pc := 92) hX dX8_find_92 (kn_1 _) rfl rfl (fun v6 => ?_)
        refine zi_goto (pc := 95) 43 hX dX8_find_95 (by decide) ?_
        exact ih v6 g5
theorem zp_Wa_find_32_1_34 {X : et_X} {w : et_W} (hX : et_Gd X w cX8_find RX8 8 (none) [] rm_Wa_find_32_1) (r22 : Int32 → et_G → Option (Unit × et_G)) (x3 : Int32) (x4 : Int32) (x5 : Int32) (hr22 : ∀ (y5 : Int32) (g : et_G), et_Z X w 0 et_eU 22 [some (.ref (et_ad w 32)), some (.ref (et_ad w 3)), some (.ref (et_ad w 1)), some (.int x3), some (.int x4), some (.int y5), none, none] [] g (r22 y5 g)) : ∀ (n : Nat) (x6 : Int32) (g : et_G), et_Z X w 0 et_eU 34 [some (.ref (et_ad w 32)), some (.ref (et_ad w 3)), some (.ref (et_ad w 1)), some (.int x3), some (.int x4), some (.int x5), some (.int x6), none] [] g (fn_Wa_find_32_1_34 r22 x3 x4 x5 n x6 g) := by
  intro n
  induction n with
  | zero =>
    intro x6 g a g2 h
    cases h
  | succ n ih =>
    intro x6 g
    rw [fn_Wa_find_32_1_34]
    refine zi_iload6 (pc := 34) hX dX8_find_34 ?_
    refine zi_iconst (pc := 36) hX dX8_find_36 ki_3 ?_
    refine zi_icmp_ge (pc := 37) 104 hX dX8_find_37 (by decide) (fun _ => ?_) (fun _ => ?_)
    · refine zi_iincb5 (pc := 104) hX dX8_find_104 (kn_1 _) rfl rfl (fun v2 => ?_)
      refine zi_goto (pc := 107) 22 hX dX8_find_107 (by decide) ?_
      refine zi_drop (le_s (le_s (le_s (le_s (le_s (le_s (le_n (le_s le_nil)))))))) ?_; exact hr22 v2 g
    · refine zi_iconst (pc := 40) hX dX8_find_40 ki_0 ?_
      refine zi_istore7 (pc := 41) hX dX8_find_41 rfl rfl ?_
      exact zp_Wa_find_32_1_43 hX r22 (fun z6 g => fn_Wa_find_32_1_34 r22 x3 x4 x5 n z6 g) x3 x4 x5 x6 hr22 (fun z6 g => ih z6 g) 1000000 (0 : Int32) g
theorem zp_Wa_find_32_1_22 {X : et_X} {w : et_W} (hX : et_Gd X w cX8_find RX8 8 (none) [] rm_Wa_find_32_1) (x3 : Int32) (x4 : Int32) : ∀ (n : Nat) (x5 : Int32) (g : et_G), et_Z X w 0 et_eU 22 [some (.ref (et_ad w 32)), some (.ref (et_ad w 3)), some (.ref (et_ad w 1)), some (.int x3), some (.int x4), some (.int x5), none, none] [] g (fn_Wa_find_32_1_22 x3 x4 n x5 g) := by
  intro n
  induction n with
  | zero =>
    intro x5 g a g2 h
    cases h
  | succ n ih =>
    intro x5 g
    rw [fn_Wa_find_32_1_22]
    refine zi_iload5 (pc := 22) hX dX8_find_22 ?_
    refine zi_aload1 (pc := 24) hX dX8_find_24 ?_
    refine zi_geti (pc := 25) hX dX8_find_25 fl_159 ly_3 rfl ?_
    refine zi_icmp_ge (pc := 28) 110 hX dX8_find_28 (by decide) (fun _ => ?_) (fun _ => ?_)
    · exact zi_vret (pc := 110) hX dX8_find_110 rfl rfl rfl
    · refine zi_iconst (pc := 31) hX dX8_find_31 ki_0 ?_
      refine zi_istore6 (pc := 32) hX dX8_find_32 rfl rfl ?_
      exact zp_Wa_find_32_1_34 hX (fun z5 g => fn_Wa_find_32_1_22 x3 x4 n z5 g) x3 x4 x5 (fun z5 g => ih z5 g) 1000000 (0 : Int32) g
theorem zw_Wa_find_32_1 {X : et_X} {w : et_W} (hX : et_Gd X w cX8_find RX8 8 (none) [] rm_Wa_find_32_1) (p3 : Int32) (p4 : Int32) (g : et_G) : et_Z X w 0 et_eU 0 [some (.ref (et_ad w 32)), some (.ref (et_ad w 3)), some (.ref (et_ad w 1)), some (.int p3), some (.int p4), none, none, none] [] g (fn_Wa_find_32_1 p3 p4 g) := by
  unfold fn_Wa_find_32_1
  refine zi_aload0 (pc := 0) hX dX8_find_0 ?_
  refine zi_iconst (pc := 1) hX dX8_find_1 ki_0 ?_
  refine zi_puti (pc := 2) hX dX8_find_2 fl_311 ly_32 rfl rfl rfl (zi_bg (fun g1 => ?_))
  refine zi_iload4 (pc := 5) hX dX8_find_5 ?_
  refine zi_iconst (pc := 7) hX dX8_find_7 ki_1 ?_
  refine zi_icmp_lt (pc := 8) 18 hX dX8_find_8 (by decide) (fun _ => ?_) (fun _ => ?_)
  · exact zi_vret (pc := 18) hX dX8_find_18 rfl rfl rfl
  · refine zi_iload4 (pc := 11) hX dX8_find_11 ?_
    refine zi_bipush (pc := 13) hX dX8_find_13 kb_24 ?_
    refine zi_icmp_le (pc := 15) 19 hX dX8_find_15 (by decide) (fun _ => ?_) (fun _ => ?_)
    · refine zi_iconst (pc := 19) hX dX8_find_19 ki_0 ?_
      refine zi_istore5 (pc := 20) hX dX8_find_20 rfl rfl ?_
      exact zp_Wa_find_32_1_22 hX p3 p4 1000000 (0 : Int32) g1
    · exact zi_vret (pc := 18) hX dX8_find_18 rfl rfl rfl
theorem ct_Wa_find_32_1 {w : et_W} (hw : et_Sane w) (p3 : Int32) (p4 : Int32) (g : et_G) : et_C w yX8_find (Cond.code yX8_find cX8_find 8 (none)) rm_Wa_find_32_1 et_eU [.ref (et_ad w 32), .ref (et_ad w 3), .ref (et_ad w 1), .int p3, .int p4] g (fn_Wa_find_32_1 p3 p4 g) := et_mk hw (by decide) rfl rfl (fun X hX => zw_Wa_find_32_1 hX p3 p4 g)
def rm_Tw_thingOfStem : Room := { frames := 0, cells := 0, slots := 0, locals := 0 }
def fn_Tw_thingOfStem_2 (x1 : Int32) : Nat → Int32 → et_G → Option (Int32 × et_G)
  | 0, _, _ => none
  | n + 1, x2, g =>
    if (g.1 2 5) ≤ x2 then
      some ((-1 : Int32), g)
    else
      et_ck (et_ib x2 8) (
      if (g.1 9 x2.toNatClampNeg) = x1 then
        some (x2, g)
      else
        et_b (x2 + (1 : Int32)) (fun v1 =>
        fn_Tw_thingOfStem_2 x1 n v1 g))
def fn_Tw_thingOfStem (p1 : Int32) (g : et_G) : Option (Int32 × et_G) :=
  fn_Tw_thingOfStem_2 p1 1000000 (0 : Int32) g
theorem zp_Tw_thingOfStem_2 {X : et_X} {w : et_W} (hX : et_Gd X w cX6_thingOfStem RX6 3 (some .int) [] rm_Tw_thingOfStem) (x1 : Int32) : ∀ (n : Nat) (x2 : Int32) (g : et_G), et_Z X w 0 et_eI 2 [some (.ref (et_ad w 2)), some (.int x1), some (.int x2)] [] g (fn_Tw_thingOfStem_2 x1 n x2 g) := by
  intro n
  induction n with
  | zero =>
    intro x2 g a g2 h
    cases h
  | succ n ih =>
    intro x2 g
    rw [fn_Tw_thingOfStem_2]
    refine zi_iload2 (pc := 2) hX dX6_thingOfStem_2 ?_
    refine zi_aload0 (pc := 3) hX dX6_thingOfStem_3 ?_
    refine zi_geti (pc := 4) hX dX6_thingOfStem_4 fl_198 ly_2 rfl ?_
    refine zi_icmp_ge (pc := 7) 28 hX dX6_thingOfStem_7 (by decide) (fun _ => ?_) (fun _ => ?_)
    · refine zi_iconst (pc := 28) hX dX6_thingOfStem_28 ki_m1 ?_
      exact zi_ret (pc := 29) hX dX6_thingOfStem_29 rfl rfl rfl rfl
    · refine zi_aload0 (pc := 10) hX dX6_thingOfStem_10 ?_
      refine zi_getr (q := 9) (pc := 11) hX dX6_thingOfStem_11 fl_203 ly_2 rfl ?_
      refine zi_iload2 (pc := 14) hX dX6_thingOfStem_14 ?_
      refine zi_iald (pc := 15) hX dX6_thingOfStem_15 ly_9 ?_
      refine zi_iload1 (pc := 16) hX dX6_thingOfStem_16 ?_
      refine zi_icmp_ne (pc := 17) 22 hX dX6_thingOfStem_17 (by decide) (fun _ => ?_) (fun _ => ?_)
      · refine zi_iload2 (pc := 20) hX dX6_thingOfStem_20 ?_
        exact zi_ret (pc := 21) hX dX6_thingOfStem_21 rfl rfl rfl rfl
      · refine zi_iincb2 (pc := 22) hX dX6_thingOfStem_22 (kn_1 _) rfl rfl (fun v1 => ?_)
        refine zi_goto (pc := 25) 2 hX dX6_thingOfStem_25 (by decide) ?_
        exact ih v1 g
theorem zw_Tw_thingOfStem {X : et_X} {w : et_W} (hX : et_Gd X w cX6_thingOfStem RX6 3 (some .int) [] rm_Tw_thingOfStem) (p1 : Int32) (g : et_G) : et_Z X w 0 et_eI 0 [some (.ref (et_ad w 2)), some (.int p1), none] [] g (fn_Tw_thingOfStem p1 g) := by
  unfold fn_Tw_thingOfStem
  refine zi_iconst (pc := 0) hX dX6_thingOfStem_0 ki_0 ?_
  refine zi_istore2 (pc := 1) hX dX6_thingOfStem_1 rfl rfl ?_
  exact zp_Tw_thingOfStem_2 hX p1 1000000 (0 : Int32) g
theorem ct_Tw_thingOfStem {w : et_W} (hw : et_Sane w) (p1 : Int32) (g : et_G) : et_C w yX6_thingOfStem (Cond.code yX6_thingOfStem cX6_thingOfStem 3 (some .int)) rm_Tw_thingOfStem et_eI [.ref (et_ad w 2), .int p1] g (fn_Tw_thingOfStem p1 g) := et_mk hw (by decide) rfl rfl (fun X hX => zw_Tw_thingOfStem hX p1 g)
def rm_Ut_isOneWay : Room := { frames := 1, cells := 0, slots := 0, locals := 22 }
def fn_Ut_isOneWay (g : et_G) : Option (Int32 × et_G) :=
  if (g.1 32 1) = (1 : Int32) then
    et_ck (et_ib (0 : Int32) 180) (
    et_b (g.1 33 (0 : Int32).toNatClampNeg) (fun v1 =>
    et_b (et_si g 31 6 (v1 - v1 / (5 : Int32) * (5 : Int32))) (fun g2 =>
    et_bd (fn_Tw_thingOfStem (v1 / (15 : Int32)) g2) (fun v3 g4 =>
    et_b (et_si g4 31 5 v3) (fun g5 =>
    if ((v1 / (5 : Int32)) - (v1 / (5 : Int32)) / (3 : Int32) * (3 : Int32)) = (2 : Int32) then
      if (g5.1 31 5) = (-1 : Int32) then
        some ((0 : Int32), g5)
      else
        some ((1 : Int32), g5)
    else
      some ((0 : Int32), g5))))))
  else
    some ((0 : Int32), g)
theorem zw_Ut_isOneWay {X : et_X} {w : et_W} (hX : et_Gd X w cX7_isOneWay RX7 3 (some .boolean) [] rm_Ut_isOneWay) (g : et_G) : et_Z X w 0 et_eI 0 [some (.ref (et_ad w 31)), some (.ref (et_ad w 2)), none] [] g (fn_Ut_isOneWay g) := by
  unfold fn_Ut_isOneWay
  refine zi_aload0 (pc := 0) hX dX7_isOneWay_0 ?_
  refine zi_getr (q := 32) (pc := 1) hX dX7_isOneWay_1 fl_328 ly_31 rfl ?_
  refine zi_geti (pc := 4) hX dX7_isOneWay_4 fl_312 ly_32 rfl ?_
  refine zi_iconst (pc := 7) hX dX7_isOneWay_7 ki_1 ?_
  refine zi_icmp_eq (pc := 8) 13 hX dX7_isOneWay_8 (by decide) (fun _ => ?_) (fun _ => ?_)
  · refine zi_aload0 (pc := 13) hX dX7_isOneWay_13 ?_
    refine zi_getr (q := 32) (pc := 14) hX dX7_isOneWay_14 fl_328 ly_31 rfl ?_
    refine zi_getr (q := 33) (pc := 17) hX dX7_isOneWay_17 fl_309 ly_32 rfl ?_
    refine zi_iconst (pc := 20) hX dX7_isOneWay_20 ki_0 ?_
    refine zi_iald (pc := 21) hX dX7_isOneWay_21 ly_33 ?_
    refine zi_bi (fun v1 => ?_)
    refine zi_istore2 (pc := 22) hX dX7_isOneWay_22 rfl rfl ?_
    refine zi_aload0 (pc := 23) hX dX7_isOneWay_23 ?_
    refine zi_iload2 (pc := 24) hX dX7_isOneWay_24 ?_
    refine zi_iconst (pc := 25) hX dX7_isOneWay_25 ki_5 ?_
    refine zi_irem (pc := 26) hX dX7_isOneWay_26 (by decide) ?_
    refine zi_puti (pc := 27) hX dX7_isOneWay_27 fl_335 ly_31 rfl rfl rfl (zi_bg (fun g2 => ?_))
    refine zi_aload0 (pc := 30) hX dX7_isOneWay_30 ?_
    refine zi_aload1 (pc := 31) hX dX7_isOneWay_31 ?_
    refine zi_iload2 (pc := 32) hX dX7_isOneWay_32 ?_
    refine zi_bipush (pc := 33) hX dX7_isOneWay_33 kb_15 ?_
    refine zi_idiv (pc := 35) hX dX7_isOneWay_35 (by decide) ?_
    refine zi_callI (zc_virt (pc := 36) hX dX7_isOneWay_36 tm_1164 md_X6_thingOfStem mi_X6_thingOfStem ly_2 (ct_Tw_thingOfStem hX.sane (v1 / (15 : Int32)) g2) rfl rfl rfl) (fun v3 g4 => ?_)
    refine zi_puti (pc := 39) hX dX7_isOneWay_39 fl_333 ly_31 rfl rfl rfl (zi_bg (fun g5 => ?_))
    refine zi_iload2 (pc := 42) hX dX7_isOneWay_42 ?_
    refine zi_iconst (pc := 43) hX dX7_isOneWay_43 ki_5 ?_
    refine zi_idiv (pc := 44) hX dX7_isOneWay_44 (by decide) ?_
    refine zi_iconst (pc := 45) hX dX7_isOneWay_45 ki_3 ?_
    refine zi_irem (pc := 46) hX dX7_isOneWay_46 (by decide) ?_
    refine zi_iconst (pc := 47) hX dX7_isOneWay_47 ki_2 ?_
    refine zi_icmp_ne (pc := 48) 63 hX dX7_isOneWay_48 (by decide) (fun _ => ?_) (fun _ => ?_)
    · refine zi_aload0 (pc := 51) hX dX7_isOneWay_51 ?_
      refine zi_geti (pc := 52) hX dX7_isOneWay_52 fl_333 ly_31 rfl ?_
      refine zi_iconst (pc := 55) hX dX7_isOneWay_55 ki_m1 ?_
      refine zi_icmp_eq (pc := 56) 63 hX dX7_isOneWay_56 (by decide) (fun _ => ?_) (fun _ => ?_)
      · refine zi_iconst (pc := 63) hX dX7_isOneWay_63 ki_0 ?_
        exact zi_ret (pc := 64) hX dX7_isOneWay_64 et_z0 rfl rfl rfl
      · refine zi_iconst (pc := 59) hX dX7_isOneWay_59 ki_1 ?_
        refine zi_goto (pc := 60) 64 hX dX7_isOneWay_60 (by decide) ?_
        exact zi_ret (pc := 64) hX dX7_isOneWay_64 et_z1 rfl rfl rfl
    · refine zi_iconst (pc := 63) hX dX7_isOneWay_63 ki_0 ?_
      exact zi_ret (pc := 64) hX dX7_isOneWay_64 et_z0 rfl rfl rfl
  · refine zi_iconst (pc := 11) hX dX7_isOneWay_11 ki_0 ?_
    exact zi_ret (pc := 12) hX dX7_isOneWay_12 et_z0 rfl rfl rfl
theorem ct_Ut_isOneWay {w : et_W} (hw : et_Sane w) (g : et_G) : et_C w yX7_isOneWay (Cond.code yX7_isOneWay cX7_isOneWay 3 (some .boolean)) rm_Ut_isOneWay et_eI [.ref (et_ad w 31), .ref (et_ad w 2)] g (fn_Ut_isOneWay g) := et_mk hw (by decide) rfl rfl (fun X hX => zw_Ut_isOneWay hX g)
def rm_To_hasNot : Room := { frames := 0, cells := 0, slots := 0, locals := 0 }
def fn_To_hasNot (g : et_G) : Option (Int32 × et_G) :=
  et_ck (et_ib (45 : Int32) 46) (
  if (g.1 5 (45 : Int32).toNatClampNeg) ≤ 0 then
    some ((0 : Int32), g)
  else
    some ((1 : Int32), g))
theorem zw_To_hasNot {X : et_X} {w : et_W} (hX : et_Gd X w cX5_hasNot RX5 1 (some .boolean) [] rm_To_hasNot) (g : et_G) : et_Z X w 0 et_eI 0 [some (.ref (et_ad w 3))] [] g (fn_To_hasNot g) := by
  unfold fn_To_hasNot
  refine zi_aload0 (pc := 0) hX dX5_hasNot_0 ?_
  refine zi_getr (q := 5) (pc := 1) hX dX5_hasNot_1 fl_157 ly_3 rfl ?_
  refine zi_bipush (pc := 4) hX dX5_hasNot_4 kb_45 ?_
  refine zi_iald (pc := 6) hX dX5_hasNot_6 ly_5 ?_
  refine zi_if_le (pc := 7) 14 hX dX5_hasNot_7 (by decide) (fun _ => ?_) (fun _ => ?_)
  · refine zi_iconst (pc := 14) hX dX5_hasNot_14 ki_0 ?_
    exact zi_ret (pc := 15) hX dX5_hasNot_15 et_z0 rfl rfl rfl
  · refine zi_iconst (pc := 10) hX dX5_hasNot_10 ki_1 ?_
    refine zi_goto (pc := 11) 15 hX dX5_hasNot_11 (by decide) ?_
    exact zi_ret (pc := 15) hX dX5_hasNot_15 et_z1 rfl rfl rfl
theorem ct_To_hasNot {w : et_W} (hw : et_Sane w) (g : et_G) : et_C w yX5_hasNot (Cond.code yX5_hasNot cX5_hasNot 1 (some .boolean)) rm_To_hasNot et_eI [.ref (et_ad w 3)] g (fn_To_hasNot g) := et_mk hw (by decide) rfl rfl (fun X hX => zw_To_hasNot hX g)
def rm_Et_areSame_4_1 : Room := { frames := 0, cells := 0, slots := 0, locals := 0 }
def fn_Et_areSame_4_1_31 (x1 : Int32) (x3 : Int32) (x4 : Int32) : Nat → Int32 → et_G → Option (Int32 × et_G)
  | 0, _, _ => none
  | n + 1, x5, g =>
    if x4 ≤ x5 then
      some ((1 : Int32), g)
    else
      et_ck (et_ib (x1 + x5) 368) (
      et_ck (et_ib (x3 + x5) 800) (
      if (g.1 4 (x1 + x5).toNatClampNeg) = (g.1 1 (x3 + x5).toNatClampNeg) then
        et_b (x5 + (1 : Int32)) (fun v1 =>
        fn_Et_areSame_4_1_31 x1 x3 x4 n v1 g)
      else
        some ((0 : Int32), g)))
def fn_Et_areSame_4_1 (p1 : Int32) (p3 : Int32) (p4 : Int32) (g : et_G) : Option (Int32 × et_G) :=
  if p1 < 0 then
    some ((0 : Int32), g)
  else
    if (368 : Int32) < (p1 + p4) then
      some ((0 : Int32), g)
    else
      if p3 < 0 then
        some ((0 : Int32), g)
      else
        if (p3 + p4) ≤ (800 : Int32) then
          fn_Et_areSame_4_1_31 p1 p3 p4 1000000 (0 : Int32) g
        else
          some ((0 : Int32), g)
theorem zp_Et_areSame_4_1_31 {X : et_X} {w : et_W} (hX : et_Gd X w cX9_areSame RX9 6 (some .boolean) [] rm_Et_areSame_4_1) (x1 : Int32) (x3 : Int32) (x4 : Int32) : ∀ (n : Nat) (x5 : Int32) (g : et_G), et_Z X w 0 et_eI 31 [some (.ref (et_ad w 4)), some (.int x1), some (.ref (et_ad w 1)), some (.int x3), some (.int x4), some (.int x5)] [] g (fn_Et_areSame_4_1_31 x1 x3 x4 n x5 g) := by
  intro n
  induction n with
  | zero =>
    intro x5 g a g2 h
    cases h
  | succ n ih =>
    intro x5 g
    rw [fn_Et_areSame_4_1_31]
    refine zi_iload5 (pc := 31) hX dX9_areSame_31 ?_
    refine zi_iload4 (pc := 33) hX dX9_areSame_33 ?_
    refine zi_icmp_ge (pc := 35) 61 hX dX9_areSame_35 (by decide) (fun _ => ?_) (fun _ => ?_)
    · refine zi_iconst (pc := 61) hX dX9_areSame_61 ki_1 ?_
      exact zi_ret (pc := 62) hX dX9_areSame_62 et_z1 rfl rfl rfl
    · refine zi_aload0 (pc := 38) hX dX9_areSame_38 ?_
      refine zi_iload1 (pc := 39) hX dX9_areSame_39 ?_
      refine zi_iload5 (pc := 40) hX dX9_areSame_40 ?_
      refine zi_iadd (pc := 42) hX dX9_areSame_42 ?_
      refine zi_bald (pc := 43) hX dX9_areSame_43 ly_4 ?_
      refine zi_aload2 (pc := 44) hX dX9_areSame_44 ?_
      refine zi_iload3 (pc := 45) hX dX9_areSame_45 ?_
      refine zi_iload5 (pc := 46) hX dX9_areSame_46 ?_
      refine zi_iadd (pc := 48) hX dX9_areSame_48 ?_
      refine zi_bald (pc := 49) hX dX9_areSame_49 ly_1 ?_
      refine zi_icmp_eq (pc := 50) 55 hX dX9_areSame_50 (by decide) (fun _ => ?_) (fun _ => ?_)
      · refine zi_iincb5 (pc := 55) hX dX9_areSame_55 (kn_1 _) rfl rfl (fun v1 => ?_)
        refine zi_goto (pc := 58) 31 hX dX9_areSame_58 (by decide) ?_
        exact ih v1 g
      · refine zi_iconst (pc := 53) hX dX9_areSame_53 ki_0 ?_
        exact zi_ret (pc := 54) hX dX9_areSame_54 et_z0 rfl rfl rfl
theorem zw_Et_areSame_4_1 {X : et_X} {w : et_W} (hX : et_Gd X w cX9_areSame RX9 6 (some .boolean) [] rm_Et_areSame_4_1) (p1 : Int32) (p3 : Int32) (p4 : Int32) (g : et_G) : et_Z X w 0 et_eI 0 [some (.ref (et_ad w 4)), some (.int p1), some (.ref (et_ad w 1)), some (.int p3), some (.int p4), none] [] g (fn_Et_areSame_4_1 p1 p3 p4 g) := by
  unfold fn_Et_areSame_4_1
  refine zi_iload1 (pc := 0) hX dX9_areSame_0 ?_
  refine zi_if_lt (pc := 1) 26 hX dX9_areSame_1 (by decide) (fun _ => ?_) (fun _ => ?_)
  · refine zi_iconst (pc := 26) hX dX9_areSame_26 ki_0 ?_
    exact zi_ret (pc := 27) hX dX9_areSame_27 et_z0 rfl rfl rfl
  · refine zi_iload1 (pc := 4) hX dX9_areSame_4 ?_
    refine zi_iload4 (pc := 5) hX dX9_areSame_5 ?_
    refine zi_iadd (pc := 7) hX dX9_areSame_7 ?_
    refine zi_aload0 (pc := 8) hX dX9_areSame_8 ?_
    refine zi_alen (pc := 9) hX dX9_areSame_9 ly_4 1 (et_t1 w) ka_368 ?_
    refine zi_icmp_gt (pc := 10) 26 hX dX9_areSame_10 (by decide) (fun _ => ?_) (fun _ => ?_)
    · refine zi_iconst (pc := 26) hX dX9_areSame_26 ki_0 ?_
      exact zi_ret (pc := 27) hX dX9_areSame_27 et_z0 rfl rfl rfl
    · refine zi_iload3 (pc := 13) hX dX9_areSame_13 ?_
      refine zi_if_lt (pc := 14) 26 hX dX9_areSame_14 (by decide) (fun _ => ?_) (fun _ => ?_)
      · refine zi_iconst (pc := 26) hX dX9_areSame_26 ki_0 ?_
        exact zi_ret (pc := 27) hX dX9_areSame_27 et_z0 rfl rfl rfl
      · refine zi_iload3 (pc := 17) hX dX9_areSame_17 ?_
        refine zi_iload4 (pc := 18) hX dX9_areSame_18 ?_
        refine zi_iadd (pc := 20) hX dX9_areSame_20 ?_
        refine zi_aload2 (pc := 21) hX dX9_areSame_21 ?_
        refine zi_alen (pc := 22) hX dX9_areSame_22 ly_1 1 (et_t1 w) ka_800 ?_
        refine zi_icmp_le (pc := 23) 28 hX dX9_areSame_23 (by decide) (fun _ => ?_) (fun _ => ?_)
        · refine zi_iconst (pc := 28) hX dX9_areSame_28 ki_0 ?_
          refine zi_istore5 (pc := 29) hX dX9_areSame_29 rfl rfl ?_
          exact zp_Et_areSame_4_1_31 hX p1 p3 p4 1000000 (0 : Int32) g
        · refine zi_iconst (pc := 26) hX dX9_areSame_26 ki_0 ?_
          exact zi_ret (pc := 27) hX dX9_areSame_27 et_z0 rfl rfl rfl
theorem ct_Et_areSame_4_1 {w : et_W} (hw : et_Sane w) (p1 : Int32) (p3 : Int32) (p4 : Int32) (g : et_G) : et_C w yX9_areSame (Cond.code yX9_areSame cX9_areSame 6 (some .boolean)) rm_Et_areSame_4_1 et_eI [.ref (et_ad w 4), .int p1, .ref (et_ad w 1), .int p3, .int p4] g (fn_Et_areSame_4_1 p1 p3 p4 g) := et_mk hw (by decide) rfl rfl (fun X hX => zw_Et_areSame_4_1 hX p1 p3 p4 g)
def rm_To_isNot_1 : Room := { frames := 1, cells := 0, slots := 0, locals := 25 }
def fn_To_isNot_1 (p2 : Int32) (p3 : Int32) (g : et_G) : Option (Int32 × et_G) :=
  et_bd (fn_To_hasNot g) (fun v1 g2 =>
  if v1 = 0 then
    some ((0 : Int32), g2)
  else
    et_ck (et_ib (45 : Int32) 46) (
    if p3 = (g2.1 5 (45 : Int32).toNatClampNeg) then
      et_bd (fn_Et_areSame_4_1 (360 : Int32) p2 p3 g2) (fun v3 g4 =>
      if v3 = 0 then
        some ((0 : Int32), g4)
      else
        some ((1 : Int32), g4))
    else
      some ((0 : Int32), g2)))
theorem zw_To_isNot_1 {X : et_X} {w : et_W} (hX : et_Gd X w cX5_isNot RX5 4 (some .boolean) [] rm_To_isNot_1) (p2 : Int32) (p3 : Int32) (g : et_G) : et_Z X w 0 et_eI 0 [some (.ref (et_ad w 3)), some (.ref (et_ad w 1)), some (.int p2), some (.int p3)] [] g (fn_To_isNot_1 p2 p3 g) := by
  unfold fn_To_isNot_1
  refine zi_aload0 (pc := 0) hX dX5_isNot_0 ?_
  refine zi_callI (zc_virt (pc := 1) hX dX5_isNot_1 tm_1158 md_X5_hasNot mi_X5_hasNot ly_3 (ct_To_hasNot hX.sane g) rfl rfl rfl) (fun v1 g2 => ?_)
  refine zi_if_eq (pc := 4) 38 hX dX5_isNot_4 (by decide) (fun _ => ?_) (fun _ => ?_)
  · refine zi_iconst (pc := 38) hX dX5_isNot_38 ki_0 ?_
    exact zi_ret (pc := 39) hX dX5_isNot_39 et_z0 rfl rfl rfl
  · refine zi_iload3 (pc := 7) hX dX5_isNot_7 ?_
    refine zi_aload0 (pc := 8) hX dX5_isNot_8 ?_
    refine zi_getr (q := 5) (pc := 9) hX dX5_isNot_9 fl_157 ly_3 rfl ?_
    refine zi_bipush (pc := 12) hX dX5_isNot_12 kb_45 ?_
    refine zi_iald (pc := 14) hX dX5_isNot_14 ly_5 ?_
    refine zi_icmp_ne (pc := 15) 38 hX dX5_isNot_15 (by decide) (fun _ => ?_) (fun _ => ?_)
    · refine zi_aload0 (pc := 18) hX dX5_isNot_18 ?_
      refine zi_getr (q := 4) (pc := 19) hX dX5_isNot_19 fl_156 ly_3 rfl ?_
      refine zi_sipush (pc := 22) hX dX5_isNot_22 ks_360 ?_
      refine zi_aload1 (pc := 25) hX dX5_isNot_25 ?_
      refine zi_iload2 (pc := 26) hX dX5_isNot_26 ?_
      refine zi_iload3 (pc := 27) hX dX5_isNot_27 ?_
      refine zi_callI (zc_nest (pc := 28) hX dX5_isNot_28 nl_1087 md_X9_areSame st_X9_areSame (ct_Et_areSame_4_1 hX.sane (360 : Int32) p2 p3 g2) rfl rfl rfl) (fun v3 g4 => ?_)
      refine zi_if_eq (pc := 31) 38 hX dX5_isNot_31 (by decide) (fun _ => ?_) (fun _ => ?_)
      · refine zi_iconst (pc := 38) hX dX5_isNot_38 ki_0 ?_
        exact zi_ret (pc := 39) hX dX5_isNot_39 et_z0 rfl rfl rfl
      · refine zi_iconst (pc := 34) hX dX5_isNot_34 ki_1 ?_
        refine zi_goto (pc := 35) 39 hX dX5_isNot_35 (by decide) ?_
        exact zi_ret (pc := 39) hX dX5_isNot_39 et_z1 rfl rfl rfl
    · refine zi_iconst (pc := 38) hX dX5_isNot_38 ki_0 ?_
      exact zi_ret (pc := 39) hX dX5_isNot_39 et_z0 rfl rfl rfl
theorem ct_To_isNot_1 {w : et_W} (hw : et_Sane w) (p2 : Int32) (p3 : Int32) (g : et_G) : et_C w yX5_isNot (Cond.code yX5_isNot cX5_isNot 4 (some .boolean)) rm_To_isNot_1 et_eI [.ref (et_ad w 3), .ref (et_ad w 1), .int p2, .int p3] g (fn_To_isNot_1 p2 p3 g) := et_mk hw (by decide) rfl rfl (fun X hX => zw_To_isNot_1 hX p2 p3 g)
def rm_Ut_isClear : Room := { frames := 5, cells := 0, slots := 0, locals := 125 }
def fn_Ut_isClear_92 (x3 : Int32) (x4 : Int32) (g : et_G) : Option (Int32 × et_G) :=
  if x4 = 0 then
    some ((0 : Int32), g)
  else
    if (g.1 31 3) ≤ (g.1 31 2) then
      et_bd (fn_Wa_find_32_1 x3 x4 g) (fun _ g12 =>
      et_bd (fn_Ut_isOneWay g12) (fun v13 g14 =>
      some (v13 &&& 1, g14)))
    else
      some ((0 : Int32), g)
def fn_Ut_isClear (p1 : Int32) (g : et_G) : Option (Int32 × et_G) :=
  et_b (et_si g 31 2 (0 : Int32)) (fun g1 =>
  et_b (et_si g1 31 3 (if (800 : Int32) < p1 then (800 : Int32) else p1)) (fun g2 =>
  et_b (et_si g2 31 4 (0 : Int32)) (fun g3 =>
  et_bd (fn_Ut_skipBlanks g3) (fun _ g5 =>
  et_b (g5.1 31 2) (fun v6 =>
  et_bd (fn_Ut_takeWord g5) (fun v7 g8 =>
  et_bd (fn_Ut_skipBlanks g8) (fun _ g10 =>
  if (g10.1 31 3) ≤ (g10.1 31 2) then
    fn_Ut_isClear_92 v6 v7 g10
  else
    et_b (et_si g10 31 4 (1 : Int32)) (fun g15 =>
    et_bd (fn_To_isNot_1 v6 v7 g15) (fun v16 g17 =>
    if v16 = 0 then
      some ((0 : Int32), g17)
    else
      et_b (g17.1 31 2) (fun v18 =>
      et_bd (fn_Ut_takeWord g17) (fun v19 g20 =>
      et_bd (fn_Ut_skipBlanks g20) (fun _ g22 =>
      fn_Ut_isClear_92 v18 v19 g22))))))))))))
theorem zp_Ut_isClear_92 {X : et_X} {w : et_W} (hX : et_Gd X w cX7_isClear RX7 5 (some .boolean) [] rm_Ut_isClear) (x3 : Int32) (x4 : Int32) (g : et_G) : et_Z X w 0 et_eI 92 [some (.ref (et_ad w 31)), none, some (.ref (et_ad w 2)), some (.int x3), some (.int x4)] [] g (fn_Ut_isClear_92 x3 x4 g) := by
  unfold fn_Ut_isClear_92
  refine zi_iload4 (pc := 92) hX dX7_isClear_92 ?_
  refine zi_if_eq (pc := 94) 108 hX dX7_isClear_94 (by decide) (fun _ => ?_) (fun _ => ?_)
  · refine zi_iconst (pc := 108) hX dX7_isClear_108 ki_0 ?_
    exact zi_ret (pc := 109) hX dX7_isClear_109 et_z0 rfl rfl rfl
  · refine zi_aload0 (pc := 97) hX dX7_isClear_97 ?_
    refine zi_geti (pc := 98) hX dX7_isClear_98 fl_329 ly_31 rfl ?_
    refine zi_aload0 (pc := 101) hX dX7_isClear_101 ?_
    refine zi_geti (pc := 102) hX dX7_isClear_102 fl_330 ly_31 rfl ?_
    refine zi_icmp_ge (pc := 105) 110 hX dX7_isClear_105 (by decide) (fun _ => ?_) (fun _ => ?_)
    · refine zi_aload0 (pc := 110) hX dX7_isClear_110 ?_
      refine zi_getr (q := 32) (pc := 111) hX dX7_isClear_111 fl_328 ly_31 rfl ?_
      refine zi_aload2 (pc := 114) hX dX7_isClear_114 ?_
      refine zi_getr (q := 3) (pc := 115) hX dX7_isClear_115 fl_184 ly_2 rfl ?_
      refine zi_aload0 (pc := 118) hX dX7_isClear_118 ?_
      refine zi_getr (q := 1) (pc := 119) hX dX7_isClear_119 fl_327 ly_31 rfl ?_
      refine zi_iload3 (pc := 122) hX dX7_isClear_122 ?_
      refine zi_iload4 (pc := 123) hX dX7_isClear_123 ?_
      refine zi_callU (zc_virt (pc := 125) hX dX7_isClear_125 tm_1159 md_X8_find mi_X8_find ly_32 (ct_Wa_find_32_1 hX.sane x3 x4 g) rfl rfl rfl) (fun g12 => ?_)
      refine zi_aload0 (pc := 128) hX dX7_isClear_128 ?_
      refine zi_aload2 (pc := 129) hX dX7_isClear_129 ?_
      refine zi_callI (zc_virt (pc := 130) hX dX7_isClear_130 tm_1160 md_X7_isOneWay mi_X7_isOneWay ly_31 (ct_Ut_isOneWay hX.sane g12) rfl rfl rfl) (fun v13 g14 => ?_)
      exact zi_ret (pc := 133) hX dX7_isClear_133 rfl rfl rfl rfl
    · refine zi_iconst (pc := 108) hX dX7_isClear_108 ki_0 ?_
      exact zi_ret (pc := 109) hX dX7_isClear_109 et_z0 rfl rfl rfl
theorem zw_Ut_isClear {X : et_X} {w : et_W} (hX : et_Gd X w cX7_isClear RX7 5 (some .boolean) [] rm_Ut_isClear) (p1 : Int32) (g : et_G) : et_Z X w 0 et_eI 0 [some (.ref (et_ad w 31)), some (.int p1), some (.ref (et_ad w 2)), none, none] [] g (fn_Ut_isClear p1 g) := by
  unfold fn_Ut_isClear
  refine zi_aload0 (pc := 0) hX dX7_isClear_0 ?_
  refine zi_iconst (pc := 1) hX dX7_isClear_1 ki_0 ?_
  refine zi_puti (pc := 2) hX dX7_isClear_2 fl_329 ly_31 rfl rfl rfl (zi_bg (fun g1 => ?_))
  refine zi_aload0 (pc := 5) hX dX7_isClear_5 ?_
  refine zi_iload1 (pc := 6) hX dX7_isClear_6 ?_
  refine zi_aload0 (pc := 7) hX dX7_isClear_7 ?_
  refine zi_getr (q := 1) (pc := 8) hX dX7_isClear_8 fl_327 ly_31 rfl ?_
  refine zi_alen (pc := 11) hX dX7_isClear_11 ly_1 1 (et_t1 w) ka_800 ?_
  refine zi_min (pc := 12) hX dX7_isClear_12 tm_1143 rfl rfl rfl rfl ?_
  refine zi_puti (pc := 15) hX dX7_isClear_15 fl_330 ly_31 rfl rfl rfl (zi_bg (fun g2 => ?_))
  refine zi_aload0 (pc := 18) hX dX7_isClear_18 ?_
  refine zi_iconst (pc := 19) hX dX7_isClear_19 ki_0 ?_
  refine zi_puti (pc := 20) hX dX7_isClear_20 fl_331 ly_31 rfl et_z0 et_f0 (zi_bg (fun g3 => ?_))
  refine zi_aload0 (pc := 23) hX dX7_isClear_23 ?_
  refine zi_callU (zc_virt (pc := 24) hX dX7_isClear_24 tm_1144 md_X7_skipBlanks mi_X7_skipBlanks ly_31 (ct_Ut_skipBlanks hX.sane g3) rfl rfl rfl) (fun g5 => ?_)
  refine zi_aload0 (pc := 27) hX dX7_isClear_27 ?_
  refine zi_geti (pc := 28) hX dX7_isClear_28 fl_329 ly_31 rfl ?_
  refine zi_bi (fun v6 => ?_)
  refine zi_istore3 (pc := 31) hX dX7_isClear_31 rfl rfl ?_
  refine zi_aload0 (pc := 32) hX dX7_isClear_32 ?_
  refine zi_callI (zc_virt (pc := 33) hX dX7_isClear_33 tm_1149 md_X7_takeWord mi_X7_takeWord ly_31 (ct_Ut_takeWord hX.sane g5) rfl rfl rfl) (fun v7 g8 => ?_)
  refine zi_istore4 (pc := 36) hX dX7_isClear_36 rfl rfl ?_
  refine zi_aload0 (pc := 38) hX dX7_isClear_38 ?_
  refine zi_callU (zc_virt (pc := 39) hX dX7_isClear_39 tm_1144 md_X7_skipBlanks mi_X7_skipBlanks ly_31 (ct_Ut_skipBlanks hX.sane g8) rfl rfl rfl) (fun g10 => ?_)
  refine zi_aload0 (pc := 42) hX dX7_isClear_42 ?_
  refine zi_geti (pc := 43) hX dX7_isClear_43 fl_329 ly_31 rfl ?_
  refine zi_aload0 (pc := 46) hX dX7_isClear_46 ?_
  refine zi_geti (pc := 47) hX dX7_isClear_47 fl_330 ly_31 rfl ?_
  refine zi_icmp_ge (pc := 50) 92 hX dX7_isClear_50 (by decide) (fun _ => ?_) (fun _ => ?_)
  · refine zi_drop (le_s (le_n (le_s (le_s (le_s le_nil))))) ?_; exact zp_Ut_isClear_92 hX v6 v7 g10
  · refine zi_aload0 (pc := 53) hX dX7_isClear_53 ?_
    refine zi_iconst (pc := 54) hX dX7_isClear_54 ki_1 ?_
    refine zi_puti (pc := 55) hX dX7_isClear_55 fl_331 ly_31 rfl et_z1 et_f1 (zi_bg (fun g15 => ?_))
    refine zi_aload2 (pc := 58) hX dX7_isClear_58 ?_
    refine zi_getr (q := 3) (pc := 59) hX dX7_isClear_59 fl_184 ly_2 rfl ?_
    refine zi_aload0 (pc := 62) hX dX7_isClear_62 ?_
    refine zi_getr (q := 1) (pc := 63) hX dX7_isClear_63 fl_327 ly_31 rfl ?_
    refine zi_iload3 (pc := 66) hX dX7_isClear_66 ?_
    refine zi_iload4 (pc := 67) hX dX7_isClear_67 ?_
    refine zi_callI (zc_virt (pc := 69) hX dX7_isClear_69 tm_1154 md_X5_isNot mi_X5_isNot ly_3 (ct_To_isNot_1 hX.sane v6 v7 g15) rfl rfl rfl) (fun v16 g17 => ?_)
    refine zi_if_ne (pc := 72) 77 hX dX7_isClear_72 (by decide) (fun _ => ?_) (fun _ => ?_)
    · refine zi_iconst (pc := 75) hX dX7_isClear_75 ki_0 ?_
      exact zi_ret (pc := 76) hX dX7_isClear_76 et_z0 rfl rfl rfl
    · refine zi_aload0 (pc := 77) hX dX7_isClear_77 ?_
      refine zi_geti (pc := 78) hX dX7_isClear_78 fl_329 ly_31 rfl ?_
      refine zi_bi (fun v18 => ?_)
      refine zi_istore3 (pc := 81) hX dX7_isClear_81 rfl rfl ?_
      refine zi_aload0 (pc := 82) hX dX7_isClear_82 ?_
      refine zi_callI (zc_virt (pc := 83) hX dX7_isClear_83 tm_1149 md_X7_takeWord mi_X7_takeWord ly_31 (ct_Ut_takeWord hX.sane g17) rfl rfl rfl) (fun v19 g20 => ?_)
      refine zi_istore4 (pc := 86) hX dX7_isClear_86 rfl rfl ?_
      refine zi_aload0 (pc := 88) hX dX7_isClear_88 ?_
      refine zi_callU (zc_virt (pc := 89) hX dX7_isClear_89 tm_1144 md_X7_skipBlanks mi_X7_skipBlanks ly_31 (ct_Ut_skipBlanks hX.sane g20) rfl rfl rfl) (fun g22 => ?_)
      refine zi_drop (le_s (le_n (le_s (le_s (le_s le_nil))))) ?_; exact zp_Ut_isClear_92 hX v18 v19 g22
theorem ct_Ut_isClear {w : et_W} (hw : et_Sane w) (p1 : Int32) (g : et_G) : et_C w yX7_isClear (Cond.code yX7_isClear cX7_isClear 5 (some .boolean)) rm_Ut_isClear et_eI [.ref (et_ad w 31), .int p1, .ref (et_ad w 2)] g (fn_Ut_isClear p1 g) := et_mk hw (by decide) rfl rfl (fun X hX => zw_Ut_isClear hX p1 g)
def rm_Et_utter : Room := { frames := 7, cells := 3, slots := 18, locals := 149 }
def fn_Et_utter_63 (g : et_G) : Option ((Nat ⊕ Int32) × et_G) :=
  et_b (et_si g 0 16 ((g.1 0 16) + (1 : Int32))) (fun g9 =>
  some (.inr ((-1 : Int32)), g9))
def fn_Et_utter (p1 : Int32) (p2 : Int32) (p3 : Int32) (g : et_G) : Option ((Nat ⊕ Int32) × et_G) :=
  et_bt (fn_Et_needPerson p1 g) (fun _ g2 =>
  et_bt (fn_Et_needHour p2 g2) (fun _ g4 =>
  et_bt (fn_Et_takeTape p3 g4) (fun _ g6 =>
  et_bd (fn_Ut_isClear p3 g6) (fun v7 g8 =>
  if v7 = 0 then
    fn_Et_utter_63 g8
  else
    et_bd (fn_Le_add p1 p2 (g8.1 31 5) (g8.1 31 6) (g8.1 31 4) g8) (fun v10 g11 =>
    if v10 = 0 then
      fn_Et_utter_63 g11
    else
      et_bd (fn_Gr_forget g11) (fun _ g13 =>
      some (.inr (g13.1 34 0), g13)))))))
theorem zp_Et_utter_63 {X : et_X} {w : et_W} (hX : et_Gd X w cX9_utter RX9 4 (some .int) [] rm_Et_utter) (g : et_G) : et_Z X w 3 et_tI 63 [some (.ref (et_ad w 0)), none, none, none] [] g (fn_Et_utter_63 g) := by
  unfold fn_Et_utter_63
  refine zi_aload0 (pc := 63) hX dX9_utter_63 ?_
  refine zi_dup (pc := 64) hX dX9_utter_64 rfl ?_
  refine zi_geti (pc := 65) hX dX9_utter_65 fl_507 ly_0 rfl ?_
  refine zi_iconst (pc := 68) hX dX9_utter_68 ki_1 ?_
  refine zi_iadd (pc := 69) hX dX9_utter_69 ?_
  refine zi_puti (pc := 70) hX dX9_utter_70 fl_507 ly_0 rfl rfl rfl (zi_bg (fun g9 => ?_))
  refine zi_iconst (pc := 73) hX dX9_utter_73 ki_m1 ?_
  exact zi_ret (pc := 74) hX dX9_utter_74 rfl rfl rfl rfl
theorem zw_Et_utter {X : et_X} {w : et_W} (hX : et_Gd X w cX9_utter RX9 4 (some .int) [] rm_Et_utter) (p1 : Int32) (p2 : Int32) (p3 : Int32) (g : et_G) : et_Z X w 0 et_tI 0 [some (.ref (et_ad w 0)), some (.int p1), some (.int p2), some (.int p3)] [] g (fn_Et_utter p1 p2 p3 g) := by
  unfold fn_Et_utter
  refine zi_aload0 (pc := 0) hX dX9_utter_0 ?_
  refine zi_iload1 (pc := 1) hX dX9_utter_1 ?_
  refine zi_callTU hX (fun _ => rfl) rfl rfl (zc_virt (pc := 2) hX dX9_utter_2 tm_1031 md_X9_needPerson mi_X9_needPerson ly_0 (ct_Et_needPerson hX.sane p1 g) rfl rfl rfl) (fun g2 => ?_)
  refine zi_aload0 (pc := 5) hX dX9_utter_5 ?_
  refine zi_iload2 (pc := 6) hX dX9_utter_6 ?_
  refine zi_callTU hX (fun _ => rfl) rfl rfl (zc_virt (pc := 7) hX dX9_utter_7 tm_1039 md_X9_needHour mi_X9_needHour ly_0 (ct_Et_needHour hX.sane p2 g2) rfl rfl rfl) (fun g4 => ?_)
  refine zi_aload0 (pc := 10) hX dX9_utter_10 ?_
  refine zi_iload3 (pc := 11) hX dX9_utter_11 ?_
  refine zi_callTU hX (fun _ => rfl) rfl rfl (zc_virt (pc := 12) hX dX9_utter_12 tm_707 md_X9_takeTape mi_X9_takeTape ly_0 (ct_Et_takeTape hX.sane p3 g4) rfl rfl rfl) (fun g6 => ?_)
  refine zi_aload0 (pc := 15) hX dX9_utter_15 ?_
  refine zi_getr (q := 31) (pc := 16) hX dX9_utter_16 fl_497 ly_0 rfl ?_
  refine zi_iload3 (pc := 19) hX dX9_utter_19 ?_
  refine zi_aload0 (pc := 20) hX dX9_utter_20 ?_
  refine zi_getr (q := 2) (pc := 21) hX dX9_utter_21 fl_493 ly_0 rfl ?_
  refine zi_callI (zc_virt (pc := 24) hX dX9_utter_24 tm_1139 md_X7_isClear mi_X7_isClear ly_31 (ct_Ut_isClear hX.sane p3 g6) rfl rfl rfl) (fun v7 g8 => ?_)
  refine zi_if_eq (pc := 27) 63 hX dX9_utter_27 (by decide) (fun _ => ?_) (fun _ => ?_)
  · refine zi_drop (le_s (le_n (le_n (le_n le_nil)))) ?_; exact zp_Et_utter_63 hX g8
  · refine zi_aload0 (pc := 30) hX dX9_utter_30 ?_
    refine zi_getr (q := 34) (pc := 31) hX dX9_utter_31 fl_498 ly_0 rfl ?_
    refine zi_iload1 (pc := 34) hX dX9_utter_34 ?_
    refine zi_iload2 (pc := 35) hX dX9_utter_35 ?_
    refine zi_aload0 (pc := 36) hX dX9_utter_36 ?_
    refine zi_getr (q := 31) (pc := 37) hX dX9_utter_37 fl_497 ly_0 rfl ?_
    refine zi_geti (pc := 40) hX dX9_utter_40 fl_334 ly_31 rfl ?_
    refine zi_aload0 (pc := 43) hX dX9_utter_43 ?_
    refine zi_getr (q := 31) (pc := 44) hX dX9_utter_44 fl_497 ly_0 rfl ?_
    refine zi_geti (pc := 47) hX dX9_utter_47 fl_336 ly_31 rfl ?_
    refine zi_aload0 (pc := 50) hX dX9_utter_50 ?_
    refine zi_getr (q := 31) (pc := 51) hX dX9_utter_51 fl_497 ly_0 rfl ?_
    refine zi_geti (pc := 54) hX dX9_utter_54 fl_332 ly_31 rfl ?_
    refine zi_callI (zc_virt (pc := 57) hX dX9_utter_57 tm_1128 md_X1_add mi_X1_add ly_34 (ct_Le_add hX.sane p1 p2 (g8.1 31 5) (g8.1 31 6) (g8.1 31 4) g8) rfl rfl rfl) (fun v10 g11 => ?_)
    refine zi_if_ne (pc := 60) 75 hX dX9_utter_60 (by decide) (fun _ => ?_) (fun _ => ?_)
    · refine zi_drop (le_s (le_n (le_n (le_n le_nil)))) ?_; exact zp_Et_utter_63 hX g11
    · refine zi_aload0 (pc := 75) hX dX9_utter_75 ?_
      refine zi_getr (q := 48) (pc := 76) hX dX9_utter_76 fl_503 ly_0 rfl ?_
      refine zi_callU (zc_virt (pc := 79) hX dX9_utter_79 tm_562 md_X0_forget mi_X0_forget ly_48 (ct_Gr_forget hX.sane g11) rfl rfl rfl) (fun g13 => ?_)
      refine zi_aload0 (pc := 82) hX dX9_utter_82 ?_
      refine zi_getr (q := 34) (pc := 83) hX dX9_utter_83 fl_498 ly_0 rfl ?_
      refine zi_geti (pc := 86) hX dX9_utter_86 fl_360 ly_34 rfl ?_
      exact zi_ret (pc := 89) hX dX9_utter_89 rfl rfl rfl rfl
theorem ct_Et_utter {w : et_W} (hw : et_Sane w) (p1 : Int32) (p2 : Int32) (p3 : Int32) (g : et_G) : et_C w yX9_utter (Cond.code yX9_utter cX9_utter 4 (some .int)) rm_Et_utter et_tI [.ref (et_ad w 0), .int p1, .int p2, .int p3] g (fn_Et_utter p1 p2 p3 g) := et_mk hw (by decide) rfl rfl (fun X hX => zw_Et_utter hX p1 p2 p3 g)
def rm_Ja_fill_18 : Room := { frames := 0, cells := 0, slots := 0, locals := 0 }
def fn_Ja_fill_18_5 (x1 : Int32) (x3 : Int32) : Nat → Int32 → et_G → Option (Unit × et_G)
  | 0, _, _ => none
  | n + 1, x2, g =>
    if x3 ≤ x2 then
      some ((), g)
    else
      et_ck (et_ib x2 46) (et_b (et_si g 18 x2.toNatClampNeg x1) (fun g1 =>
      et_b (x2 + (1 : Int32)) (fun v2 =>
      fn_Ja_fill_18_5 x1 x3 n v2 g1)))
def fn_Ja_fill_18 (p1 : Int32) (g : et_G) : Option (Unit × et_G) :=
  fn_Ja_fill_18_5 p1 (46 : Int32) 1000000 (0 : Int32) g
theorem zp_Ja_fill_18_5 {X : et_X} {w : et_W} (hX : et_Gd X w cJ7_fill_53178 RJ7 4 (none) [] rm_Ja_fill_18) (x1 : Int32) (x3 : Int32) : ∀ (n : Nat) (x2 : Int32) (g : et_G), et_Z X w 0 et_eU 5 [some (.ref (et_ad w 18)), some (.int x1), some (.int x2), some (.int x3)] [] g (fn_Ja_fill_18_5 x1 x3 n x2 g) := by
  intro n
  induction n with
  | zero =>
    intro x2 g a g2 h
    cases h
  | succ n ih =>
    intro x2 g
    rw [fn_Ja_fill_18_5]
    refine zi_iload2 (pc := 5) hX dJ7_fill_53178_5 ?_
    refine zi_iload3 (pc := 6) hX dJ7_fill_53178_6 ?_
    refine zi_icmp_ge (pc := 7) 20 hX dJ7_fill_53178_7 (by decide) (fun _ => ?_) (fun _ => ?_)
    · exact zi_vret (pc := 20) hX dJ7_fill_53178_20 rfl rfl rfl
    · refine zi_aload0 (pc := 10) hX dJ7_fill_53178_10 ?_
      refine zi_iload2 (pc := 11) hX dJ7_fill_53178_11 ?_
      refine zi_iload1 (pc := 12) hX dJ7_fill_53178_12 ?_
      refine zi_iast (pc := 13) hX dJ7_fill_53178_13 ly_18 (zi_bg (fun g1 => ?_))
      refine zi_iincb2 (pc := 14) hX dJ7_fill_53178_14 (kn_1 _) rfl rfl (fun v2 => ?_)
      refine zi_goto (pc := 17) 5 hX dJ7_fill_53178_17 (by decide) ?_
      exact ih v2 g1
theorem zw_Ja_fill_18 {X : et_X} {w : et_W} (hX : et_Gd X w cJ7_fill_53178 RJ7 4 (none) [] rm_Ja_fill_18) (p1 : Int32) (g : et_G) : et_Z X w 0 et_eU 0 [some (.ref (et_ad w 18)), some (.int p1), none, none] [] g (fn_Ja_fill_18 p1 g) := by
  unfold fn_Ja_fill_18
  refine zi_iconst (pc := 0) hX dJ7_fill_53178_0 ki_0 ?_
  refine zi_istore2 (pc := 1) hX dJ7_fill_53178_1 rfl rfl ?_
  refine zi_aload0 (pc := 2) hX dJ7_fill_53178_2 ?_
  refine zi_alen (pc := 3) hX dJ7_fill_53178_3 ly_18 0 (et_t0 w) ka_46 ?_
  refine zi_istore3 (pc := 4) hX dJ7_fill_53178_4 rfl rfl ?_
  exact zp_Ja_fill_18_5 hX p1 (46 : Int32) 1000000 (0 : Int32) g
theorem ct_Ja_fill_18 {w : et_W} (hw : et_Sane w) (p1 : Int32) (g : et_G) : et_C w yJ7_fill_53178 (Cond.code yJ7_fill_53178 cJ7_fill_53178 4 (none)) rm_Ja_fill_18 et_eU [.ref (et_ad w 18), .int p1] g (fn_Ja_fill_18 p1 g) := et_mk hw (by decide) rfl rfl (fun X hX => zw_Ja_fill_18 hX p1 g)
def rm_To_clear_16 : Room := { frames := 1, cells := 0, slots := 0, locals := 23 }
def fn_To_clear_16 (g : et_G) : Option (Unit × et_G) :=
  et_bd (fn_Ja_fill_18 (0 : Int32) g) (fun _ g2 =>
  et_b (et_si g2 16 2 (0 : Int32)) (fun g3 =>
  et_b (et_si g3 16 3 (0 : Int32)) (fun g4 =>
  some ((), g4))))
theorem zw_To_clear_16 {X : et_X} {w : et_W} (hX : et_Gd X w cX5_clear RX5 1 (none) [] rm_To_clear_16) (g : et_G) : et_Z X w 0 et_eU 0 [some (.ref (et_ad w 16))] [] g (fn_To_clear_16 g) := by
  unfold fn_To_clear_16
  refine zi_aload0 (pc := 0) hX dX5_clear_0 ?_
  refine zi_getr (q := 18) (pc := 1) hX dX5_clear_1 fl_157 ly_16 rfl ?_
  refine zi_iconst (pc := 4) hX dX5_clear_4 ki_0 ?_
  refine zi_callU (zc_stat (pc := 5) hX dX5_clear_5 tm_786 md_J7_fill_53178 st_J7_fill_53178 (ct_Ja_fill_18 hX.sane (0 : Int32) g) rfl rfl rfl) (fun g2 => ?_)
  refine zi_aload0 (pc := 8) hX dX5_clear_8 ?_
  refine zi_iconst (pc := 9) hX dX5_clear_9 ki_0 ?_
  refine zi_puti (pc := 10) hX dX5_clear_10 fl_158 ly_16 rfl rfl rfl (zi_bg (fun g3 => ?_))
  refine zi_aload0 (pc := 13) hX dX5_clear_13 ?_
  refine zi_iconst (pc := 14) hX dX5_clear_14 ki_0 ?_
  refine zi_puti (pc := 15) hX dX5_clear_15 fl_162 ly_16 rfl rfl rfl (zi_bg (fun g4 => ?_))
  exact zi_vret (pc := 18) hX dX5_clear_18 rfl rfl rfl
theorem ct_To_clear_16 {w : et_W} (hw : et_Sane w) (g : et_G) : et_C w yX5_clear (Cond.code yX5_clear cX5_clear 1 (none)) rm_To_clear_16 et_eU [.ref (et_ad w 16)] g (fn_To_clear_16 g) := et_mk hw (by decide) rfl rfl (fun X hX => zw_To_clear_16 hX g)
def rm_Ja_fill_20 : Room := { frames := 0, cells := 0, slots := 0, locals := 0 }
def fn_Ja_fill_20_5 (x1 : Int32) (x3 : Int32) : Nat → Int32 → et_G → Option (Unit × et_G)
  | 0, _, _ => none
  | n + 1, x2, g =>
    if x3 ≤ x2 then
      some ((), g)
    else
      et_ck (et_ib x2 6) (et_b (et_si g 20 x2.toNatClampNeg x1) (fun g1 =>
      et_b (x2 + (1 : Int32)) (fun v2 =>
      fn_Ja_fill_20_5 x1 x3 n v2 g1)))
def fn_Ja_fill_20 (p1 : Int32) (g : et_G) : Option (Unit × et_G) :=
  fn_Ja_fill_20_5 p1 (6 : Int32) 1000000 (0 : Int32) g
theorem zp_Ja_fill_20_5 {X : et_X} {w : et_W} (hX : et_Gd X w cJ7_fill_53178 RJ7 4 (none) [] rm_Ja_fill_20) (x1 : Int32) (x3 : Int32) : ∀ (n : Nat) (x2 : Int32) (g : et_G), et_Z X w 0 et_eU 5 [some (.ref (et_ad w 20)), some (.int x1), some (.int x2), some (.int x3)] [] g (fn_Ja_fill_20_5 x1 x3 n x2 g) := by
  intro n
  induction n with
  | zero =>
    intro x2 g a g2 h
    cases h
  | succ n ih =>
    intro x2 g
    rw [fn_Ja_fill_20_5]
    refine zi_iload2 (pc := 5) hX dJ7_fill_53178_5 ?_
    refine zi_iload3 (pc := 6) hX dJ7_fill_53178_6 ?_
    refine zi_icmp_ge (pc := 7) 20 hX dJ7_fill_53178_7 (by decide) (fun _ => ?_) (fun _ => ?_)
    · exact zi_vret (pc := 20) hX dJ7_fill_53178_20 rfl rfl rfl
    · refine zi_aload0 (pc := 10) hX dJ7_fill_53178_10 ?_
      refine zi_iload2 (pc := 11) hX dJ7_fill_53178_11 ?_
      refine zi_iload1 (pc := 12) hX dJ7_fill_53178_12 ?_
      refine zi_iast (pc := 13) hX dJ7_fill_53178_13 ly_20 (zi_bg (fun g1 => ?_))
      refine zi_iincb2 (pc := 14) hX dJ7_fill_53178_14 (kn_1 _) rfl rfl (fun v2 => ?_)
      refine zi_goto (pc := 17) 5 hX dJ7_fill_53178_17 (by decide) ?_
      exact ih v2 g1
theorem zw_Ja_fill_20 {X : et_X} {w : et_W} (hX : et_Gd X w cJ7_fill_53178 RJ7 4 (none) [] rm_Ja_fill_20) (p1 : Int32) (g : et_G) : et_Z X w 0 et_eU 0 [some (.ref (et_ad w 20)), some (.int p1), none, none] [] g (fn_Ja_fill_20 p1 g) := by
  unfold fn_Ja_fill_20
  refine zi_iconst (pc := 0) hX dJ7_fill_53178_0 ki_0 ?_
  refine zi_istore2 (pc := 1) hX dJ7_fill_53178_1 rfl rfl ?_
  refine zi_aload0 (pc := 2) hX dJ7_fill_53178_2 ?_
  refine zi_alen (pc := 3) hX dJ7_fill_53178_3 ly_20 0 (et_t0 w) ka_6 ?_
  refine zi_istore3 (pc := 4) hX dJ7_fill_53178_4 rfl rfl ?_
  exact zp_Ja_fill_20_5 hX p1 (6 : Int32) 1000000 (0 : Int32) g
theorem ct_Ja_fill_20 {w : et_W} (hw : et_Sane w) (p1 : Int32) (g : et_G) : et_C w yJ7_fill_53178 (Cond.code yJ7_fill_53178 cJ7_fill_53178 4 (none)) rm_Ja_fill_20 et_eU [.ref (et_ad w 20), .int p1] g (fn_Ja_fill_20 p1 g) := et_mk hw (by decide) rfl rfl (fun X hX => zw_Ja_fill_20 hX p1 g)
def rm_Ja_fill_21 : Room := { frames := 0, cells := 0, slots := 0, locals := 0 }
def fn_Ja_fill_21_5 (x1 : Int32) (x3 : Int32) : Nat → Int32 → et_G → Option (Unit × et_G)
  | 0, _, _ => none
  | n + 1, x2, g =>
    if x3 ≤ x2 then
      some ((), g)
    else
      et_ck (et_ib x2 144) (et_b (et_si g 21 x2.toNatClampNeg x1) (fun g1 =>
      et_b (x2 + (1 : Int32)) (fun v2 =>
      fn_Ja_fill_21_5 x1 x3 n v2 g1)))
def fn_Ja_fill_21 (p1 : Int32) (g : et_G) : Option (Unit × et_G) :=
  fn_Ja_fill_21_5 p1 (144 : Int32) 1000000 (0 : Int32) g
theorem zp_Ja_fill_21_5 {X : et_X} {w : et_W} (hX : et_Gd X w cJ7_fill_53178 RJ7 4 (none) [] rm_Ja_fill_21) (x1 : Int32) (x3 : Int32) : ∀ (n : Nat) (x2 : Int32) (g : et_G), et_Z X w 0 et_eU 5 [some (.ref (et_ad w 21)), some (.int x1), some (.int x2), some (.int x3)] [] g (fn_Ja_fill_21_5 x1 x3 n x2 g) := by
  intro n
  induction n with
  | zero =>
    intro x2 g a g2 h
    cases h
  | succ n ih =>
    intro x2 g
    rw [fn_Ja_fill_21_5]
    refine zi_iload2 (pc := 5) hX dJ7_fill_53178_5 ?_
    refine zi_iload3 (pc := 6) hX dJ7_fill_53178_6 ?_
    refine zi_icmp_ge (pc := 7) 20 hX dJ7_fill_53178_7 (by decide) (fun _ => ?_) (fun _ => ?_)
    · exact zi_vret (pc := 20) hX dJ7_fill_53178_20 rfl rfl rfl
    · refine zi_aload0 (pc := 10) hX dJ7_fill_53178_10 ?_
      refine zi_iload2 (pc := 11) hX dJ7_fill_53178_11 ?_
      refine zi_iload1 (pc := 12) hX dJ7_fill_53178_12 ?_
      refine zi_iast (pc := 13) hX dJ7_fill_53178_13 ly_21 (zi_bg (fun g1 => ?_))
      refine zi_iincb2 (pc := 14) hX dJ7_fill_53178_14 (kn_1 _) rfl rfl (fun v2 => ?_)
      refine zi_goto (pc := 17) 5 hX dJ7_fill_53178_17 (by decide) ?_
      exact ih v2 g1
theorem zw_Ja_fill_21 {X : et_X} {w : et_W} (hX : et_Gd X w cJ7_fill_53178 RJ7 4 (none) [] rm_Ja_fill_21) (p1 : Int32) (g : et_G) : et_Z X w 0 et_eU 0 [some (.ref (et_ad w 21)), some (.int p1), none, none] [] g (fn_Ja_fill_21 p1 g) := by
  unfold fn_Ja_fill_21
  refine zi_iconst (pc := 0) hX dJ7_fill_53178_0 ki_0 ?_
  refine zi_istore2 (pc := 1) hX dJ7_fill_53178_1 rfl rfl ?_
  refine zi_aload0 (pc := 2) hX dJ7_fill_53178_2 ?_
  refine zi_alen (pc := 3) hX dJ7_fill_53178_3 ly_21 0 (et_t0 w) ka_144 ?_
  refine zi_istore3 (pc := 4) hX dJ7_fill_53178_4 rfl rfl ?_
  exact zp_Ja_fill_21_5 hX p1 (144 : Int32) 1000000 (0 : Int32) g
theorem ct_Ja_fill_21 {w : et_W} (hw : et_Sane w) (p1 : Int32) (g : et_G) : et_C w yJ7_fill_53178 (Cond.code yJ7_fill_53178 cJ7_fill_53178 4 (none)) rm_Ja_fill_21 et_eU [.ref (et_ad w 21), .int p1] g (fn_Ja_fill_21 p1 g) := et_mk hw (by decide) rfl rfl (fun X hX => zw_Ja_fill_21 hX p1 g)
def rm_Ja_fill_27 : Room := { frames := 0, cells := 0, slots := 0, locals := 0 }
def fn_Ja_fill_27_5 (x1 : Int32) (x3 : Int32) : Nat → Int32 → et_G → Option (Unit × et_G)
  | 0, _, _ => none
  | n + 1, x2, g =>
    if x3 ≤ x2 then
      some ((), g)
    else
      et_ck (et_ib x2 10) (et_b (et_si g 27 x2.toNatClampNeg x1) (fun g1 =>
      et_b (x2 + (1 : Int32)) (fun v2 =>
      fn_Ja_fill_27_5 x1 x3 n v2 g1)))
def fn_Ja_fill_27 (p1 : Int32) (g : et_G) : Option (Unit × et_G) :=
  fn_Ja_fill_27_5 p1 (10 : Int32) 1000000 (0 : Int32) g
theorem zp_Ja_fill_27_5 {X : et_X} {w : et_W} (hX : et_Gd X w cJ7_fill_53178 RJ7 4 (none) [] rm_Ja_fill_27) (x1 : Int32) (x3 : Int32) : ∀ (n : Nat) (x2 : Int32) (g : et_G), et_Z X w 0 et_eU 5 [some (.ref (et_ad w 27)), some (.int x1), some (.int x2), some (.int x3)] [] g (fn_Ja_fill_27_5 x1 x3 n x2 g) := by
  intro n
  induction n with
  | zero =>
    intro x2 g a g2 h
    cases h
  | succ n ih =>
    intro x2 g
    rw [fn_Ja_fill_27_5]
    refine zi_iload2 (pc := 5) hX dJ7_fill_53178_5 ?_
    refine zi_iload3 (pc := 6) hX dJ7_fill_53178_6 ?_
    refine zi_icmp_ge (pc := 7) 20 hX dJ7_fill_53178_7 (by decide) (fun _ => ?_) (fun _ => ?_)
    · exact zi_vret (pc := 20) hX dJ7_fill_53178_20 rfl rfl rfl
    · refine zi_aload0 (pc := 10) hX dJ7_fill_53178_10 ?_
      refine zi_iload2 (pc := 11) hX dJ7_fill_53178_11 ?_
      refine zi_iload1 (pc := 12) hX dJ7_fill_53178_12 ?_
      refine zi_iast (pc := 13) hX dJ7_fill_53178_13 ly_27 (zi_bg (fun g1 => ?_))
      refine zi_iincb2 (pc := 14) hX dJ7_fill_53178_14 (kn_1 _) rfl rfl (fun v2 => ?_)
      refine zi_goto (pc := 17) 5 hX dJ7_fill_53178_17 (by decide) ?_
      exact ih v2 g1
theorem zw_Ja_fill_27 {X : et_X} {w : et_W} (hX : et_Gd X w cJ7_fill_53178 RJ7 4 (none) [] rm_Ja_fill_27) (p1 : Int32) (g : et_G) : et_Z X w 0 et_eU 0 [some (.ref (et_ad w 27)), some (.int p1), none, none] [] g (fn_Ja_fill_27 p1 g) := by
  unfold fn_Ja_fill_27
  refine zi_iconst (pc := 0) hX dJ7_fill_53178_0 ki_0 ?_
  refine zi_istore2 (pc := 1) hX dJ7_fill_53178_1 rfl rfl ?_
  refine zi_aload0 (pc := 2) hX dJ7_fill_53178_2 ?_
  refine zi_alen (pc := 3) hX dJ7_fill_53178_3 ly_27 0 (et_t0 w) ka_10 ?_
  refine zi_istore3 (pc := 4) hX dJ7_fill_53178_4 rfl rfl ?_
  exact zp_Ja_fill_27_5 hX p1 (10 : Int32) 1000000 (0 : Int32) g
theorem ct_Ja_fill_27 {w : et_W} (hw : et_Sane w) (p1 : Int32) (g : et_G) : et_C w yJ7_fill_53178 (Cond.code yJ7_fill_53178 cJ7_fill_53178 4 (none)) rm_Ja_fill_27 et_eU [.ref (et_ad w 27), .int p1] g (fn_Ja_fill_27 p1 g) := et_mk hw (by decide) rfl rfl (fun X hX => zw_Ja_fill_27 hX p1 g)
def rm_Tw_clear_15 : Room := { frames := 2, cells := 0, slots := 0, locals := 43 }
def fn_Tw_clear_15 (g : et_G) : Option (Unit × et_G) :=
  et_bd (fn_To_clear_16 g) (fun _ g2 =>
  et_b (et_si g2 15 1 (1 : Int32)) (fun g3 =>
  et_b (et_si g3 15 3 (0 : Int32)) (fun g4 =>
  et_b (et_si g4 15 5 (0 : Int32)) (fun g5 =>
  et_b (et_si g5 15 11 (0 : Int32)) (fun g6 =>
  et_b (et_si g6 15 9 (0 : Int32)) (fun g7 =>
  et_b (et_si g7 15 10 (0 : Int32)) (fun g8 =>
  et_bd (fn_Ja_fill_20 (0 : Int32) g8) (fun _ g10 =>
  et_bd (fn_Ja_fill_21 (-1 : Int32) g10) (fun _ g12 =>
  et_bd (fn_Ja_fill_27 (500 : Int32) g12) (fun _ g14 =>
  some ((), g14)))))))))))
theorem zw_Tw_clear_15 {X : et_X} {w : et_W} (hX : et_Gd X w cX6_clear RX6 1 (none) [] rm_Tw_clear_15) (g : et_G) : et_Z X w 0 et_eU 0 [some (.ref (et_ad w 15))] [] g (fn_Tw_clear_15 g) := by
  unfold fn_Tw_clear_15
  refine zi_aload0 (pc := 0) hX dX6_clear_0 ?_
  refine zi_getr (q := 16) (pc := 1) hX dX6_clear_1 fl_183 ly_15 rfl ?_
  refine zi_callU (zc_virt (pc := 4) hX dX6_clear_4 tm_782 md_X5_clear mi_X5_clear ly_16 (ct_To_clear_16 hX.sane g) rfl rfl rfl) (fun g2 => ?_)
  refine zi_aload0 (pc := 7) hX dX6_clear_7 ?_
  refine zi_iconst (pc := 8) hX dX6_clear_8 ki_1 ?_
  refine zi_puti (pc := 9) hX dX6_clear_9 fl_187 ly_15 rfl rfl rfl (zi_bg (fun g3 => ?_))
  refine zi_aload0 (pc := 12) hX dX6_clear_12 ?_
  refine zi_iconst (pc := 13) hX dX6_clear_13 ki_0 ?_
  refine zi_puti (pc := 14) hX dX6_clear_14 fl_192 ly_15 rfl rfl rfl (zi_bg (fun g4 => ?_))
  refine zi_aload0 (pc := 17) hX dX6_clear_17 ?_
  refine zi_iconst (pc := 18) hX dX6_clear_18 ki_0 ?_
  refine zi_puti (pc := 19) hX dX6_clear_19 fl_198 ly_15 rfl rfl rfl (zi_bg (fun g5 => ?_))
  refine zi_aload0 (pc := 22) hX dX6_clear_22 ?_
  refine zi_iconst (pc := 23) hX dX6_clear_23 ki_0 ?_
  refine zi_puti (pc := 24) hX dX6_clear_24 fl_219 ly_15 rfl rfl rfl (zi_bg (fun g6 => ?_))
  refine zi_aload0 (pc := 27) hX dX6_clear_27 ?_
  refine zi_iconst (pc := 28) hX dX6_clear_28 ki_0 ?_
  refine zi_puti (pc := 29) hX dX6_clear_29 fl_212 ly_15 rfl rfl rfl (zi_bg (fun g7 => ?_))
  refine zi_aload0 (pc := 32) hX dX6_clear_32 ?_
  refine zi_iconst (pc := 33) hX dX6_clear_33 ki_0 ?_
  refine zi_puti (pc := 34) hX dX6_clear_34 fl_215 ly_15 rfl rfl rfl (zi_bg (fun g8 => ?_))
  refine zi_aload0 (pc := 37) hX dX6_clear_37 ?_
  refine zi_getr (q := 20) (pc := 38) hX dX6_clear_38 fl_190 ly_15 rfl ?_
  refine zi_iconst (pc := 41) hX dX6_clear_41 ki_0 ?_
  refine zi_callU (zc_stat (pc := 42) hX dX6_clear_42 tm_787 md_J7_fill_53178 st_J7_fill_53178 (ct_Ja_fill_20 hX.sane (0 : Int32) g8) rfl rfl rfl) (fun g10 => ?_)
  refine zi_aload0 (pc := 45) hX dX6_clear_45 ?_
  refine zi_getr (q := 21) (pc := 46) hX dX6_clear_46 fl_196 ly_15 rfl ?_
  refine zi_iconst (pc := 49) hX dX6_clear_49 ki_m1 ?_
  refine zi_callU (zc_stat (pc := 50) hX dX6_clear_50 tm_787 md_J7_fill_53178 st_J7_fill_53178 (ct_Ja_fill_21 hX.sane (-1 : Int32) g10) rfl rfl rfl) (fun g12 => ?_)
  refine zi_aload0 (pc := 53) hX dX6_clear_53 ?_
  refine zi_getr (q := 27) (pc := 54) hX dX6_clear_54 fl_228 ly_15 rfl ?_
  refine zi_sipush (pc := 57) hX dX6_clear_57 ks_500 ?_
  refine zi_callU (zc_stat (pc := 60) hX dX6_clear_60 tm_787 md_J7_fill_53178 st_J7_fill_53178 (ct_Ja_fill_27 hX.sane (500 : Int32) g12) rfl rfl rfl) (fun g14 => ?_)
  exact zi_vret (pc := 63) hX dX6_clear_63 rfl rfl rfl
theorem ct_Tw_clear_15 {w : et_W} (hw : et_Sane w) (g : et_G) : et_C w yX6_clear (Cond.code yX6_clear cX6_clear 1 (none)) rm_Tw_clear_15 et_eU [.ref (et_ad w 15)] g (fn_Tw_clear_15 g) := et_mk hw (by decide) rfl rfl (fun X hX => zw_Tw_clear_15 hX g)
def rm_Tw_fillHours_15 : Room := { frames := 0, cells := 0, slots := 0, locals := 0 }
def fn_Tw_fillHours_15_47 (r2 : Int32 → et_G → Option (Unit × et_G)) (r14 : Int32 → Int32 → et_G → Option (Unit × et_G)) (x1 : Int32) (x3 : Int32) (x4 : Int32) (g : et_G) : Option (Unit × et_G) :=
  et_ck (et_ib x4 144) (
  et_b (g.1 21 x4.toNatClampNeg) (fun v3 =>
  et_b (x3 + (1 : Int32)) (fun v4 =>
  r14 v3 v4 g)))
def fn_Tw_fillHours_15_14 (r2 : Int32 → et_G → Option (Unit × et_G)) (x1 : Int32) : Nat → Int32 → Int32 → et_G → Option (Unit × et_G)
  | 0, _, _, _ => none
  | n + 1, x2, x3, g =>
    if (24 : Int32) ≤ x3 then
      et_b (x1 + (1 : Int32)) (fun v1 =>
      r2 v1 g)
    else
      et_b ((x1 * (24 : Int32)) + x3) (fun v2 =>
      et_ck (et_ib v2 144) (
      if (g.1 21 v2.toNatClampNeg) = (-1 : Int32) then
        et_ck (et_ib v2 144) (et_b (et_si g 21 v2.toNatClampNeg x2) (fun g5 =>
        fn_Tw_fillHours_15_47 r2 (fun z2 z3 g => fn_Tw_fillHours_15_14 r2 x1 n z2 z3 g) x1 x3 v2 g5))
      else
        fn_Tw_fillHours_15_47 r2 (fun z2 z3 g => fn_Tw_fillHours_15_14 r2 x1 n z2 z3 g) x1 x3 v2 g))
def fn_Tw_fillHours_15_2 : Nat → Int32 → et_G → Option (Unit × et_G)
  | 0, _, _ => none
  | n + 1, x1, g =>
    if (g.1 15 3) ≤ x1 then
      some ((), g)
    else
      fn_Tw_fillHours_15_14 (fun z1 g => fn_Tw_fillHours_15_2 n z1 g) x1 1000000 (0 : Int32) (0 : Int32) g
def fn_Tw_fillHours_15 (g : et_G) : Option (Unit × et_G) :=
  fn_Tw_fillHours_15_2 1000000 (0 : Int32) g
theorem zp_Tw_fillHours_15_47 {X : et_X} {w : et_W} (hX : et_Gd X w cX6_fillHours RX6 5 (none) [] rm_Tw_fillHours_15) (r2 : Int32 → et_G → Option (Unit × et_G)) (r14 : Int32 → Int32 → et_G → Option (Unit × et_G)) (x1 : Int32) (x3 : Int32) (x4 : Int32) (hr2 : ∀ (y1 : Int32) (g : et_G), et_Z X w 0 et_eU 2 [some (.ref (et_ad w 15)), some (.int y1), none, none, none] [] g (r2 y1 g)) (hr14 : ∀ (y2 : Int32) (y3 : Int32) (g : et_G), et_Z X w 0 et_eU 14 [some (.ref (et_ad w 15)), some (.int x1), some (.int y2), some (.int y3), none] [] g (r14 y2 y3 g)) (g : et_G) : et_Z X w 0 et_eU 47 [some (.ref (et_ad w 15)), some (.int x1), none, some (.int x3), some (.int x4)] [] g (fn_Tw_fillHours_15_47 r2 r14 x1 x3 x4 g) := by
  unfold fn_Tw_fillHours_15_47
  refine zi_aload0 (pc := 47) hX dX6_fillHours_47 ?_
  refine zi_getr (q := 21) (pc := 48) hX dX6_fillHours_48 fl_196 ly_15 rfl ?_
  refine zi_iload4 (pc := 51) hX dX6_fillHours_51 ?_
  refine zi_iald (pc := 53) hX dX6_fillHours_53 ly_21 ?_
  refine zi_bi (fun v3 => ?_)
  refine zi_istore2 (pc := 54) hX dX6_fillHours_54 rfl rfl ?_
  refine zi_iincb3 (pc := 55) hX dX6_fillHours_55 (kn_1 _) rfl rfl (fun v4 => ?_)
  refine zi_goto (pc := 58) 14 hX dX6_fillHours_58 (by decide) ?_
  refine zi_drop (le_s (le_s (le_s (le_s (le_n le_nil))))) ?_; exact hr14 v3 v4 g
theorem zp_Tw_fillHours_15_14 {X : et_X} {w : et_W} (hX : et_Gd X w cX6_fillHours RX6 5 (none) [] rm_Tw_fillHours_15) (r2 : Int32 → et_G → Option (Unit × et_G)) (x1 : Int32) (hr2 : ∀ (y1 : Int32) (g : et_G), et_Z X w 0 et_eU 2 [some (.ref (et_ad w 15)), some (.int y1), none, none, none] [] g (r2 y1 g)) : ∀ (n : Nat) (x2 : Int32) (x3 : Int32) (g : et_G), et_Z X w 0 et_eU 14 [some (.ref (et_ad w 15)), some (.int x1), some (.int x2), some (.int x3), none] [] g (fn_Tw_fillHours_15_14 r2 x1 n x2 x3 g) := by
  intro n
  induction n with
  | zero =>
    intro x2 x3 g a g2 h
    cases h
  | succ n ih =>
    intro x2 x3 g
    rw [fn_Tw_fillHours_15_14]
    refine zi_iload3 (pc := 14) hX dX6_fillHours_14 ?_
    refine zi_bipush (pc := 15) hX dX6_fillHours_15 kb_24 ?_
    refine zi_icmp_ge (pc := 17) 61 hX dX6_fillHours_17 (by decide) (fun _ => ?_) (fun _ => ?_)
    · refine zi_iincb1 (pc := 61) hX dX6_fillHours_61 (kn_1 _) rfl rfl (fun v1 => ?_)
      refine zi_goto (pc := 64) 2 hX dX6_fillHours_64 (by decide) ?_
      refine zi_drop (le_s (le_s (le_n (le_n (le_s le_nil))))) ?_; exact hr2 v1 g
    · refine zi_iload1 (pc := 20) hX dX6_fillHours_20 ?_
      refine zi_bipush (pc := 21) hX dX6_fillHours_21 kb_24 ?_
      refine zi_imul (pc := 23) hX dX6_fillHours_23 ?_
      refine zi_iload3 (pc := 24) hX dX6_fillHours_24 ?_
      refine zi_iadd (pc := 25) hX dX6_fillHours_25 ?_
      refine zi_bi (fun v2 => ?_)
      refine zi_istore4 (pc := 26) hX dX6_fillHours_26 rfl rfl ?_
      refine zi_aload0 (pc := 28) hX dX6_fillHours_28 ?_
      refine zi_getr (q := 21) (pc := 29) hX dX6_fillHours_29 fl_196 ly_15 rfl ?_
      refine zi_iload4 (pc := 32) hX dX6_fillHours_32 ?_
      refine zi_iald (pc := 34) hX dX6_fillHours_34 ly_21 ?_
      refine zi_iconst (pc := 35) hX dX6_fillHours_35 ki_m1 ?_
      refine zi_icmp_ne (pc := 36) 47 hX dX6_fillHours_36 (by decide) (fun _ => ?_) (fun _ => ?_)
      · refine zi_aload0 (pc := 39) hX dX6_fillHours_39 ?_
        refine zi_getr (q := 21) (pc := 40) hX dX6_fillHours_40 fl_196 ly_15 rfl ?_
        refine zi_iload4 (pc := 43) hX dX6_fillHours_43 ?_
        refine zi_iload2 (pc := 45) hX dX6_fillHours_45 ?_
        refine zi_iast (pc := 46) hX dX6_fillHours_46 ly_21 (zi_bg (fun g5 => ?_))
        refine zi_drop (le_s (le_s (le_n (le_s (le_s le_nil))))) ?_; exact zp_Tw_fillHours_15_47 hX r2 (fun z2 z3 g => fn_Tw_fillHours_15_14 r2 x1 n z2 z3 g) x1 x3 v2 hr2 (fun z2 z3 g => ih z2 z3 g) g5
      · refine zi_drop (le_s (le_s (le_n (le_s (le_s le_nil))))) ?_; exact zp_Tw_fillHours_15_47 hX r2 (fun z2 z3 g => fn_Tw_fillHours_15_14 r2 x1 n z2 z3 g) x1 x3 v2 hr2 (fun z2 z3 g => ih z2 z3 g) g
theorem zp_Tw_fillHours_15_2 {X : et_X} {w : et_W} (hX : et_Gd X w cX6_fillHours RX6 5 (none) [] rm_Tw_fillHours_15) : ∀ (n : Nat) (x1 : Int32) (g : et_G), et_Z X w 0 et_eU 2 [some (.ref (et_ad w 15)), some (.int x1), none, none, none] [] g (fn_Tw_fillHours_15_2 n x1 g) := by
  intro n
  induction n with
  | zero =>
    intro x1 g a g2 h
    cases h
  | succ n ih =>
    intro x1 g
    rw [fn_Tw_fillHours_15_2]
    refine zi_iload1 (pc := 2) hX dX6_fillHours_2 ?_
    refine zi_aload0 (pc := 3) hX dX6_fillHours_3 ?_
    refine zi_geti (pc := 4) hX dX6_fillHours_4 fl_192 ly_15 rfl ?_
    refine zi_icmp_ge (pc := 7) 67 hX dX6_fillHours_7 (by decide) (fun _ => ?_) (fun _ => ?_)
    · exact zi_vret (pc := 67) hX dX6_fillHours_67 rfl rfl rfl
    · refine zi_iconst (pc := 10) hX dX6_fillHours_10 ki_0 ?_
      refine zi_istore2 (pc := 11) hX dX6_fillHours_11 rfl rfl ?_
      refine zi_iconst (pc := 12) hX dX6_fillHours_12 ki_0 ?_
      refine zi_istore3 (pc := 13) hX dX6_fillHours_13 rfl rfl ?_
      exact zp_Tw_fillHours_15_14 hX (fun z1 g => fn_Tw_fillHours_15_2 n z1 g) x1 (fun z1 g => ih z1 g) 1000000 (0 : Int32) (0 : Int32) g
theorem zw_Tw_fillHours_15 {X : et_X} {w : et_W} (hX : et_Gd X w cX6_fillHours RX6 5 (none) [] rm_Tw_fillHours_15) (g : et_G) : et_Z X w 0 et_eU 0 [some (.ref (et_ad w 15)), none, none, none, none] [] g (fn_Tw_fillHours_15 g) := by
  unfold fn_Tw_fillHours_15
  refine zi_iconst (pc := 0) hX dX6_fillHours_0 ki_0 ?_
  refine zi_istore1 (pc := 1) hX dX6_fillHours_1 rfl rfl ?_
  exact zp_Tw_fillHours_15_2 hX 1000000 (0 : Int32) g
theorem ct_Tw_fillHours_15 {w : et_W} (hw : et_Sane w) (g : et_G) : et_C w yX6_fillHours (Cond.code yX6_fillHours cX6_fillHours 5 (none)) rm_Tw_fillHours_15 et_eU [.ref (et_ad w 15)] g (fn_Tw_fillHours_15 g) := et_mk hw (by decide) rfl rfl (fun X hX => zw_Tw_fillHours_15 hX g)
def rm_Et_isDigit : Room := { frames := 0, cells := 0, slots := 0, locals := 0 }
def fn_Et_isDigit (p0 : Int32) (g : et_G) : Option (Int32 × et_G) :=
  if p0 < (48 : Int32) then
    some ((0 : Int32), g)
  else
    if (57 : Int32) < p0 then
      some ((0 : Int32), g)
    else
      some ((1 : Int32), g)
theorem zw_Et_isDigit {X : et_X} {w : et_W} (hX : et_Gd X w cX9_isDigit RX9 1 (some .boolean) [] rm_Et_isDigit) (p0 : Int32) (g : et_G) : et_Z X w 0 et_eI 0 [some (.int p0)] [] g (fn_Et_isDigit p0 g) := by
  unfold fn_Et_isDigit
  refine zi_iload0 (pc := 0) hX dX9_isDigit_0 ?_
  refine zi_bipush (pc := 1) hX dX9_isDigit_1 kb_48 ?_
  refine zi_icmp_lt (pc := 3) 16 hX dX9_isDigit_3 (by decide) (fun _ => ?_) (fun _ => ?_)
  · refine zi_iconst (pc := 16) hX dX9_isDigit_16 ki_0 ?_
    exact zi_ret (pc := 17) hX dX9_isDigit_17 et_z0 rfl rfl rfl
  · refine zi_iload0 (pc := 6) hX dX9_isDigit_6 ?_
    refine zi_bipush (pc := 7) hX dX9_isDigit_7 kb_57 ?_
    refine zi_icmp_gt (pc := 9) 16 hX dX9_isDigit_9 (by decide) (fun _ => ?_) (fun _ => ?_)
    · refine zi_iconst (pc := 16) hX dX9_isDigit_16 ki_0 ?_
      exact zi_ret (pc := 17) hX dX9_isDigit_17 et_z0 rfl rfl rfl
    · refine zi_iconst (pc := 12) hX dX9_isDigit_12 ki_1 ?_
      refine zi_goto (pc := 13) 17 hX dX9_isDigit_13 (by decide) ?_
      exact zi_ret (pc := 17) hX dX9_isDigit_17 et_z1 rfl rfl rfl
theorem ct_Et_isDigit {w : et_W} (hw : et_Sane w) (p0 : Int32) (g : et_G) : et_C w yX9_isDigit (Cond.code yX9_isDigit cX9_isDigit 1 (some .boolean)) rm_Et_isDigit et_eI [.int p0] g (fn_Et_isDigit p0 g) := et_mk hw (by decide) rfl rfl (fun X hX => zw_Et_isDigit hX p0 g)
