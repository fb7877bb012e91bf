def rm_Gr_eyesOfAll : Room := { frames := 1, cells := 0, slots := 0, locals := 21 }
def fn_Gr_eyesOfAll_4 (x1 : Int32) : Nat → Int32 → Int32 → et_G → Option (Int32 × et_G)
  | 0, _, _, _ => none
  | n + 1, x2, x3, g =>
    if (g.1 34 0) ≤ x3 then
      some (x2, g)
    else
      et_bd (fn_Et_hasBit x1 x3 g) (fun v1 g2 =>
      if v1 = 0 then
        et_b (x3 + (1 : Int32)) (fun v3 =>
        fn_Gr_eyesOfAll_4 x1 n x2 v3 g2)
      else
        et_ck (et_ib x3 20) (
        et_b (x2 ||| (g2.1 57 x3.toNatClampNeg)) (fun v4 =>
        et_b (x3 + (1 : Int32)) (fun v5 =>
        fn_Gr_eyesOfAll_4 x1 n v4 v5 g2))))
def fn_Gr_eyesOfAll (p1 : Int32) (g : et_G) : Option (Int32 × et_G) :=
  fn_Gr_eyesOfAll_4 p1 1000000 (0 : Int32) (0 : Int32) g
theorem zp_Gr_eyesOfAll_4 {X : et_X} {w : et_W} (hX : et_Gd X w cX0_eyesOfAll RX0 4 (some .int) [] rm_Gr_eyesOfAll) (x1 : Int32) : ∀ (n : Nat) (x2 : Int32) (x3 : Int32) (g : et_G), et_Z X w 0 et_eI 4 [some (.ref (et_ad w 48)), some (.int x1), some (.int x2), some (.int x3)] [] g (fn_Gr_eyesOfAll_4 x1 n x2 x3 g) := by
  intro n
  induction n with
  | zero =>
    intro x2 x3 g a g2 h
    cases h
  | succ n ih =>
    intro x2 x3 g
    rw [fn_Gr_eyesOfAll_4]
    refine zi_iload3 (pc := 4) hX dX0_eyesOfAll_4 ?_
    refine zi_aload0 (pc := 5) hX dX0_eyesOfAll_5 ?_
    refine zi_getr (q := 34) (pc := 6) hX dX0_eyesOfAll_6 fl_416 ly_48 rfl ?_
    refine zi_geti (pc := 9) hX dX0_eyesOfAll_9 fl_361 ly_34 rfl ?_
    refine zi_icmp_ge (pc := 12) 38 hX dX0_eyesOfAll_12 (by decide) (fun _ => ?_) (fun _ => ?_)
    · refine zi_iload2 (pc := 38) hX dX0_eyesOfAll_38 ?_
      exact zi_ret (pc := 39) hX dX0_eyesOfAll_39 rfl rfl rfl rfl
    · refine zi_iload1 (pc := 15) hX dX0_eyesOfAll_15 ?_
      refine zi_iload3 (pc := 16) hX dX0_eyesOfAll_16 ?_
      refine zi_callI (zc_nest (pc := 17) hX dX0_eyesOfAll_17 nl_634 md_X9_hasBit st_X9_hasBit (ct_Et_hasBit hX.sane x1 x3 g) rfl rfl rfl) (fun v1 g2 => ?_)
      refine zi_if_eq (pc := 20) 32 hX dX0_eyesOfAll_20 (by decide) (fun _ => ?_) (fun _ => ?_)
      · refine zi_iincb3 (pc := 32) hX dX0_eyesOfAll_32 (kn_1 _) rfl rfl (fun v3 => ?_)
        refine zi_goto (pc := 35) 4 hX dX0_eyesOfAll_35 (by decide) ?_
        exact ih x2 v3 g2
      · refine zi_iload2 (pc := 23) hX dX0_eyesOfAll_23 ?_
        refine zi_aload0 (pc := 24) hX dX0_eyesOfAll_24 ?_
        refine zi_getr (q := 57) (pc := 25) hX dX0_eyesOfAll_25 fl_426 ly_48 rfl ?_
        refine zi_iload3 (pc := 28) hX dX0_eyesOfAll_28 ?_
        refine zi_iald (pc := 29) hX dX0_eyesOfAll_29 ly_57 ?_
        refine zi_ior (pc := 30) hX dX0_eyesOfAll_30 ?_
        refine zi_bi (fun v4 => ?_)
        refine zi_istore2 (pc := 31) hX dX0_eyesOfAll_31 rfl rfl ?_
        refine zi_iincb3 (pc := 32) hX dX0_eyesOfAll_32 (kn_1 _) rfl rfl (fun v5 => ?_)
        refine zi_goto (pc := 35) 4 hX dX0_eyesOfAll_35 (by decide) ?_
        exact ih v4 v5 g2
theorem zw_Gr_eyesOfAll {X : et_X} {w : et_W} (hX : et_Gd X w cX0_eyesOfAll RX0 4 (some .int) [] rm_Gr_eyesOfAll) (p1 : Int32) (g : et_G) : et_Z X w 0 et_eI 0 [some (.ref (et_ad w 48)), some (.int p1), none, none] [] g (fn_Gr_eyesOfAll p1 g) := by
  unfold fn_Gr_eyesOfAll
  refine zi_iconst (pc := 0) hX dX0_eyesOfAll_0 ki_0 ?_
  refine zi_istore2 (pc := 1) hX dX0_eyesOfAll_1 rfl rfl ?_
  refine zi_iconst (pc := 2) hX dX0_eyesOfAll_2 ki_0 ?_
  refine zi_istore3 (pc := 3) hX dX0_eyesOfAll_3 rfl rfl ?_
  exact zp_Gr_eyesOfAll_4 hX p1 1000000 (0 : Int32) (0 : Int32) g
theorem ct_Gr_eyesOfAll {w : et_W} (hw : et_Sane w) (p1 : Int32) (g : et_G) : et_C w yX0_eyesOfAll (Cond.code yX0_eyesOfAll cX0_eyesOfAll 4 (some .int)) rm_Gr_eyesOfAll et_eI [.ref (et_ad w 48), .int p1] g (fn_Gr_eyesOfAll p1 g) := et_mk hw (by decide) rfl rfl (fun X hX => zw_Gr_eyesOfAll hX p1 g)
def rm_Gr_tailEyes : Room := { frames := 1, cells := 0, slots := 0, locals := 21 }
def fn_Gr_tailEyes_5 (x1 : Int32) (x2 : Int32) : Nat → Int32 → Int32 → et_G → Option (Int32 × et_G)
  | 0, _, _, _ => none
  | n + 1, x3, x4, g =>
    if (g.1 2 5) ≤ x4 then
      some (x3, g)
    else
      et_bd (fn_Et_hasBit x2 x4 g) (fun v1 g2 =>
      if v1 = 0 then
        et_b (x4 + (1 : Int32)) (fun v3 =>
        fn_Gr_tailEyes_5 x1 x2 n x3 v3 g2)
      else
        et_ck (et_ib ((x1 * (8 : Int32)) + x4) 160) (
        et_b (x3 ||| (g2.1 58 ((x1 * (8 : Int32)) + x4).toNatClampNeg)) (fun v4 =>
        et_b (x4 + (1 : Int32)) (fun v5 =>
        fn_Gr_tailEyes_5 x1 x2 n v4 v5 g2))))
def fn_Gr_tailEyes (p1 : Int32) (p2 : Int32) (g : et_G) : Option (Int32 × et_G) :=
  fn_Gr_tailEyes_5 p1 p2 1000000 (0 : Int32) (0 : Int32) g
theorem zp_Gr_tailEyes_5 {X : et_X} {w : et_W} (hX : et_Gd X w cX0_tailEyes RX0 5 (some .int) [] rm_Gr_tailEyes) (x1 : Int32) (x2 : Int32) : ∀ (n : Nat) (x3 : Int32) (x4 : Int32) (g : et_G), et_Z X w 0 et_eI 5 [some (.ref (et_ad w 48)), some (.int x1), some (.int x2), some (.int x3), some (.int x4)] [] g (fn_Gr_tailEyes_5 x1 x2 n x3 x4 g) := by
  intro n
  induction n with
  | zero =>
    intro x3 x4 g a g2 h
    cases h
  | succ n ih =>
    intro x3 x4 g
    rw [fn_Gr_tailEyes_5]
    refine zi_iload4 (pc := 5) hX dX0_tailEyes_5 ?_
    refine zi_aload0 (pc := 7) hX dX0_tailEyes_7 ?_
    refine zi_getr (q := 2) (pc := 8) hX dX0_tailEyes_8 fl_415 ly_48 rfl ?_
    refine zi_geti (pc := 11) hX dX0_tailEyes_11 fl_201 ly_2 rfl ?_
    refine zi_icmp_ge (pc := 14) 47 hX dX0_tailEyes_14 (by decide) (fun _ => ?_) (fun _ => ?_)
    · refine zi_iload3 (pc := 47) hX dX0_tailEyes_47 ?_
      exact zi_ret (pc := 48) hX dX0_tailEyes_48 rfl rfl rfl rfl
    · refine zi_iload2 (pc := 17) hX dX0_tailEyes_17 ?_
      refine zi_iload4 (pc := 18) hX dX0_tailEyes_18 ?_
      refine zi_callI (zc_nest (pc := 20) hX dX0_tailEyes_20 nl_634 md_X9_hasBit st_X9_hasBit (ct_Et_hasBit hX.sane x2 x4 g) rfl rfl rfl) (fun v1 g2 => ?_)
      refine zi_if_eq (pc := 23) 41 hX dX0_tailEyes_23 (by decide) (fun _ => ?_) (fun _ => ?_)
      · refine zi_iincb4 (pc := 41) hX dX0_tailEyes_41 (kn_1 _) rfl rfl (fun v3 => ?_)
        refine zi_goto (pc := 44) 5 hX dX0_tailEyes_44 (by decide) ?_
        exact ih x3 v3 g2
      · refine zi_iload3 (pc := 26) hX dX0_tailEyes_26 ?_
        refine zi_aload0 (pc := 27) hX dX0_tailEyes_27 ?_
        refine zi_getr (q := 58) (pc := 28) hX dX0_tailEyes_28 fl_427 ly_48 rfl ?_
        refine zi_iload1 (pc := 31) hX dX0_tailEyes_31 ?_
        refine zi_bipush (pc := 32) hX dX0_tailEyes_32 kb_8 ?_
        refine zi_imul (pc := 34) hX dX0_tailEyes_34 ?_
        refine zi_iload4 (pc := 35) hX dX0_tailEyes_35 ?_
        refine zi_iadd (pc := 37) hX dX0_tailEyes_37 ?_
        refine zi_iald (pc := 38) hX dX0_tailEyes_38 ly_58 ?_
        refine zi_ior (pc := 39) hX dX0_tailEyes_39 ?_
        refine zi_bi (fun v4 => ?_)
        refine zi_istore3 (pc := 40) hX dX0_tailEyes_40 rfl rfl ?_
        refine zi_iincb4 (pc := 41) hX dX0_tailEyes_41 (kn_1 _) rfl rfl (fun v5 => ?_)
        refine zi_goto (pc := 44) 5 hX dX0_tailEyes_44 (by decide) ?_
        exact ih v4 v5 g2
theorem zw_Gr_tailEyes {X : et_X} {w : et_W} (hX : et_Gd X w cX0_tailEyes RX0 5 (some .int) [] rm_Gr_tailEyes) (p1 : Int32) (p2 : Int32) (g : et_G) : et_Z X w 0 et_eI 0 [some (.ref (et_ad w 48)), some (.int p1), some (.int p2), none, none] [] g (fn_Gr_tailEyes p1 p2 g) := by
  unfold fn_Gr_tailEyes
  refine zi_iconst (pc := 0) hX dX0_tailEyes_0 ki_0 ?_
  refine zi_istore3 (pc := 1) hX dX0_tailEyes_1 rfl rfl ?_
  refine zi_iconst (pc := 2) hX dX0_tailEyes_2 ki_0 ?_
  refine zi_istore4 (pc := 3) hX dX0_tailEyes_3 rfl rfl ?_
  exact zp_Gr_tailEyes_5 hX p1 p2 1000000 (0 : Int32) (0 : Int32) g
theorem ct_Gr_tailEyes {w : et_W} (hw : et_Sane w) (p1 : Int32) (p2 : Int32) (g : et_G) : et_C w yX0_tailEyes (Cond.code yX0_tailEyes cX0_tailEyes 5 (some .int)) rm_Gr_tailEyes et_eI [.ref (et_ad w 48), .int p1, .int p2] g (fn_Gr_tailEyes p1 p2 g) := et_mk hw (by decide) rfl rfl (fun X hX => zw_Gr_tailEyes hX p1 p2 g)
def rm_Gr_ruleEyes : Room := { frames := 2, cells := 0, slots := 0, locals := 45 }
def fn_Gr_ruleEyes_5 (x1 : Int32) (x2 : Int32) : Nat → Int32 → Int32 → et_G → Option (Int32 × et_G)
  | 0, _, _, _ => none
  | n + 1, x3, x4, g =>
    if (g.1 2 11) ≤ x4 then
      some (x3, g)
    else
      et_ck (et_ib x1 20) (
      et_bd (fn_Tw_follows x4 x2 (g.1 54 x1.toNatClampNeg) g) (fun v1 g2 =>
      if v1 = 0 then
        et_b (x4 + (1 : Int32)) (fun v3 =>
        fn_Gr_ruleEyes_5 x1 x2 n x3 v3 g2)
      else
        et_ck (et_ib x4 6) (
        et_bd (fn_Gr_tailEyes x1 (g2.1 13 x4.toNatClampNeg) g2) (fun v4 g5 =>
        et_b (x3 ||| v4) (fun v6 =>
        et_b (x4 + (1 : Int32)) (fun v7 =>
        fn_Gr_ruleEyes_5 x1 x2 n v6 v7 g5))))))
def fn_Gr_ruleEyes (p1 : Int32) (p2 : Int32) (g : et_G) : Option (Int32 × et_G) :=
  fn_Gr_ruleEyes_5 p1 p2 1000000 (0 : Int32) (0 : Int32) g
theorem zp_Gr_ruleEyes_5 {X : et_X} {w : et_W} (hX : et_Gd X w cX0_ruleEyes RX0 5 (some .int) [] rm_Gr_ruleEyes) (x1 : Int32) (x2 : Int32) : ∀ (n : Nat) (x3 : Int32) (x4 : Int32) (g : et_G), et_Z X w 0 et_eI 5 [some (.ref (et_ad w 48)), some (.int x1), some (.int x2), some (.int x3), some (.int x4)] [] g (fn_Gr_ruleEyes_5 x1 x2 n x3 x4 g) := by
  intro n
  induction n with
  | zero =>
    intro x3 x4 g a g2 h
    cases h
  | succ n ih =>
    intro x3 x4 g
    rw [fn_Gr_ruleEyes_5]
    refine zi_iload4 (pc := 5) hX dX0_ruleEyes_5 ?_
    refine zi_aload0 (pc := 7) hX dX0_ruleEyes_7 ?_
    refine zi_getr (q := 2) (pc := 8) hX dX0_ruleEyes_8 fl_415 ly_48 rfl ?_
    refine zi_geti (pc := 11) hX dX0_ruleEyes_11 fl_221 ly_2 rfl ?_
    refine zi_icmp_ge (pc := 14) 60 hX dX0_ruleEyes_14 (by decide) (fun _ => ?_) (fun _ => ?_)
    · refine zi_iload3 (pc := 60) hX dX0_ruleEyes_60 ?_
      exact zi_ret (pc := 61) hX dX0_ruleEyes_61 rfl rfl rfl rfl
    · refine zi_aload0 (pc := 17) hX dX0_ruleEyes_17 ?_
      refine zi_getr (q := 2) (pc := 18) hX dX0_ruleEyes_18 fl_415 ly_48 rfl ?_
      refine zi_iload4 (pc := 21) hX dX0_ruleEyes_21 ?_
      refine zi_iload2 (pc := 23) hX dX0_ruleEyes_23 ?_
      refine zi_aload0 (pc := 24) hX dX0_ruleEyes_24 ?_
      refine zi_getr (q := 54) (pc := 25) hX dX0_ruleEyes_25 fl_422 ly_48 rfl ?_
      refine zi_iload1 (pc := 28) hX dX0_ruleEyes_28 ?_
      refine zi_iald (pc := 29) hX dX0_ruleEyes_29 ly_54 ?_
      refine zi_callI (zc_virt (pc := 30) hX dX0_ruleEyes_30 tm_1199 md_X6_follows mi_X6_follows ly_2 (ct_Tw_follows hX.sane x4 x2 (g.1 54 x1.toNatClampNeg) g) rfl rfl rfl) (fun v1 g2 => ?_)
      refine zi_if_eq (pc := 33) 54 hX dX0_ruleEyes_33 (by decide) (fun _ => ?_) (fun _ => ?_)
      · refine zi_iincb4 (pc := 54) hX dX0_ruleEyes_54 (kn_1 _) rfl rfl (fun v3 => ?_)
        refine zi_goto (pc := 57) 5 hX dX0_ruleEyes_57 (by decide) ?_
        exact ih x3 v3 g2
      · refine zi_iload3 (pc := 36) hX dX0_ruleEyes_36 ?_
        refine zi_aload0 (pc := 37) hX dX0_ruleEyes_37 ?_
        refine zi_iload1 (pc := 38) hX dX0_ruleEyes_38 ?_
        refine zi_aload0 (pc := 39) hX dX0_ruleEyes_39 ?_
        refine zi_getr (q := 2) (pc := 40) hX dX0_ruleEyes_40 fl_415 ly_48 rfl ?_
        refine zi_getr (q := 13) (pc := 43) hX dX0_ruleEyes_43 fl_226 ly_2 rfl ?_
        refine zi_iload4 (pc := 46) hX dX0_ruleEyes_46 ?_
        refine zi_iald (pc := 48) hX dX0_ruleEyes_48 ly_13 ?_
        refine zi_callI (zc_virt (pc := 49) hX dX0_ruleEyes_49 tm_1200 md_X0_tailEyes mi_X0_tailEyes ly_48 (ct_Gr_tailEyes hX.sane x1 (g2.1 13 x4.toNatClampNeg) g2) rfl rfl rfl) (fun v4 g5 => ?_)
        refine zi_ior (pc := 52) hX dX0_ruleEyes_52 ?_
        refine zi_bi (fun v6 => ?_)
        refine zi_istore3 (pc := 53) hX dX0_ruleEyes_53 rfl rfl ?_
        refine zi_iincb4 (pc := 54) hX dX0_ruleEyes_54 (kn_1 _) rfl rfl (fun v7 => ?_)
        refine zi_goto (pc := 57) 5 hX dX0_ruleEyes_57 (by decide) ?_
        exact ih v6 v7 g5
theorem zw_Gr_ruleEyes {X : et_X} {w : et_W} (hX : et_Gd X w cX0_ruleEyes RX0 5 (some .int) [] rm_Gr_ruleEyes) (p1 : Int32) (p2 : Int32) (g : et_G) : et_Z X w 0 et_eI 0 [some (.ref (et_ad w 48)), some (.int p1), some (.int p2), none, none] [] g (fn_Gr_ruleEyes p1 p2 g) := by
  unfold fn_Gr_ruleEyes
  refine zi_iconst (pc := 0) hX dX0_ruleEyes_0 ki_0 ?_
  refine zi_istore3 (pc := 1) hX dX0_ruleEyes_1 rfl rfl ?_
  refine zi_iconst (pc := 2) hX dX0_ruleEyes_2 ki_0 ?_
  refine zi_istore4 (pc := 3) hX dX0_ruleEyes_3 rfl rfl ?_
  exact zp_Gr_ruleEyes_5 hX p1 p2 1000000 (0 : Int32) (0 : Int32) g
theorem ct_Gr_ruleEyes {w : et_W} (hw : et_Sane w) (p1 : Int32) (p2 : Int32) (g : et_G) : et_C w yX0_ruleEyes (Cond.code yX0_ruleEyes cX0_ruleEyes 5 (some .int)) rm_Gr_ruleEyes et_eI [.ref (et_ad w 48), .int p1, .int p2] g (fn_Gr_ruleEyes p1 p2 g) := et_mk hw (by decide) rfl rfl (fun X hX => zw_Gr_ruleEyes hX p1 p2 g)
def rm_Gr_eyesNow : Room := { frames := 3, cells := 0, slots := 0, locals := 69 }
def fn_Gr_eyesNow (p1 : Int32) (g : et_G) : Option (Int32 × et_G) :=
  et_ck (et_ib p1 20) (
  if (g.1 38 p1.toNatClampNeg) = 0 then
    et_ck (et_ib p1 20) (
    some ((1 : Int32) <<< ((g.1 35 p1.toNatClampNeg) &&& 31), g))
  else
  if (g.1 38 p1.toNatClampNeg) = 1 then
    et_ck (et_ib p1 20) (
    some ((1 : Int32) <<< ((g.1 35 p1.toNatClampNeg) &&& 31), g))
  else
  if (g.1 38 p1.toNatClampNeg) = 2 then
    et_ck (et_ib p1 20) (
    et_bd (fn_Gr_eyesOfAll ((g.1 53 p1.toNatClampNeg) &&& (g.1 48 14)) g) (fun v1 g2 =>
    some (v1, g2)))
  else
  if (g.1 38 p1.toNatClampNeg) = 3 then
    et_ck (et_ib p1 20) (
    et_bd (fn_Gr_ruleEyes p1 (g.1 37 p1.toNatClampNeg) g) (fun v3 g4 =>
    some (v3, g4)))
  else
  some ((0 : Int32), g))
theorem zw_Gr_eyesNow {X : et_X} {w : et_W} (hX : et_Gd X w cX0_eyesNow RX0 2 (some .int) [] rm_Gr_eyesNow) (p1 : Int32) (g : et_G) : et_Z X w 0 et_eI 0 [some (.ref (et_ad w 48)), some (.int p1)] [] g (fn_Gr_eyesNow p1 g) := by
  unfold fn_Gr_eyesNow
  refine zi_aload0 (pc := 0) hX dX0_eyesNow_0 ?_
  refine zi_getr (q := 34) (pc := 1) hX dX0_eyesNow_1 fl_416 ly_48 rfl ?_
  refine zi_getr (q := 38) (pc := 4) hX dX0_eyesNow_4 fl_373 ly_34 rfl ?_
  refine zi_iload1 (pc := 7) hX dX0_eyesNow_7 ?_
  refine zi_iald (pc := 8) hX dX0_eyesNow_8 ly_38 ?_
  refine zi_ite (fun h0 => ?_) (fun h0 => ?_)
  · refine zi_tabI (pc := 9) 40 hX dX0_eyesNow_9 0 h0 (by decide) (by decide) rfl (by decide) ?_
    refine zi_iconst (pc := 40) hX dX0_eyesNow_40 ki_1 ?_
    refine zi_aload0 (pc := 41) hX dX0_eyesNow_41 ?_
    refine zi_getr (q := 34) (pc := 42) hX dX0_eyesNow_42 fl_416 ly_48 rfl ?_
    refine zi_getr (q := 35) (pc := 45) hX dX0_eyesNow_45 fl_363 ly_34 rfl ?_
    refine zi_iload1 (pc := 48) hX dX0_eyesNow_48 ?_
    refine zi_iald (pc := 49) hX dX0_eyesNow_49 ly_35 ?_
    refine zi_ishl (pc := 50) hX dX0_eyesNow_50 ?_
    exact zi_ret (pc := 51) hX dX0_eyesNow_51 rfl rfl rfl rfl
  refine zi_ite (fun h1 => ?_) (fun h1 => ?_)
  · refine zi_tabI (pc := 9) 40 hX dX0_eyesNow_9 1 h1 (by decide) (by decide) rfl (by decide) ?_
    refine zi_iconst (pc := 40) hX dX0_eyesNow_40 ki_1 ?_
    refine zi_aload0 (pc := 41) hX dX0_eyesNow_41 ?_
    refine zi_getr (q := 34) (pc := 42) hX dX0_eyesNow_42 fl_416 ly_48 rfl ?_
    refine zi_getr (q := 35) (pc := 45) hX dX0_eyesNow_45 fl_363 ly_34 rfl ?_
    refine zi_iload1 (pc := 48) hX dX0_eyesNow_48 ?_
    refine zi_iald (pc := 49) hX dX0_eyesNow_49 ly_35 ?_
    refine zi_ishl (pc := 50) hX dX0_eyesNow_50 ?_
    exact zi_ret (pc := 51) hX dX0_eyesNow_51 rfl rfl rfl rfl
  refine zi_ite (fun h2 => ?_) (fun h2 => ?_)
  · refine zi_tabI (pc := 9) 52 hX dX0_eyesNow_9 2 h2 (by decide) (by decide) rfl (by decide) ?_
    refine zi_aload0 (pc := 52) hX dX0_eyesNow_52 ?_
    refine zi_aload0 (pc := 53) hX dX0_eyesNow_53 ?_
    refine zi_getr (q := 53) (pc := 54) hX dX0_eyesNow_54 fl_421 ly_48 rfl ?_
    refine zi_iload1 (pc := 57) hX dX0_eyesNow_57 ?_
    refine zi_iald (pc := 58) hX dX0_eyesNow_58 ly_53 ?_
    refine zi_aload0 (pc := 59) hX dX0_eyesNow_59 ?_
    refine zi_geti (pc := 60) hX dX0_eyesNow_60 fl_432 ly_48 rfl ?_
    refine zi_iand (pc := 63) hX dX0_eyesNow_63 ?_
    refine zi_callI (zc_virt (pc := 64) hX dX0_eyesNow_64 tm_1204 md_X0_eyesOfAll mi_X0_eyesOfAll ly_48 (ct_Gr_eyesOfAll hX.sane ((g.1 53 p1.toNatClampNeg) &&& (g.1 48 14)) g) rfl rfl rfl) (fun v1 g2 => ?_)
    exact zi_ret (pc := 67) hX dX0_eyesNow_67 rfl rfl rfl rfl
  refine zi_ite (fun h3 => ?_) (fun h3 => ?_)
  · refine zi_tabI (pc := 9) 68 hX dX0_eyesNow_9 3 h3 (by decide) (by decide) rfl (by decide) ?_
    refine zi_aload0 (pc := 68) hX dX0_eyesNow_68 ?_
    refine zi_iload1 (pc := 69) hX dX0_eyesNow_69 ?_
    refine zi_aload0 (pc := 70) hX dX0_eyesNow_70 ?_
    refine zi_getr (q := 34) (pc := 71) hX dX0_eyesNow_71 fl_416 ly_48 rfl ?_
    refine zi_getr (q := 37) (pc := 74) hX dX0_eyesNow_74 fl_369 ly_34 rfl ?_
    refine zi_iload1 (pc := 77) hX dX0_eyesNow_77 ?_
    refine zi_iald (pc := 78) hX dX0_eyesNow_78 ly_37 ?_
    refine zi_callI (zc_virt (pc := 79) hX dX0_eyesNow_79 tm_1195 md_X0_ruleEyes mi_X0_ruleEyes ly_48 (ct_Gr_ruleEyes hX.sane p1 (g.1 37 p1.toNatClampNeg) g) rfl rfl rfl) (fun v3 g4 => ?_)
    exact zi_ret (pc := 82) hX dX0_eyesNow_82 rfl rfl rfl rfl
  refine zi_tabO (pc := 9) 83 hX dX0_eyesNow_9 (et_out0_3 h0 h1 h2 h3) (by decide) ?_
  refine zi_iconst (pc := 83) hX dX0_eyesNow_83 ki_0 ?_
  exact zi_ret (pc := 84) hX dX0_eyesNow_84 rfl rfl rfl rfl
theorem ct_Gr_eyesNow {w : et_W} (hw : et_Sane w) (p1 : Int32) (g : et_G) : et_C w yX0_eyesNow (Cond.code yX0_eyesNow cX0_eyesNow 2 (some .int)) rm_Gr_eyesNow et_eI [.ref (et_ad w 48), .int p1] g (fn_Gr_eyesNow p1 g) := et_mk hw (by decide) rfl rfl (fun X hX => zw_Gr_eyesNow hX p1 g)
def rm_Gr_openThingEyes : Room := { frames := 3, cells := 0, slots := 0, locals := 69 }
def fn_Gr_openThingEyes_116 (r4 : Int32 → Int32 → et_G → Option (Int32 × et_G)) (x1 : Int32) (x3 : Int32) (x4 : Int32) (x5 : Int32) (s0 : Int32) (g : et_G) : Option (Int32 × et_G) :=
  et_ck (et_ib x4 160) (et_b (et_si g 58 x4.toNatClampNeg x5) (fun g11 =>
  et_b (x3 + (1 : Int32)) (fun v12 =>
  r4 s0 v12 g11)))
def fn_Gr_openThingEyes_111 (r4 : Int32 → Int32 → et_G → Option (Int32 × et_G)) (x1 : Int32) (x3 : Int32) (x4 : Int32) (x5 : Int32) (g : et_G) : Option (Int32 × et_G) :=
  fn_Gr_openThingEyes_116 r4 x1 x3 x4 x5 (1 : Int32) g
def fn_Gr_openThingEyes_95 (r4 : Int32 → Int32 → et_G → Option (Int32 × et_G)) (x1 : Int32) (x2 : Int32) (x3 : Int32) (x4 : Int32) (x5 : Int32) (g : et_G) : Option (Int32 × et_G) :=
  if x2 = 0 then
    et_ck (et_ib x4 160) (
    if x5 = (g.1 58 x4.toNatClampNeg) then
      fn_Gr_openThingEyes_116 r4 x1 x3 x4 x5 (0 : Int32) g
    else
      fn_Gr_openThingEyes_111 r4 x1 x3 x4 x5 g)
  else
    fn_Gr_openThingEyes_111 r4 x1 x3 x4 x5 g
def fn_Gr_openThingEyes_4 (x1 : Int32) : Nat → Int32 → Int32 → et_G → Option (Int32 × et_G)
  | 0, _, _, _ => none
  | n + 1, x2, x3, g =>
    if (g.1 2 5) ≤ x3 then
      some (x2 &&& 1, g)
    else
      et_b ((x1 * (8 : Int32)) + x3) (fun v1 =>
      et_ck (et_ib v1 160) (
      et_bd (fn_Gr_ruleEyes x1 x3 g) (fun v2 g3 =>
      et_ck (et_ib x1 20) (
      et_bd (fn_Gr_aboutRow x3 (0 : Int32) g3) (fun v4 g5 =>
      et_ck (et_ib v4 16) (
      et_bd (fn_Gr_eyesOfAll (((g3.1 49 x1.toNatClampNeg) &&& (g5.1 52 v4.toNatClampNeg)) &&& (g5.1 48 14)) g5) (fun v6 g7 =>
      et_b (((g.1 58 v1.toNatClampNeg) ||| v2) ||| v6) (fun v8 =>
      et_ck (et_ib x1 20) (
      et_bd (fn_Et_hasBit (g7.1 50 x1.toNatClampNeg) x3 g7) (fun v9 g10 =>
      if v9 = 0 then
        fn_Gr_openThingEyes_95 (fun z2 z3 g => fn_Gr_openThingEyes_4 x1 n z2 z3 g) x1 x2 x3 v1 v8 g10
      else
        et_ck (et_ib x1 20) (
        et_b (v8 ||| ((1 : Int32) <<< ((g10.1 35 x1.toNatClampNeg) &&& 31))) (fun v13 =>
        fn_Gr_openThingEyes_95 (fun z2 z3 g => fn_Gr_openThingEyes_4 x1 n z2 z3 g) x1 x2 x3 v1 v13 g10))))))))))))
def fn_Gr_openThingEyes (p1 : Int32) (g : et_G) : Option (Int32 × et_G) :=
  fn_Gr_openThingEyes_4 p1 1000000 (0 : Int32) (0 : Int32) g
theorem zp_Gr_openThingEyes_116 {X : et_X} {w : et_W} (hX : et_Gd X w cX0_openThingEyes RX0 6 (some .boolean) [] rm_Gr_openThingEyes) (r4 : Int32 → Int32 → et_G → Option (Int32 × et_G)) (x1 : Int32) (x3 : Int32) (x4 : Int32) (x5 : Int32) (s0 : Int32) (hr4 : ∀ (y2 : Int32) (y3 : Int32) (g : et_G), et_Z X w 0 et_eI 4 [some (.ref (et_ad w 48)), some (.int x1), some (.int y2), some (.int y3), none, none] [] g (r4 y2 y3 g)) (g : et_G) : et_Z X w 0 et_eI 116 [some (.ref (et_ad w 48)), some (.int x1), none, some (.int x3), some (.int x4), some (.int x5)] [.int s0] g (fn_Gr_openThingEyes_116 r4 x1 x3 x4 x5 s0 g) := by
  unfold fn_Gr_openThingEyes_116
  refine zi_istore2 (pc := 116) hX dX0_openThingEyes_116 rfl rfl ?_
  refine zi_aload0 (pc := 117) hX dX0_openThingEyes_117 ?_
  refine zi_getr (q := 58) (pc := 118) hX dX0_openThingEyes_118 fl_427 ly_48 rfl ?_
  refine zi_iload4 (pc := 121) hX dX0_openThingEyes_121 ?_
  refine zi_iload5 (pc := 123) hX dX0_openThingEyes_123 ?_
  refine zi_iast (pc := 125) hX dX0_openThingEyes_125 ly_58 (zi_bg (fun g11 => ?_))
  refine zi_iincb3 (pc := 126) hX dX0_openThingEyes_126 (kn_1 _) rfl rfl (fun v12 => ?_)
  refine zi_goto (pc := 129) 4 hX dX0_openThingEyes_129 (by decide) ?_
  refine zi_drop (le_s (le_s (le_s (le_s (le_n (le_n le_nil)))))) ?_; exact hr4 s0 v12 g11
theorem zp_Gr_openThingEyes_111 {X : et_X} {w : et_W} (hX : et_Gd X w cX0_openThingEyes RX0 6 (some .boolean) [] rm_Gr_openThingEyes) (r4 : Int32 → Int32 → et_G → Option (Int32 × et_G)) (x1 : Int32) (x3 : Int32) (x4 : Int32) (x5 : Int32) (hr4 : ∀ (y2 : Int32) (y3 : Int32) (g : et_G), et_Z X w 0 et_eI 4 [some (.ref (et_ad w 48)), some (.int x1), some (.int y2), some (.int y3), none, none] [] g (r4 y2 y3 g)) (g : et_G) : et_Z X w 0 et_eI 111 [some (.ref (et_ad w 48)), some (.int x1), none, some (.int x3), some (.int x4), some (.int x5)] [] g (fn_Gr_openThingEyes_111 r4 x1 x3 x4 x5 g) := by
  unfold fn_Gr_openThingEyes_111
  refine zi_iconst (pc := 111) hX dX0_openThingEyes_111 ki_1 ?_
  refine zi_goto (pc := 112) 116 hX dX0_openThingEyes_112 (by decide) ?_
  exact zp_Gr_openThingEyes_116 hX r4 x1 x3 x4 x5 (1 : Int32) hr4 g
theorem zp_Gr_openThingEyes_95 {X : et_X} {w : et_W} (hX : et_Gd X w cX0_openThingEyes RX0 6 (some .boolean) [] rm_Gr_openThingEyes) (r4 : Int32 → Int32 → et_G → Option (Int32 × et_G)) (x1 : Int32) (x2 : Int32) (x3 : Int32) (x4 : Int32) (x5 : Int32) (hr4 : ∀ (y2 : Int32) (y3 : Int32) (g : et_G), et_Z X w 0 et_eI 4 [some (.ref (et_ad w 48)), some (.int x1), some (.int y2), some (.int y3), none, none] [] g (r4 y2 y3 g)) (g : et_G) : et_Z X w 0 et_eI 95 [some (.ref (et_ad w 48)), some (.int x1), some (.int x2), some (.int x3), some (.int x4), some (.int x5)] [] g (fn_Gr_openThingEyes_95 r4 x1 x2 x3 x4 x5 g) := by
  unfold fn_Gr_openThingEyes_95
  refine zi_iload2 (pc := 95) hX dX0_openThingEyes_95 ?_
  refine zi_if_ne (pc := 96) 111 hX dX0_openThingEyes_96 (by decide) (fun _ => ?_) (fun _ => ?_)
  · refine zi_iload5 (pc := 99) hX dX0_openThingEyes_99 ?_
    refine zi_aload0 (pc := 101) hX dX0_openThingEyes_101 ?_
    refine zi_getr (q := 58) (pc := 102) hX dX0_openThingEyes_102 fl_427 ly_48 rfl ?_
    refine zi_iload4 (pc := 105) hX dX0_openThingEyes_105 ?_
    refine zi_iald (pc := 107) hX dX0_openThingEyes_107 ly_58 ?_
    refine zi_icmp_eq (pc := 108) 115 hX dX0_openThingEyes_108 (by decide) (fun _ => ?_) (fun _ => ?_)
    · refine zi_iconst (pc := 115) hX dX0_openThingEyes_115 ki_0 ?_
      refine zi_drop (le_s (le_s (le_n (le_s (le_s (le_s le_nil)))))) ?_; exact zp_Gr_openThingEyes_116 hX r4 x1 x3 x4 x5 (0 : Int32) hr4 g
    · refine zi_drop (le_s (le_s (le_n (le_s (le_s (le_s le_nil)))))) ?_; exact zp_Gr_openThingEyes_111 hX r4 x1 x3 x4 x5 hr4 g
  · refine zi_drop (le_s (le_s (le_n (le_s (le_s (le_s le_nil)))))) ?_; exact zp_Gr_openThingEyes_111 hX r4 x1 x3 x4 x5 hr4 g
theorem zp_Gr_openThingEyes_4 {X : et_X} {w : et_W} (hX : et_Gd X w cX0_openThingEyes RX0 6 (some .boolean) [] rm_Gr_openThingEyes) (x1 : Int32) : ∀ (n : Nat) (x2 : Int32) (x3 : Int32) (g : et_G), et_Z X w 0 et_eI 4 [some (.ref (et_ad w 48)), some (.int x1), some (.int x2), some (.int x3), none, none] [] g (fn_Gr_openThingEyes_4 x1 n x2 x3 g) := by
  intro n
  induction n with
  | zero =>
    intro x2 x3 g a g2 h
    cases h
  | succ n ih =>
    intro x2 x3 g
    rw [fn_Gr_openThingEyes_4]
    refine zi_iload3 (pc := 4) hX dX0_openThingEyes_4 ?_
    refine zi_aload0 (pc := 5) hX dX0_openThingEyes_5 ?_
    refine zi_getr (q := 2) (pc := 6) hX dX0_openThingEyes_6 fl_415 ly_48 rfl ?_
    refine zi_geti (pc := 9) hX dX0_openThingEyes_9 fl_201 ly_2 rfl ?_
    refine zi_icmp_ge (pc := 12) 132 hX dX0_openThingEyes_12 (by decide) (fun _ => ?_) (fun _ => ?_)
    · refine zi_iload2 (pc := 132) hX dX0_openThingEyes_132 ?_
      exact zi_ret (pc := 133) hX dX0_openThingEyes_133 rfl rfl rfl rfl
    · refine zi_iload1 (pc := 15) hX dX0_openThingEyes_15 ?_
      refine zi_bipush (pc := 16) hX dX0_openThingEyes_16 kb_8 ?_
      refine zi_imul (pc := 18) hX dX0_openThingEyes_18 ?_
      refine zi_iload3 (pc := 19) hX dX0_openThingEyes_19 ?_
      refine zi_iadd (pc := 20) hX dX0_openThingEyes_20 ?_
      refine zi_bi (fun v1 => ?_)
      refine zi_istore4 (pc := 21) hX dX0_openThingEyes_21 rfl rfl ?_
      refine zi_aload0 (pc := 23) hX dX0_openThingEyes_23 ?_
      refine zi_getr (q := 58) (pc := 24) hX dX0_openThingEyes_24 fl_427 ly_48 rfl ?_
      refine zi_iload4 (pc := 27) hX dX0_openThingEyes_27 ?_
      refine zi_iald (pc := 29) hX dX0_openThingEyes_29 ly_58 ?_
      refine zi_aload0 (pc := 30) hX dX0_openThingEyes_30 ?_
      refine zi_iload1 (pc := 31) hX dX0_openThingEyes_31 ?_
      refine zi_iload3 (pc := 32) hX dX0_openThingEyes_32 ?_
      refine zi_callI (zc_virt (pc := 33) hX dX0_openThingEyes_33 tm_1195 md_X0_ruleEyes mi_X0_ruleEyes ly_48 (ct_Gr_ruleEyes hX.sane x1 x3 g) rfl rfl rfl) (fun v2 g3 => ?_)
      refine zi_ior (pc := 36) hX dX0_openThingEyes_36 ?_
      refine zi_aload0 (pc := 37) hX dX0_openThingEyes_37 ?_
      refine zi_aload0 (pc := 38) hX dX0_openThingEyes_38 ?_
      refine zi_getr (q := 49) (pc := 39) hX dX0_openThingEyes_39 fl_417 ly_48 rfl ?_
      refine zi_iload1 (pc := 42) hX dX0_openThingEyes_42 ?_
      refine zi_iald (pc := 43) hX dX0_openThingEyes_43 ly_49 ?_
      refine zi_aload0 (pc := 44) hX dX0_openThingEyes_44 ?_
      refine zi_getr (q := 52) (pc := 45) hX dX0_openThingEyes_45 fl_420 ly_48 rfl ?_
      refine zi_iload3 (pc := 48) hX dX0_openThingEyes_48 ?_
      refine zi_iconst (pc := 49) hX dX0_openThingEyes_49 ki_0 ?_
      refine zi_callI (zc_stat (pc := 50) hX dX0_openThingEyes_50 tm_614 md_X0_aboutRow st_X0_aboutRow (ct_Gr_aboutRow hX.sane x3 (0 : Int32) g3) rfl rfl rfl) (fun v4 g5 => ?_)
      refine zi_iald (pc := 53) hX dX0_openThingEyes_53 ly_52 ?_
      refine zi_iand (pc := 54) hX dX0_openThingEyes_54 ?_
      refine zi_aload0 (pc := 55) hX dX0_openThingEyes_55 ?_
      refine zi_geti (pc := 56) hX dX0_openThingEyes_56 fl_432 ly_48 rfl ?_
      refine zi_iand (pc := 59) hX dX0_openThingEyes_59 ?_
      refine zi_callI (zc_virt (pc := 60) hX dX0_openThingEyes_60 tm_1204 md_X0_eyesOfAll mi_X0_eyesOfAll ly_48 (ct_Gr_eyesOfAll hX.sane (((g3.1 49 x1.toNatClampNeg) &&& (g5.1 52 v4.toNatClampNeg)) &&& (g5.1 48 14)) g5) rfl rfl rfl) (fun v6 g7 => ?_)
      refine zi_ior (pc := 63) hX dX0_openThingEyes_63 ?_
      refine zi_bi (fun v8 => ?_)
      refine zi_istore5 (pc := 64) hX dX0_openThingEyes_64 rfl rfl ?_
      refine zi_aload0 (pc := 66) hX dX0_openThingEyes_66 ?_
      refine zi_getr (q := 50) (pc := 67) hX dX0_openThingEyes_67 fl_418 ly_48 rfl ?_
      refine zi_iload1 (pc := 70) hX dX0_openThingEyes_70 ?_
      refine zi_iald (pc := 71) hX dX0_openThingEyes_71 ly_50 ?_
      refine zi_iload3 (pc := 72) hX dX0_openThingEyes_72 ?_
      refine zi_callI (zc_nest (pc := 73) hX dX0_openThingEyes_73 nl_634 md_X9_hasBit st_X9_hasBit (ct_Et_hasBit hX.sane (g7.1 50 x1.toNatClampNeg) x3 g7) rfl rfl rfl) (fun v9 g10 => ?_)
      refine zi_if_eq (pc := 76) 95 hX dX0_openThingEyes_76 (by decide) (fun _ => ?_) (fun _ => ?_)
      · exact zp_Gr_openThingEyes_95 hX (fun z2 z3 g => fn_Gr_openThingEyes_4 x1 n z2 z3 g) x1 x2 x3 v1 v8 (fun z2 z3 g => ih z2 z3 g) g10
      · refine zi_iload5 (pc := 79) hX dX0_openThingEyes_79 ?_
        refine zi_iconst (pc := 81) hX dX0_openThingEyes_81 ki_1 ?_
        refine zi_aload0 (pc := 82) hX dX0_openThingEyes_82 ?_
        refine zi_getr (q := 34) (pc := 83) hX dX0_openThingEyes_83 fl_416 ly_48 rfl ?_
        refine zi_getr (q := 35) (pc := 86) hX dX0_openThingEyes_86 fl_363 ly_34 rfl ?_
        refine zi_iload1 (pc := 89) hX dX0_openThingEyes_89 ?_
        refine zi_iald (pc := 90) hX dX0_openThingEyes_90 ly_35 ?_
        refine zi_ishl (pc := 91) hX dX0_openThingEyes_91 ?_
        refine zi_ior (pc := 92) hX dX0_openThingEyes_92 ?_
        refine zi_bi (fun v13 => ?_)
        refine zi_istore5 (pc := 93) hX dX0_openThingEyes_93 rfl rfl ?_
        exact zp_Gr_openThingEyes_95 hX (fun z2 z3 g => fn_Gr_openThingEyes_4 x1 n z2 z3 g) x1 x2 x3 v1 v13 (fun z2 z3 g => ih z2 z3 g) g10
theorem zw_Gr_openThingEyes {X : et_X} {w : et_W} (hX : et_Gd X w cX0_openThingEyes RX0 6 (some .boolean) [] rm_Gr_openThingEyes) (p1 : Int32) (g : et_G) : et_Z X w 0 et_eI 0 [some (.ref (et_ad w 48)), some (.int p1), none, none, none, none] [] g (fn_Gr_openThingEyes p1 g) := by
  unfold fn_Gr_openThingEyes
  refine zi_iconst (pc := 0) hX dX0_openThingEyes_0 ki_0 ?_
  refine zi_istore2 (pc := 1) hX dX0_openThingEyes_1 rfl rfl ?_
  refine zi_iconst (pc := 2) hX dX0_openThingEyes_2 ki_0 ?_
  refine zi_istore3 (pc := 3) hX dX0_openThingEyes_3 rfl rfl ?_
  exact zp_Gr_openThingEyes_4 hX p1 1000000 (0 : Int32) (0 : Int32) g
theorem ct_Gr_openThingEyes {w : et_W} (hw : et_Sane w) (p1 : Int32) (g : et_G) : et_C w yX0_openThingEyes (Cond.code yX0_openThingEyes cX0_openThingEyes 6 (some .boolean)) rm_Gr_openThingEyes et_eI [.ref (et_ad w 48), .int p1] g (fn_Gr_openThingEyes p1 g) := et_mk hw (by decide) rfl rfl (fun X hX => zw_Gr_openThingEyes hX p1 g)
def rm_Gr_openEyes : Room := { frames := 4, cells := 0, slots := 0, locals := 94 }
def fn_Gr_openEyes_167 (r66 : Int32 → Int32 → et_G → Option (Unit × et_G)) (r81 : Int32 → Int32 → et_G → Option (Unit × et_G)) (x2 : Int32) (x3 : Int32) (x5 : Int32) (s0 : Int32) (g : et_G) : Option (Unit × et_G) :=
  et_ck (et_ib x3 20) (et_b (et_si g 57 x3.toNatClampNeg x5) (fun g10 =>
  et_b (x3 + (1 : Int32)) (fun v11 =>
  r81 s0 v11 g10)))
def fn_Gr_openEyes_162 (r66 : Int32 → Int32 → et_G → Option (Unit × et_G)) (r81 : Int32 → Int32 → et_G → Option (Unit × et_G)) (x2 : Int32) (x3 : Int32) (x5 : Int32) (g : et_G) : Option (Unit × et_G) :=
  fn_Gr_openEyes_167 r66 r81 x2 x3 x5 (1 : Int32) g
def fn_Gr_openEyes_140 (r66 : Int32 → Int32 → et_G → Option (Unit × et_G)) (r81 : Int32 → Int32 → et_G → Option (Unit × et_G)) (x1 : Int32) (x2 : Int32) (x3 : Int32) (x4 : Int32) (s0 : Int32) (g : et_G) : Option (Unit × et_G) :=
  if x1 = 0 then
    if x4 = 0 then
      et_ck (et_ib x3 20) (
      if s0 = (g.1 57 x3.toNatClampNeg) then
        fn_Gr_openEyes_167 r66 r81 x2 x3 s0 (0 : Int32) g
      else
        fn_Gr_openEyes_162 r66 r81 x2 x3 s0 g)
    else
      fn_Gr_openEyes_162 r66 r81 x2 x3 s0 g
  else
    fn_Gr_openEyes_162 r66 r81 x2 x3 s0 g
def fn_Gr_openEyes_118 (r66 : Int32 → Int32 → et_G → Option (Unit × et_G)) (r81 : Int32 → Int32 → et_G → Option (Unit × et_G)) (x1 : Int32) (x2 : Int32) (x3 : Int32) (s0 : Int32) (g : et_G) : Option (Unit × et_G) :=
  et_bd (fn_Et_hasBit (g.1 48 13) x3 g) (fun v8 g9 =>
  if v8 = 0 then
    fn_Gr_openEyes_140 r66 r81 x1 x2 x3 s0 (0 : Int32) g9
  else
    et_bd (fn_Gr_eyesNow x3 g9) (fun v12 g13 =>
    fn_Gr_openEyes_140 r66 r81 x1 x2 x3 s0 v12 g13))
def fn_Gr_openEyes_117 (r66 : Int32 → Int32 → et_G → Option (Unit × et_G)) (r81 : Int32 → Int32 → et_G → Option (Unit × et_G)) (x1 : Int32) (x2 : Int32) (x3 : Int32) (g : et_G) : Option (Unit × et_G) :=
  fn_Gr_openEyes_118 r66 r81 x1 x2 x3 (0 : Int32) g
def fn_Gr_openEyes_81 (r66 : Int32 → Int32 → et_G → Option (Unit × et_G)) (x2 : Int32) : Nat → Int32 → Int32 → et_G → Option (Unit × et_G)
  | 0, _, _, _ => none
  | n + 1, x1, x3, g =>
    if (g.1 34 0) ≤ x3 then
      et_b (x2 + (1 : Int32)) (fun v7 =>
      r66 x1 v7 g)
    else
      et_ck (et_ib x3 20) (
      if (g.1 38 x3.toNatClampNeg) = (3 : Int32) then
        et_bd (fn_Gr_openThingEyes x3 g) (fun v14 g15 =>
        if v14 = 0 then
          fn_Gr_openEyes_117 r66 (fun z1 z3 g => fn_Gr_openEyes_81 r66 x2 n z1 z3 g) x1 x2 x3 g15
        else
          fn_Gr_openEyes_118 r66 (fun z1 z3 g => fn_Gr_openEyes_81 r66 x2 n z1 z3 g) x1 x2 x3 (1 : Int32) g15)
      else
        fn_Gr_openEyes_117 r66 (fun z1 z3 g => fn_Gr_openEyes_81 r66 x2 n z1 z3 g) x1 x2 x3 g)
def fn_Gr_openEyes_66 : Nat → Int32 → Int32 → et_G → Option (Unit × et_G)
  | 0, _, _, _ => none
  | n + 1, x1, x2, g =>
    if x1 = 0 then
      et_b (et_si g 48 16 (1 : Int32)) (fun g5 =>
      some ((), g5))
    else
      if (1086 : Int32) ≤ x2 then
        et_b (et_si g 48 16 (1 : Int32)) (fun g6 =>
        some ((), g6))
      else
        fn_Gr_openEyes_81 (fun z1 z2 g => fn_Gr_openEyes_66 n z1 z2 g) x2 1000000 (0 : Int32) (0 : Int32) g
def fn_Gr_openEyes_18 : Nat → Int32 → et_G → Option (Unit × et_G)
  | 0, _, _ => none
  | n + 1, x1, g =>
    if (g.1 34 0) ≤ x1 then
      fn_Gr_openEyes_66 1000000 (1 : Int32) (0 : Int32) g
    else
      et_ck (et_ib x1 20) (
      et_ck (et_ib x1 20) (
      et_bd (fn_Gr_widest ((g.1 49 x1.toNatClampNeg) &&& (g.1 48 14)) (g.1 50 x1.toNatClampNeg) g) (fun v16 g17 =>
      et_ck (et_ib x1 20) (et_b (et_si g17 54 x1.toNatClampNeg v16) (fun g18 =>
      et_b (x1 + (1 : Int32)) (fun v19 =>
      fn_Gr_openEyes_18 n v19 g18))))))
def fn_Gr_openEyes (g : et_G) : Option (Unit × et_G) :=
  et_bd (fn_Ja_fill_57 (0 : Int32) g) (fun _ g2 =>
  et_bd (fn_Ja_fill_58 (0 : Int32) g2) (fun _ g4 =>
  fn_Gr_openEyes_18 1000000 (0 : Int32) g4))
theorem zp_Gr_openEyes_167 {X : et_X} {w : et_W} (hX : et_Gd X w cX0_openEyes RX0 6 (none) [] rm_Gr_openEyes) (r66 : Int32 → Int32 → et_G → Option (Unit × et_G)) (r81 : Int32 → Int32 → et_G → Option (Unit × et_G)) (x2 : Int32) (x3 : Int32) (x5 : Int32) (s0 : Int32) (hr66 : ∀ (y1 : Int32) (y2 : Int32) (g : et_G), et_Z X w 0 et_eU 66 [some (.ref (et_ad w 48)), some (.int y1), some (.int y2), none, none, none] [] g (r66 y1 y2 g)) (hr81 : ∀ (y1 : Int32) (y3 : Int32) (g : et_G), et_Z X w 0 et_eU 81 [some (.ref (et_ad w 48)), some (.int y1), some (.int x2), some (.int y3), none, none] [] g (r81 y1 y3 g)) (g : et_G) : et_Z X w 0 et_eU 167 [some (.ref (et_ad w 48)), none, some (.int x2), some (.int x3), none, some (.int x5)] [.int s0] g (fn_Gr_openEyes_167 r66 r81 x2 x3 x5 s0 g) := by
  unfold fn_Gr_openEyes_167
  refine zi_istore1 (pc := 167) hX dX0_openEyes_167 rfl rfl ?_
  refine zi_aload0 (pc := 168) hX dX0_openEyes_168 ?_
  refine zi_getr (q := 57) (pc := 169) hX dX0_openEyes_169 fl_426 ly_48 rfl ?_
  refine zi_iload3 (pc := 172) hX dX0_openEyes_172 ?_
  refine zi_iload5 (pc := 173) hX dX0_openEyes_173 ?_
  refine zi_iast (pc := 175) hX dX0_openEyes_175 ly_57 (zi_bg (fun g10 => ?_))
  refine zi_iincb3 (pc := 176) hX dX0_openEyes_176 (kn_1 _) rfl rfl (fun v11 => ?_)
  refine zi_goto (pc := 179) 81 hX dX0_openEyes_179 (by decide) ?_
  refine zi_drop (le_s (le_s (le_s (le_s (le_s (le_n le_nil)))))) ?_; exact hr81 s0 v11 g10
theorem zp_Gr_openEyes_162 {X : et_X} {w : et_W} (hX : et_Gd X w cX0_openEyes RX0 6 (none) [] rm_Gr_openEyes) (r66 : Int32 → Int32 → et_G → Option (Unit × et_G)) (r81 : Int32 → Int32 → et_G → Option (Unit × et_G)) (x2 : Int32) (x3 : Int32) (x5 : Int32) (hr66 : ∀ (y1 : Int32) (y2 : Int32) (g : et_G), et_Z X w 0 et_eU 66 [some (.ref (et_ad w 48)), some (.int y1), some (.int y2), none, none, none] [] g (r66 y1 y2 g)) (hr81 : ∀ (y1 : Int32) (y3 : Int32) (g : et_G), et_Z X w 0 et_eU 81 [some (.ref (et_ad w 48)), some (.int y1), some (.int x2), some (.int y3), none, none] [] g (r81 y1 y3 g)) (g : et_G) : et_Z X w 0 et_eU 162 [some (.ref (et_ad w 48)), none, some (.int x2), some (.int x3), none, some (.int x5)] [] g (fn_Gr_openEyes_162 r66 r81 x2 x3 x5 g) := by
  unfold fn_Gr_openEyes_162
  refine zi_iconst (pc := 162) hX dX0_openEyes_162 ki_1 ?_
  refine zi_goto (pc := 163) 167 hX dX0_openEyes_163 (by decide) ?_
  exact zp_Gr_openEyes_167 hX r66 r81 x2 x3 x5 (1 : Int32) hr66 hr81 g
theorem zp_Gr_openEyes_140 {X : et_X} {w : et_W} (hX : et_Gd X w cX0_openEyes RX0 6 (none) [] rm_Gr_openEyes) (r66 : Int32 → Int32 → et_G → Option (Unit × et_G)) (r81 : Int32 → Int32 → et_G → Option (Unit × et_G)) (x1 : Int32) (x2 : Int32) (x3 : Int32) (x4 : Int32) (s0 : Int32) (hr66 : ∀ (y1 : Int32) (y2 : Int32) (g : et_G), et_Z X w 0 et_eU 66 [some (.ref (et_ad w 48)), some (.int y1), some (.int y2), none, none, none] [] g (r66 y1 y2 g)) (hr81 : ∀ (y1 : Int32) (y3 : Int32) (g : et_G), et_Z X w 0 et_eU 81 [some (.ref (et_ad w 48)), some (.int y1), some (.int x2), some (.int y3), none, none] [] g (r81 y1 y3 g)) (g : et_G) : et_Z X w 0 et_eU 140 [some (.ref (et_ad w 48)), some (.int x1), some (.int x2), some (.int x3), some (.int x4), none] [.int s0] g (fn_Gr_openEyes_140 r66 r81 x1 x2 x3 x4 s0 g) := by
  unfold fn_Gr_openEyes_140
  refine zi_istore5 (pc := 140) hX dX0_openEyes_140 rfl rfl ?_
  refine zi_iload1 (pc := 142) hX dX0_openEyes_142 ?_
  refine zi_if_ne (pc := 143) 162 hX dX0_openEyes_143 (by decide) (fun _ => ?_) (fun _ => ?_)
  · refine zi_iload4 (pc := 146) hX dX0_openEyes_146 ?_
    refine zi_if_ne (pc := 148) 162 hX dX0_openEyes_148 (by decide) (fun _ => ?_) (fun _ => ?_)
    · refine zi_iload5 (pc := 151) hX dX0_openEyes_151 ?_
      refine zi_aload0 (pc := 153) hX dX0_openEyes_153 ?_
      refine zi_getr (q := 57) (pc := 154) hX dX0_openEyes_154 fl_426 ly_48 rfl ?_
      refine zi_iload3 (pc := 157) hX dX0_openEyes_157 ?_
      refine zi_iald (pc := 158) hX dX0_openEyes_158 ly_57 ?_
      refine zi_icmp_eq (pc := 159) 166 hX dX0_openEyes_159 (by decide) (fun _ => ?_) (fun _ => ?_)
      · refine zi_iconst (pc := 166) hX dX0_openEyes_166 ki_0 ?_
        refine zi_drop (le_s (le_n (le_s (le_s (le_n (le_s le_nil)))))) ?_; exact zp_Gr_openEyes_167 hX r66 r81 x2 x3 s0 (0 : Int32) hr66 hr81 g
      · refine zi_drop (le_s (le_n (le_s (le_s (le_n (le_s le_nil)))))) ?_; exact zp_Gr_openEyes_162 hX r66 r81 x2 x3 s0 hr66 hr81 g
    · refine zi_drop (le_s (le_n (le_s (le_s (le_n (le_s le_nil)))))) ?_; exact zp_Gr_openEyes_162 hX r66 r81 x2 x3 s0 hr66 hr81 g
  · refine zi_drop (le_s (le_n (le_s (le_s (le_n (le_s le_nil)))))) ?_; exact zp_Gr_openEyes_162 hX r66 r81 x2 x3 s0 hr66 hr81 g
theorem zp_Gr_openEyes_118 {X : et_X} {w : et_W} (hX : et_Gd X w cX0_openEyes RX0 6 (none) [] rm_Gr_openEyes) (r66 : Int32 → Int32 → et_G → Option (Unit × et_G)) (r81 : Int32 → Int32 → et_G → Option (Unit × et_G)) (x1 : Int32) (x2 : Int32) (x3 : Int32) (s0 : Int32) (hr66 : ∀ (y1 : Int32) (y2 : Int32) (g : et_G), et_Z X w 0 et_eU 66 [some (.ref (et_ad w 48)), some (.int y1), some (.int y2), none, none, none] [] g (r66 y1 y2 g)) (hr81 : ∀ (y1 : Int32) (y3 : Int32) (g : et_G), et_Z X w 0 et_eU 81 [some (.ref (et_ad w 48)), some (.int y1), some (.int x2), some (.int y3), none, none] [] g (r81 y1 y3 g)) (g : et_G) : et_Z X w 0 et_eU 118 [some (.ref (et_ad w 48)), some (.int x1), some (.int x2), some (.int x3), none, none] [.int s0] g (fn_Gr_openEyes_118 r66 r81 x1 x2 x3 s0 g) := by
  unfold fn_Gr_openEyes_118
  refine zi_istore4 (pc := 118) hX dX0_openEyes_118 rfl rfl ?_
  refine zi_aload0 (pc := 120) hX dX0_openEyes_120 ?_
  refine zi_geti (pc := 121) hX dX0_openEyes_121 fl_430 ly_48 rfl ?_
  refine zi_iload3 (pc := 124) hX dX0_openEyes_124 ?_
  refine zi_callI (zc_nest (pc := 125) hX dX0_openEyes_125 nl_634 md_X9_hasBit st_X9_hasBit (ct_Et_hasBit hX.sane (g.1 48 13) x3 g) rfl rfl rfl) (fun v8 g9 => ?_)
  refine zi_if_eq (pc := 128) 139 hX dX0_openEyes_128 (by decide) (fun _ => ?_) (fun _ => ?_)
  · refine zi_iconst (pc := 139) hX dX0_openEyes_139 ki_0 ?_
    exact zp_Gr_openEyes_140 hX r66 r81 x1 x2 x3 s0 (0 : Int32) hr66 hr81 g9
  · refine zi_aload0 (pc := 131) hX dX0_openEyes_131 ?_
    refine zi_iload3 (pc := 132) hX dX0_openEyes_132 ?_
    refine zi_callI (zc_virt (pc := 133) hX dX0_openEyes_133 tm_1208 md_X0_eyesNow mi_X0_eyesNow ly_48 (ct_Gr_eyesNow hX.sane x3 g9) rfl rfl rfl) (fun v12 g13 => ?_)
    refine zi_goto (pc := 136) 140 hX dX0_openEyes_136 (by decide) ?_
    exact zp_Gr_openEyes_140 hX r66 r81 x1 x2 x3 s0 v12 hr66 hr81 g13
theorem zp_Gr_openEyes_117 {X : et_X} {w : et_W} (hX : et_Gd X w cX0_openEyes RX0 6 (none) [] rm_Gr_openEyes) (r66 : Int32 → Int32 → et_G → Option (Unit × et_G)) (r81 : Int32 → Int32 → et_G → Option (Unit × et_G)) (x1 : Int32) (x2 : Int32) (x3 : Int32) (hr66 : ∀ (y1 : Int32) (y2 : Int32) (g : et_G), et_Z X w 0 et_eU 66 [some (.ref (et_ad w 48)), some (.int y1), some (.int y2), none, none, none] [] g (r66 y1 y2 g)) (hr81 : ∀ (y1 : Int32) (y3 : Int32) (g : et_G), et_Z X w 0 et_eU 81 [some (.ref (et_ad w 48)), some (.int y1), some (.int x2), some (.int y3), none, none] [] g (r81 y1 y3 g)) (g : et_G) : et_Z X w 0 et_eU 117 [some (.ref (et_ad w 48)), some (.int x1), some (.int x2), some (.int x3), none, none] [] g (fn_Gr_openEyes_117 r66 r81 x1 x2 x3 g) := by
  unfold fn_Gr_openEyes_117
  refine zi_iconst (pc := 117) hX dX0_openEyes_117 ki_0 ?_
  exact zp_Gr_openEyes_118 hX r66 r81 x1 x2 x3 (0 : Int32) hr66 hr81 g
theorem zp_Gr_openEyes_81 {X : et_X} {w : et_W} (hX : et_Gd X w cX0_openEyes RX0 6 (none) [] rm_Gr_openEyes) (r66 : Int32 → Int32 → et_G → Option (Unit × et_G)) (x2 : Int32) (hr66 : ∀ (y1 : Int32) (y2 : Int32) (g : et_G), et_Z X w 0 et_eU 66 [some (.ref (et_ad w 48)), some (.int y1), some (.int y2), none, none, none] [] g (r66 y1 y2 g)) : ∀ (n : Nat) (x1 : Int32) (x3 : Int32) (g : et_G), et_Z X w 0 et_eU 81 [some (.ref (et_ad w 48)), some (.int x1), some (.int x2), some (.int x3), none, none] [] g (fn_Gr_openEyes_81 r66 x2 n x1 x3 g) := by
  intro n
  induction n with
  | zero =>
    intro x1 x3 g a g2 h
    cases h
  | succ n ih =>
    intro x1 x3 g
    rw [fn_Gr_openEyes_81]
    refine zi_iload3 (pc := 81) hX dX0_openEyes_81 ?_
    refine zi_aload0 (pc := 82) hX dX0_openEyes_82 ?_
    refine zi_getr (q := 34) (pc := 83) hX dX0_openEyes_83 fl_416 ly_48 rfl ?_
    refine zi_geti (pc := 86) hX dX0_openEyes_86 fl_361 ly_34 rfl ?_
    refine zi_icmp_ge (pc := 89) 182 hX dX0_openEyes_89 (by decide) (fun _ => ?_) (fun _ => ?_)
    · refine zi_iincb2 (pc := 182) hX dX0_openEyes_182 (kn_1 _) rfl rfl (fun v7 => ?_)
      refine zi_goto (pc := 185) 66 hX dX0_openEyes_185 (by decide) ?_
      refine zi_drop (le_s (le_s (le_s (le_n (le_s (le_s le_nil)))))) ?_; exact hr66 x1 v7 g
    · refine zi_aload0 (pc := 92) hX dX0_openEyes_92 ?_
      refine zi_getr (q := 34) (pc := 93) hX dX0_openEyes_93 fl_416 ly_48 rfl ?_
      refine zi_getr (q := 38) (pc := 96) hX dX0_openEyes_96 fl_373 ly_34 rfl ?_
      refine zi_iload3 (pc := 99) hX dX0_openEyes_99 ?_
      refine zi_iald (pc := 100) hX dX0_openEyes_100 ly_38 ?_
      refine zi_iconst (pc := 101) hX dX0_openEyes_101 ki_3 ?_
      refine zi_icmp_ne (pc := 102) 117 hX dX0_openEyes_102 (by decide) (fun _ => ?_) (fun _ => ?_)
      · refine zi_aload0 (pc := 105) hX dX0_openEyes_105 ?_
        refine zi_iload3 (pc := 106) hX dX0_openEyes_106 ?_
        refine zi_callI (zc_virt (pc := 107) hX dX0_openEyes_107 tm_1191 md_X0_openThingEyes mi_X0_openThingEyes ly_48 (ct_Gr_openThingEyes hX.sane x3 g) rfl rfl rfl) (fun v14 g15 => ?_)
        refine zi_if_eq (pc := 110) 117 hX dX0_openEyes_110 (by decide) (fun _ => ?_) (fun _ => ?_)
        · exact zp_Gr_openEyes_117 hX r66 (fun z1 z3 g => fn_Gr_openEyes_81 r66 x2 n z1 z3 g) x1 x2 x3 hr66 (fun z1 z3 g => ih z1 z3 g) g15
        · refine zi_iconst (pc := 113) hX dX0_openEyes_113 ki_1 ?_
          refine zi_goto (pc := 114) 118 hX dX0_openEyes_114 (by decide) ?_
          exact zp_Gr_openEyes_118 hX r66 (fun z1 z3 g => fn_Gr_openEyes_81 r66 x2 n z1 z3 g) x1 x2 x3 (1 : Int32) hr66 (fun z1 z3 g => ih z1 z3 g) g15
      · exact zp_Gr_openEyes_117 hX r66 (fun z1 z3 g => fn_Gr_openEyes_81 r66 x2 n z1 z3 g) x1 x2 x3 hr66 (fun z1 z3 g => ih z1 z3 g) g
theorem zp_Gr_openEyes_66 {X : et_X} {w : et_W} (hX : et_Gd X w cX0_openEyes RX0 6 (none) [] rm_Gr_openEyes) : ∀ (n : Nat) (x1 : Int32) (x2 : Int32) (g : et_G), et_Z X w 0 et_eU 66 [some (.ref (et_ad w 48)), some (.int x1), some (.int x2), none, none, none] [] g (fn_Gr_openEyes_66 n x1 x2 g) := by
  intro n
  induction n with
  | zero =>
    intro x1 x2 g a g2 h
    cases h
  | succ n ih =>
    intro x1 x2 g
    rw [fn_Gr_openEyes_66]
    refine zi_iload1 (pc := 66) hX dX0_openEyes_66 ?_
    refine zi_if_eq (pc := 67) 188 hX dX0_openEyes_67 (by decide) (fun _ => ?_) (fun _ => ?_)
    · refine zi_aload0 (pc := 188) hX dX0_openEyes_188 ?_
      refine zi_iconst (pc := 189) hX dX0_openEyes_189 ki_1 ?_
      refine zi_puti (pc := 190) hX dX0_openEyes_190 fl_434 ly_48 rfl et_z1 et_f1 (zi_bg (fun g5 => ?_))
      exact zi_vret (pc := 193) hX dX0_openEyes_193 rfl rfl rfl
    · refine zi_iload2 (pc := 70) hX dX0_openEyes_70 ?_
      refine zi_sipush (pc := 71) hX dX0_openEyes_71 ks_1086 ?_
      refine zi_icmp_ge (pc := 74) 188 hX dX0_openEyes_74 (by decide) (fun _ => ?_) (fun _ => ?_)
      · refine zi_aload0 (pc := 188) hX dX0_openEyes_188 ?_
        refine zi_iconst (pc := 189) hX dX0_openEyes_189 ki_1 ?_
        refine zi_puti (pc := 190) hX dX0_openEyes_190 fl_434 ly_48 rfl et_z1 et_f1 (zi_bg (fun g6 => ?_))
        exact zi_vret (pc := 193) hX dX0_openEyes_193 rfl rfl rfl
      · refine zi_iconst (pc := 77) hX dX0_openEyes_77 ki_0 ?_
        refine zi_istore1 (pc := 78) hX dX0_openEyes_78 rfl rfl ?_
        refine zi_iconst (pc := 79) hX dX0_openEyes_79 ki_0 ?_
        refine zi_istore3 (pc := 80) hX dX0_openEyes_80 rfl rfl ?_
        exact zp_Gr_openEyes_81 hX (fun z1 z2 g => fn_Gr_openEyes_66 n z1 z2 g) x2 (fun z1 z2 g => ih z1 z2 g) 1000000 (0 : Int32) (0 : Int32) g
theorem zp_Gr_openEyes_18 {X : et_X} {w : et_W} (hX : et_Gd X w cX0_openEyes RX0 6 (none) [] rm_Gr_openEyes) : ∀ (n : Nat) (x1 : Int32) (g : et_G), et_Z X w 0 et_eU 18 [some (.ref (et_ad w 48)), some (.int x1), none, none, none, none] [] g (fn_Gr_openEyes_18 n x1 g) := by
  intro n
  induction n with
  | zero =>
    intro x1 g a g2 h
    cases h
  | succ n ih =>
    intro x1 g
    rw [fn_Gr_openEyes_18]
    refine zi_iload1 (pc := 18) hX dX0_openEyes_18 ?_
    refine zi_aload0 (pc := 19) hX dX0_openEyes_19 ?_
    refine zi_getr (q := 34) (pc := 20) hX dX0_openEyes_20 fl_416 ly_48 rfl ?_
    refine zi_geti (pc := 23) hX dX0_openEyes_23 fl_361 ly_34 rfl ?_
    refine zi_icmp_ge (pc := 26) 62 hX dX0_openEyes_26 (by decide) (fun _ => ?_) (fun _ => ?_)
    · refine zi_iconst (pc := 62) hX dX0_openEyes_62 ki_1 ?_
      refine zi_istore1 (pc := 63) hX dX0_openEyes_63 rfl rfl ?_
      refine zi_iconst (pc := 64) hX dX0_openEyes_64 ki_0 ?_
      refine zi_istore2 (pc := 65) hX dX0_openEyes_65 rfl rfl ?_
      exact zp_Gr_openEyes_66 hX 1000000 (1 : Int32) (0 : Int32) g
    · refine zi_aload0 (pc := 29) hX dX0_openEyes_29 ?_
      refine zi_getr (q := 54) (pc := 30) hX dX0_openEyes_30 fl_422 ly_48 rfl ?_
      refine zi_iload1 (pc := 33) hX dX0_openEyes_33 ?_
      refine zi_aload0 (pc := 34) hX dX0_openEyes_34 ?_
      refine zi_aload0 (pc := 35) hX dX0_openEyes_35 ?_
      refine zi_getr (q := 49) (pc := 36) hX dX0_openEyes_36 fl_417 ly_48 rfl ?_
      refine zi_iload1 (pc := 39) hX dX0_openEyes_39 ?_
      refine zi_iald (pc := 40) hX dX0_openEyes_40 ly_49 ?_
      refine zi_aload0 (pc := 41) hX dX0_openEyes_41 ?_
      refine zi_geti (pc := 42) hX dX0_openEyes_42 fl_432 ly_48 rfl ?_
      refine zi_iand (pc := 45) hX dX0_openEyes_45 ?_
      refine zi_aload0 (pc := 46) hX dX0_openEyes_46 ?_
      refine zi_getr (q := 50) (pc := 47) hX dX0_openEyes_47 fl_418 ly_48 rfl ?_
      refine zi_iload1 (pc := 50) hX dX0_openEyes_50 ?_
      refine zi_iald (pc := 51) hX dX0_openEyes_51 ly_50 ?_
      refine zi_callI (zc_virt (pc := 52) hX dX0_openEyes_52 tm_666 md_X0_widest mi_X0_widest ly_48 (ct_Gr_widest hX.sane ((g.1 49 x1.toNatClampNeg) &&& (g.1 48 14)) (g.1 50 x1.toNatClampNeg) g) rfl rfl rfl) (fun v16 g17 => ?_)
      refine zi_iast (pc := 55) hX dX0_openEyes_55 ly_54 (zi_bg (fun g18 => ?_))
      refine zi_iincb1 (pc := 56) hX dX0_openEyes_56 (kn_1 _) rfl rfl (fun v19 => ?_)
      refine zi_goto (pc := 59) 18 hX dX0_openEyes_59 (by decide) ?_
      exact ih v19 g18
theorem zw_Gr_openEyes {X : et_X} {w : et_W} (hX : et_Gd X w cX0_openEyes RX0 6 (none) [] rm_Gr_openEyes) (g : et_G) : et_Z X w 0 et_eU 0 [some (.ref (et_ad w 48)), none, none, none, none, none] [] g (fn_Gr_openEyes g) := by
  unfold fn_Gr_openEyes
  refine zi_aload0 (pc := 0) hX dX0_openEyes_0 ?_
  refine zi_getr (q := 57) (pc := 1) hX dX0_openEyes_1 fl_426 ly_48 rfl ?_
  refine zi_iconst (pc := 4) hX dX0_openEyes_4 ki_0 ?_
  refine zi_callU (zc_stat (pc := 5) hX dX0_openEyes_5 tm_578 md_J7_fill_53178 st_J7_fill_53178 (ct_Ja_fill_57 hX.sane (0 : Int32) g) rfl rfl rfl) (fun g2 => ?_)
  refine zi_aload0 (pc := 8) hX dX0_openEyes_8 ?_
  refine zi_getr (q := 58) (pc := 9) hX dX0_openEyes_9 fl_427 ly_48 rfl ?_
  refine zi_iconst (pc := 12) hX dX0_openEyes_12 ki_0 ?_
  refine zi_callU (zc_stat (pc := 13) hX dX0_openEyes_13 tm_578 md_J7_fill_53178 st_J7_fill_53178 (ct_Ja_fill_58 hX.sane (0 : Int32) g2) rfl rfl rfl) (fun g4 => ?_)
  refine zi_iconst (pc := 16) hX dX0_openEyes_16 ki_0 ?_
  refine zi_istore1 (pc := 17) hX dX0_openEyes_17 rfl rfl ?_
  exact zp_Gr_openEyes_18 hX 1000000 (0 : Int32) g4
theorem ct_Gr_openEyes {w : et_W} (hw : et_Sane w) (g : et_G) : et_C w yX0_openEyes (Cond.code yX0_openEyes cX0_openEyes 6 (none)) rm_Gr_openEyes et_eU [.ref (et_ad w 48)] g (fn_Gr_openEyes g) := et_mk hw (by decide) rfl rfl (fun X hX => zw_Gr_openEyes hX g)
def rm_Gr_eyesOf : Room := { frames := 6, cells := 0, slots := 0, locals := 143 }
def fn_Gr_eyesOf_15 (x1 : Int32) (g : et_G) : Option (Int32 × et_G) :=
  et_ck (et_ib x1 20) (
  some (g.1 57 x1.toNatClampNeg, g))
def fn_Gr_eyesOf (p1 : Int32) (g : et_G) : Option (Int32 × et_G) :=
  et_bd (fn_Gr_settle g) (fun _ g2 =>
  if (g2.1 48 16) = 0 then
    et_bd (fn_Gr_openEyes g2) (fun _ g4 =>
    fn_Gr_eyesOf_15 p1 g4)
  else
    fn_Gr_eyesOf_15 p1 g2)
theorem zp_Gr_eyesOf_15 {X : et_X} {w : et_W} (hX : et_Gd X w cX0_eyesOf RX0 2 (some .int) [] rm_Gr_eyesOf) (x1 : Int32) (g : et_G) : et_Z X w 0 et_eI 15 [some (.ref (et_ad w 48)), some (.int x1)] [] g (fn_Gr_eyesOf_15 x1 g) := by
  unfold fn_Gr_eyesOf_15
  refine zi_aload0 (pc := 15) hX dX0_eyesOf_15 ?_
  refine zi_getr (q := 57) (pc := 16) hX dX0_eyesOf_16 fl_426 ly_48 rfl ?_
  refine zi_iload1 (pc := 19) hX dX0_eyesOf_19 ?_
  refine zi_iald (pc := 20) hX dX0_eyesOf_20 ly_57 ?_
  exact zi_ret (pc := 21) hX dX0_eyesOf_21 rfl rfl rfl rfl
theorem zw_Gr_eyesOf {X : et_X} {w : et_W} (hX : et_Gd X w cX0_eyesOf RX0 2 (some .int) [] rm_Gr_eyesOf) (p1 : Int32) (g : et_G) : et_Z X w 0 et_eI 0 [some (.ref (et_ad w 48)), some (.int p1)] [] g (fn_Gr_eyesOf p1 g) := by
  unfold fn_Gr_eyesOf
  refine zi_aload0 (pc := 0) hX dX0_eyesOf_0 ?_
  refine zi_callU (zc_virt (pc := 1) hX dX0_eyesOf_1 tm_1176 md_X0_settle mi_X0_settle ly_48 (ct_Gr_settle hX.sane g) rfl rfl rfl) (fun g2 => ?_)
  refine zi_aload0 (pc := 4) hX dX0_eyesOf_4 ?_
  refine zi_geti (pc := 5) hX dX0_eyesOf_5 fl_434 ly_48 rfl ?_
  refine zi_if_ne (pc := 8) 15 hX dX0_eyesOf_8 (by decide) (fun _ => ?_) (fun _ => ?_)
  · refine zi_aload0 (pc := 11) hX dX0_eyesOf_11 ?_
    refine zi_callU (zc_virt (pc := 12) hX dX0_eyesOf_12 tm_1187 md_X0_openEyes mi_X0_openEyes ly_48 (ct_Gr_openEyes hX.sane g2) rfl rfl rfl) (fun g4 => ?_)
    exact zp_Gr_eyesOf_15 hX p1 g4
  · exact zp_Gr_eyesOf_15 hX p1 g2
theorem ct_Gr_eyesOf {w : et_W} (hw : et_Sane w) (p1 : Int32) (g : et_G) : et_C w yX0_eyesOf (Cond.code yX0_eyesOf cX0_eyesOf 2 (some .int)) rm_Gr_eyesOf et_eI [.ref (et_ad w 48), .int p1] g (fn_Gr_eyesOf p1 g) := et_mk hw (by decide) rfl rfl (fun X hX => zw_Gr_eyesOf hX p1 g)
def rm_Et_saying : Room := { frames := 7, cells := 1, slots := 6, locals := 164 }
def fn_Et_saying (p1 : Int32) (p2 : Int32) (g : et_G) : Option ((Nat ⊕ Int32) × et_G) :=
  if p1 < 0 then
    some (.inl 0, g)
  else
    if p1 < (g.1 34 0) then
      if p2 = 0 then
        et_ck (et_ib p1 20) (
        some (.inr (g.1 35 p1.toNatClampNeg), g))
      else
      if p2 = 1 then
        et_ck (et_ib p1 20) (
        some (.inr (g.1 36 p1.toNatClampNeg), g))
      else
      if p2 = 2 then
        et_ck (et_ib p1 20) (
        some (.inr (g.1 37 p1.toNatClampNeg), g))
      else
      if p2 = 3 then
        et_ck (et_ib p1 20) (
        some (.inr (g.1 38 p1.toNatClampNeg), g))
      else
      if p2 = 4 then
        et_ck (et_ib p1 20) (
        if (g.1 39 p1.toNatClampNeg) = 0 then
          some (.inr ((0 : Int32)), g)
        else
          some (.inr ((1 : Int32)), g))
      else
      if p2 = 5 then
        et_bd (fn_Gr_chainOf p1 g) (fun v1 g2 =>
        if v1 ≤ 0 then
          some (.inr ((0 : Int32)), g2)
        else
          some (.inr ((1 : Int32)), g2))
      else
      if p2 = 6 then
        et_bd (fn_Gr_chainOf p1 g) (fun v3 g4 =>
        some (.inr (v3), g4))
      else
      if p2 = 7 then
        et_bd (fn_Gr_eyesOf p1 g) (fun v5 g6 =>
        some (.inr (v5), g6))
      else
      some (.inl 0, g)
    else
      some (.inl 0, g)
theorem zw_Et_saying {X : et_X} {w : et_W} (hX : et_Gd X w cX9_saying RX9 3 (some .int) [] rm_Et_saying) (p1 : Int32) (p2 : Int32) (g : et_G) : et_Z X w 0 et_tI 0 [some (.ref (et_ad w 0)), some (.int p1), some (.int p2)] [] g (fn_Et_saying p1 p2 g) := by
  unfold fn_Et_saying
  refine zi_iload1 (pc := 0) hX dX9_saying_0 ?_
  refine zi_if_lt (pc := 1) 15 hX dX9_saying_1 (by decide) (fun _ => ?_) (fun _ => ?_)
  · exact zi_thr (pc := 15) hX dX9_saying_15 dX9_saying_18 dX9_saying_19 dX9_saying_22 th_0 rfl rfl rfl rfl rfl
  · refine zi_iload1 (pc := 4) hX dX9_saying_4 ?_
    refine zi_aload0 (pc := 5) hX dX9_saying_5 ?_
    refine zi_getr (q := 34) (pc := 6) hX dX9_saying_6 fl_498 ly_0 rfl ?_
    refine zi_geti (pc := 9) hX dX9_saying_9 fl_360 ly_34 rfl ?_
    refine zi_icmp_lt (pc := 12) 23 hX dX9_saying_12 (by decide) (fun _ => ?_) (fun _ => ?_)
    · refine zi_iload2 (pc := 23) hX dX9_saying_23 ?_
      refine zi_ite (fun h0 => ?_) (fun h0 => ?_)
      · refine zi_tabI (pc := 24) 72 hX dX9_saying_24 0 h0 (by decide) (by decide) rfl (by decide) ?_
        refine zi_aload0 (pc := 72) hX dX9_saying_72 ?_
        refine zi_getr (q := 34) (pc := 73) hX dX9_saying_73 fl_498 ly_0 rfl ?_
        refine zi_getr (q := 35) (pc := 76) hX dX9_saying_76 fl_364 ly_34 rfl ?_
        refine zi_iload1 (pc := 79) hX dX9_saying_79 ?_
        refine zi_iald (pc := 80) hX dX9_saying_80 ly_35 ?_
        exact zi_ret (pc := 81) hX dX9_saying_81 rfl rfl rfl rfl
      refine zi_ite (fun h1 => ?_) (fun h1 => ?_)
      · refine zi_tabI (pc := 24) 82 hX dX9_saying_24 1 h1 (by decide) (by decide) rfl (by decide) ?_
        refine zi_aload0 (pc := 82) hX dX9_saying_82 ?_
        refine zi_getr (q := 34) (pc := 83) hX dX9_saying_83 fl_498 ly_0 rfl ?_
        refine zi_getr (q := 36) (pc := 86) hX dX9_saying_86 fl_367 ly_34 rfl ?_
        refine zi_iload1 (pc := 89) hX dX9_saying_89 ?_
        refine zi_iald (pc := 90) hX dX9_saying_90 ly_36 ?_
        exact zi_ret (pc := 91) hX dX9_saying_91 rfl rfl rfl rfl
      refine zi_ite (fun h2 => ?_) (fun h2 => ?_)
      · refine zi_tabI (pc := 24) 92 hX dX9_saying_24 2 h2 (by decide) (by decide) rfl (by decide) ?_
        refine zi_aload0 (pc := 92) hX dX9_saying_92 ?_
        refine zi_getr (q := 34) (pc := 93) hX dX9_saying_93 fl_498 ly_0 rfl ?_
        refine zi_getr (q := 37) (pc := 96) hX dX9_saying_96 fl_370 ly_34 rfl ?_
        refine zi_iload1 (pc := 99) hX dX9_saying_99 ?_
        refine zi_iald (pc := 100) hX dX9_saying_100 ly_37 ?_
        exact zi_ret (pc := 101) hX dX9_saying_101 rfl rfl rfl rfl
      refine zi_ite (fun h3 => ?_) (fun h3 => ?_)
      · refine zi_tabI (pc := 24) 102 hX dX9_saying_24 3 h3 (by decide) (by decide) rfl (by decide) ?_
        refine zi_aload0 (pc := 102) hX dX9_saying_102 ?_
        refine zi_getr (q := 34) (pc := 103) hX dX9_saying_103 fl_498 ly_0 rfl ?_
        refine zi_getr (q := 38) (pc := 106) hX dX9_saying_106 fl_374 ly_34 rfl ?_
        refine zi_iload1 (pc := 109) hX dX9_saying_109 ?_
        refine zi_iald (pc := 110) hX dX9_saying_110 ly_38 ?_
        exact zi_ret (pc := 111) hX dX9_saying_111 rfl rfl rfl rfl
      refine zi_ite (fun h4 => ?_) (fun h4 => ?_)
      · refine zi_tabI (pc := 24) 112 hX dX9_saying_24 4 h4 (by decide) (by decide) rfl (by decide) ?_
        refine zi_aload0 (pc := 112) hX dX9_saying_112 ?_
        refine zi_getr (q := 34) (pc := 113) hX dX9_saying_113 fl_498 ly_0 rfl ?_
        refine zi_getr (q := 39) (pc := 116) hX dX9_saying_116 fl_377 ly_34 rfl ?_
        refine zi_iload1 (pc := 119) hX dX9_saying_119 ?_
        refine zi_zald (pc := 120) hX dX9_saying_120 ly_39 ?_
        refine zi_if_eq (pc := 121) 128 hX dX9_saying_121 (by decide) (fun _ => ?_) (fun _ => ?_)
        · refine zi_iconst (pc := 128) hX dX9_saying_128 ki_0 ?_
          exact zi_ret (pc := 129) hX dX9_saying_129 rfl rfl rfl rfl
        · refine zi_iconst (pc := 124) hX dX9_saying_124 ki_1 ?_
          refine zi_goto (pc := 125) 129 hX dX9_saying_125 (by decide) ?_
          exact zi_ret (pc := 129) hX dX9_saying_129 rfl rfl rfl rfl
      refine zi_ite (fun h5 => ?_) (fun h5 => ?_)
      · refine zi_tabI (pc := 24) 130 hX dX9_saying_24 5 h5 (by decide) (by decide) rfl (by decide) ?_
        refine zi_aload0 (pc := 130) hX dX9_saying_130 ?_
        refine zi_getr (q := 48) (pc := 131) hX dX9_saying_131 fl_503 ly_0 rfl ?_
        refine zi_iload1 (pc := 134) hX dX9_saying_134 ?_
        refine zi_callI (zc_virt (pc := 135) hX dX9_saying_135 tm_1172 md_X0_chainOf mi_X0_chainOf ly_48 (ct_Gr_chainOf hX.sane p1 g) rfl rfl rfl) (fun v1 g2 => ?_)
        refine zi_if_le (pc := 138) 145 hX dX9_saying_138 (by decide) (fun _ => ?_) (fun _ => ?_)
        · refine zi_iconst (pc := 145) hX dX9_saying_145 ki_0 ?_
          exact zi_ret (pc := 146) hX dX9_saying_146 rfl rfl rfl rfl
        · refine zi_iconst (pc := 141) hX dX9_saying_141 ki_1 ?_
          refine zi_goto (pc := 142) 146 hX dX9_saying_142 (by decide) ?_
          exact zi_ret (pc := 146) hX dX9_saying_146 rfl rfl rfl rfl
      refine zi_ite (fun h6 => ?_) (fun h6 => ?_)
      · refine zi_tabI (pc := 24) 147 hX dX9_saying_24 6 h6 (by decide) (by decide) rfl (by decide) ?_
        refine zi_aload0 (pc := 147) hX dX9_saying_147 ?_
        refine zi_getr (q := 48) (pc := 148) hX dX9_saying_148 fl_503 ly_0 rfl ?_
        refine zi_iload1 (pc := 151) hX dX9_saying_151 ?_
        refine zi_callI (zc_virt (pc := 152) hX dX9_saying_152 tm_1172 md_X0_chainOf mi_X0_chainOf ly_48 (ct_Gr_chainOf hX.sane p1 g) rfl rfl rfl) (fun v3 g4 => ?_)
        exact zi_ret (pc := 155) hX dX9_saying_155 rfl rfl rfl rfl
      refine zi_ite (fun h7 => ?_) (fun h7 => ?_)
      · refine zi_tabI (pc := 24) 156 hX dX9_saying_24 7 h7 (by decide) (by decide) rfl (by decide) ?_
        refine zi_aload0 (pc := 156) hX dX9_saying_156 ?_
        refine zi_getr (q := 48) (pc := 157) hX dX9_saying_157 fl_503 ly_0 rfl ?_
        refine zi_iload1 (pc := 160) hX dX9_saying_160 ?_
        refine zi_callI (zc_virt (pc := 161) hX dX9_saying_161 tm_1183 md_X0_eyesOf mi_X0_eyesOf ly_48 (ct_Gr_eyesOf hX.sane p1 g) rfl rfl rfl) (fun v5 g6 => ?_)
        exact zi_ret (pc := 164) hX dX9_saying_164 rfl rfl rfl rfl
      refine zi_tabO (pc := 24) 165 hX dX9_saying_24 (et_out0_7 h0 h1 h2 h3 h4 h5 h6 h7) (by decide) ?_
      exact zi_thr (pc := 165) hX dX9_saying_165 dX9_saying_168 dX9_saying_169 dX9_saying_172 th_0 rfl rfl rfl rfl rfl
    · exact zi_thr (pc := 15) hX dX9_saying_15 dX9_saying_18 dX9_saying_19 dX9_saying_22 th_0 rfl rfl rfl rfl rfl
theorem ct_Et_saying {w : et_W} (hw : et_Sane w) (p1 : Int32) (p2 : Int32) (g : et_G) : et_C w yX9_saying (Cond.code yX9_saying cX9_saying 3 (some .int)) rm_Et_saying et_tI [.ref (et_ad w 0), .int p1, .int p2] g (fn_Et_saying p1 p2 g) := et_mk hw (by decide) rfl rfl (fun X hX => zw_Et_saying hX p1 p2 g)
def rm_Gr_isTold : Room := { frames := 5, cells := 0, slots := 0, locals := 123 }
def fn_Gr_isTold_47 (x1 : Int32) (x3 : Int32) (g : et_G) : Option (Int32 × et_G) :=
  et_bd (fn_Gr_rise (0 : Int32) x3 g) (fun _ g2 =>
  if ((g2.1 48 14) &&& x1) = 0 then
    some ((0 : Int32), g2)
  else
    some ((1 : Int32), g2))
def fn_Gr_isTold_5 (x1 : Int32) (x2 : Int32) : Nat → Int32 → Int32 → et_G → Option (Int32 × et_G)
  | 0, _, _, _ => none
  | n + 1, x3, x4, g =>
    if (g.1 34 0) ≤ x4 then
      fn_Gr_isTold_47 x1 x3 g
    else
      et_ck (et_ib x4 20) (
      et_bd (fn_Et_hasBit x2 (g.1 35 x4.toNatClampNeg) g) (fun v3 g4 =>
      if v3 = 0 then
        et_b (x3 ||| ((1 : Int32) <<< (x4 &&& 31))) (fun v6 =>
        et_b (x4 + (1 : Int32)) (fun v7 =>
        fn_Gr_isTold_5 x1 x2 n v6 v7 g4))
      else
        et_b (x4 + (1 : Int32)) (fun v5 =>
        fn_Gr_isTold_5 x1 x2 n x3 v5 g4)))
def fn_Gr_isTold (p1 : Int32) (p2 : Int32) (g : et_G) : Option (Int32 × et_G) :=
  fn_Gr_isTold_5 p1 p2 1000000 (0 : Int32) (0 : Int32) g
theorem zp_Gr_isTold_47 {X : et_X} {w : et_W} (hX : et_Gd X w cX0_isTold RX0 5 (some .boolean) [] rm_Gr_isTold) (x1 : Int32) (x3 : Int32) (g : et_G) : et_Z X w 0 et_eI 47 [some (.ref (et_ad w 48)), some (.int x1), none, some (.int x3), none] [] g (fn_Gr_isTold_47 x1 x3 g) := by
  unfold fn_Gr_isTold_47
  refine zi_aload0 (pc := 47) hX dX0_isTold_47 ?_
  refine zi_iconst (pc := 48) hX dX0_isTold_48 ki_0 ?_
  refine zi_iload3 (pc := 49) hX dX0_isTold_49 ?_
  refine zi_callU (zc_virt (pc := 50) hX dX0_isTold_50 tm_1182 md_X0_rise mi_X0_rise ly_48 (ct_Gr_rise hX.sane (0 : Int32) x3 g) rfl rfl rfl) (fun g2 => ?_)
  refine zi_aload0 (pc := 53) hX dX0_isTold_53 ?_
  refine zi_geti (pc := 54) hX dX0_isTold_54 fl_432 ly_48 rfl ?_
  refine zi_iload1 (pc := 57) hX dX0_isTold_57 ?_
  refine zi_iand (pc := 58) hX dX0_isTold_58 ?_
  refine zi_if_eq (pc := 59) 66 hX dX0_isTold_59 (by decide) (fun _ => ?_) (fun _ => ?_)
  · refine zi_iconst (pc := 66) hX dX0_isTold_66 ki_0 ?_
    exact zi_ret (pc := 67) hX dX0_isTold_67 et_z0 rfl rfl rfl
  · refine zi_iconst (pc := 62) hX dX0_isTold_62 ki_1 ?_
    refine zi_goto (pc := 63) 67 hX dX0_isTold_63 (by decide) ?_
    exact zi_ret (pc := 67) hX dX0_isTold_67 et_z1 rfl rfl rfl
theorem zp_Gr_isTold_5 {X : et_X} {w : et_W} (hX : et_Gd X w cX0_isTold RX0 5 (some .boolean) [] rm_Gr_isTold) (x1 : Int32) (x2 : Int32) : ∀ (n : Nat) (x3 : Int32) (x4 : Int32) (g : et_G), et_Z X w 0 et_eI 5 [some (.ref (et_ad w 48)), some (.int x1), some (.int x2), some (.int x3), some (.int x4)] [] g (fn_Gr_isTold_5 x1 x2 n x3 x4 g) := by
  intro n
  induction n with
  | zero =>
    intro x3 x4 g a g2 h
    cases h
  | succ n ih =>
    intro x3 x4 g
    rw [fn_Gr_isTold_5]
    refine zi_iload4 (pc := 5) hX dX0_isTold_5 ?_
    refine zi_aload0 (pc := 7) hX dX0_isTold_7 ?_
    refine zi_getr (q := 34) (pc := 8) hX dX0_isTold_8 fl_416 ly_48 rfl ?_
    refine zi_geti (pc := 11) hX dX0_isTold_11 fl_361 ly_34 rfl ?_
    refine zi_icmp_ge (pc := 14) 47 hX dX0_isTold_14 (by decide) (fun _ => ?_) (fun _ => ?_)
    · refine zi_drop (le_s (le_s (le_n (le_s (le_n le_nil))))) ?_; exact zp_Gr_isTold_47 hX x1 x3 g
    · refine zi_iload2 (pc := 17) hX dX0_isTold_17 ?_
      refine zi_aload0 (pc := 18) hX dX0_isTold_18 ?_
      refine zi_getr (q := 34) (pc := 19) hX dX0_isTold_19 fl_416 ly_48 rfl ?_
      refine zi_getr (q := 35) (pc := 22) hX dX0_isTold_22 fl_363 ly_34 rfl ?_
      refine zi_iload4 (pc := 25) hX dX0_isTold_25 ?_
      refine zi_iald (pc := 27) hX dX0_isTold_27 ly_35 ?_
      refine zi_callI (zc_nest (pc := 28) hX dX0_isTold_28 nl_634 md_X9_hasBit st_X9_hasBit (ct_Et_hasBit hX.sane x2 (g.1 35 x4.toNatClampNeg) g) rfl rfl rfl) (fun v3 g4 => ?_)
      refine zi_if_ne (pc := 31) 41 hX dX0_isTold_31 (by decide) (fun _ => ?_) (fun _ => ?_)
      · refine zi_iload3 (pc := 34) hX dX0_isTold_34 ?_
        refine zi_iconst (pc := 35) hX dX0_isTold_35 ki_1 ?_
        refine zi_iload4 (pc := 36) hX dX0_isTold_36 ?_
        refine zi_ishl (pc := 38) hX dX0_isTold_38 ?_
        refine zi_ior (pc := 39) hX dX0_isTold_39 ?_
        refine zi_bi (fun v6 => ?_)
        refine zi_istore3 (pc := 40) hX dX0_isTold_40 rfl rfl ?_
        refine zi_iincb4 (pc := 41) hX dX0_isTold_41 (kn_1 _) rfl rfl (fun v7 => ?_)
        refine zi_goto (pc := 44) 5 hX dX0_isTold_44 (by decide) ?_
        exact ih v6 v7 g4
      · refine zi_iincb4 (pc := 41) hX dX0_isTold_41 (kn_1 _) rfl rfl (fun v5 => ?_)
        refine zi_goto (pc := 44) 5 hX dX0_isTold_44 (by decide) ?_
        exact ih x3 v5 g4
theorem zw_Gr_isTold {X : et_X} {w : et_W} (hX : et_Gd X w cX0_isTold RX0 5 (some .boolean) [] rm_Gr_isTold) (p1 : Int32) (p2 : Int32) (g : et_G) : et_Z X w 0 et_eI 0 [some (.ref (et_ad w 48)), some (.int p1), some (.int p2), none, none] [] g (fn_Gr_isTold p1 p2 g) := by
  unfold fn_Gr_isTold
  refine zi_iconst (pc := 0) hX dX0_isTold_0 ki_0 ?_
  refine zi_istore3 (pc := 1) hX dX0_isTold_1 rfl rfl ?_
  refine zi_iconst (pc := 2) hX dX0_isTold_2 ki_0 ?_
  refine zi_istore4 (pc := 3) hX dX0_isTold_3 rfl rfl ?_
  exact zp_Gr_isTold_5 hX p1 p2 1000000 (0 : Int32) (0 : Int32) g
theorem ct_Gr_isTold {w : et_W} (hw : et_Sane w) (p1 : Int32) (p2 : Int32) (g : et_G) : et_C w yX0_isTold (Cond.code yX0_isTold cX0_isTold 5 (some .boolean)) rm_Gr_isTold et_eI [.ref (et_ad w 48), .int p1, .int p2] g (fn_Gr_isTold p1 p2 g) := et_mk hw (by decide) rfl rfl (fun X hX => zw_Gr_isTold hX p1 p2 g)
def rm_Gr_fewestSilent : Room := { frames := 6, cells := 0, slots := 0, locals := 147 }
def fn_Gr_fewestSilent_101 (r56 : Int32 → et_G → Option (Int32 × et_G)) (r69 : Int32 → Int32 → et_G → Option (Int32 × et_G)) (x3 : Int32) (x4 : Int32) (x5 : Int32) (x6 : Int32) (x7 : Int32) (x8 : Int32) (g : et_G) : Option (Int32 × et_G) :=
  et_b ((x7 - x4) &&& x4) (fun v16 =>
  et_b (x8 + (1 : Int32)) (fun v17 =>
  r69 v16 v17 g))
def fn_Gr_fewestSilent_69 (r56 : Int32 → et_G → Option (Int32 × et_G)) (x3 : Int32) (x4 : Int32) (x5 : Int32) (x6 : Int32) : Nat → Int32 → Int32 → et_G → Option (Int32 × et_G)
  | 0, _, _, _ => none
  | n + 1, x7, x8, g =>
    if ((1 : Int32) <<< (x5 &&& 31)) ≤ x8 then
      et_b (x6 + (1 : Int32)) (fun v13 =>
      r56 v13 g)
    else
      et_bd (fn_Ji_bitCount x7 g) (fun v14 g15 =>
      if v14 = x6 then
        et_bd (fn_Gr_isTold x3 x7 g15) (fun v18 g19 =>
        if v18 = 0 then
          some (x7, g19)
        else
          fn_Gr_fewestSilent_101 r56 (fun z7 z8 g => fn_Gr_fewestSilent_69 r56 x3 x4 x5 x6 n z7 z8 g) x3 x4 x5 x6 x7 x8 g19)
      else
        fn_Gr_fewestSilent_101 r56 (fun z7 z8 g => fn_Gr_fewestSilent_69 r56 x3 x4 x5 x6 n z7 z8 g) x3 x4 x5 x6 x7 x8 g15)
def fn_Gr_fewestSilent_56 (x3 : Int32) (x4 : Int32) (x5 : Int32) : Nat → Int32 → et_G → Option (Int32 × et_G)
  | 0, _, _ => none
  | n + 1, x6, g =>
    if x5 ≤ x6 then
      some (x4, g)
    else
      fn_Gr_fewestSilent_69 (fun z6 g => fn_Gr_fewestSilent_56 x3 x4 x5 n z6 g) x3 x4 x5 x6 1000000 (0 : Int32) (0 : Int32) g
def fn_Gr_fewestSilent (p1 : Int32) (p2 : Int32) (g : et_G) : Option (Int32 × et_G) :=
  et_bd (fn_Gr_lay g) (fun _ g2 =>
  et_bd (fn_Gr_forget g2) (fun _ g4 =>
  et_bd (fn_Gr_heardBy p1 (23 : Int32) g4) (fun v5 g6 =>
  et_bd (fn_Gr_aboutRow p2 (0 : Int32) g6) (fun v7 g8 =>
  et_ck (et_ib v7 16) (
  et_b (v5 &&& (g8.1 52 v7.toNatClampNeg)) (fun v9 =>
  et_b ((((1 : Int32) <<< ((g8.1 2 3) &&& 31)) - (1 : Int32)) &&& (((1 : Int32) <<< (p1 &&& 31)) ^^^ (-1 : Int32))) (fun v10 =>
  et_bd (fn_Ji_bitCount v10 g8) (fun v11 g12 =>
  fn_Gr_fewestSilent_56 v9 v10 v11 1000000 (0 : Int32) g12))))))))
theorem zp_Gr_fewestSilent_101 {X : et_X} {w : et_W} (hX : et_Gd X w cX0_fewestSilent RX0 9 (some .int) [] rm_Gr_fewestSilent) (r56 : Int32 → et_G → Option (Int32 × et_G)) (r69 : Int32 → Int32 → et_G → Option (Int32 × et_G)) (x3 : Int32) (x4 : Int32) (x5 : Int32) (x6 : Int32) (x7 : Int32) (x8 : Int32) (hr56 : ∀ (y6 : Int32) (g : et_G), et_Z X w 0 et_eI 56 [some (.ref (et_ad w 48)), none, none, some (.int x3), some (.int x4), some (.int x5), some (.int y6), none, none] [] g (r56 y6 g)) (hr69 : ∀ (y7 : Int32) (y8 : Int32) (g : et_G), et_Z X w 0 et_eI 69 [some (.ref (et_ad w 48)), none, none, some (.int x3), some (.int x4), some (.int x5), some (.int x6), some (.int y7), some (.int y8)] [] g (r69 y7 y8 g)) (g : et_G) : et_Z X w 0 et_eI 101 [some (.ref (et_ad w 48)), none, none, some (.int x3), some (.int x4), some (.int x5), some (.int x6), some (.int x7), some (.int x8)] [] g (fn_Gr_fewestSilent_101 r56 r69 x3 x4 x5 x6 x7 x8 g) := by
  unfold fn_Gr_fewestSilent_101
  refine zi_iload7 (pc := 101) hX dX0_fewestSilent_101 ?_
  refine zi_iload4 (pc := 103) hX dX0_fewestSilent_103 ?_
  refine zi_isub (pc := 105) hX dX0_fewestSilent_105 ?_
  refine zi_iload4 (pc := 106) hX dX0_fewestSilent_106 ?_
  refine zi_iand (pc := 108) hX dX0_fewestSilent_108 ?_
  refine zi_bi (fun v16 => ?_)
  refine zi_istore7 (pc := 109) hX dX0_fewestSilent_109 rfl rfl ?_
  refine zi_iincb8 (pc := 111) hX dX0_fewestSilent_111 (kn_1 _) rfl rfl (fun v17 => ?_)
  refine zi_goto (pc := 114) 69 hX dX0_fewestSilent_114 (by decide) ?_
  exact hr69 v16 v17 g
theorem zp_Gr_fewestSilent_69 {X : et_X} {w : et_W} (hX : et_Gd X w cX0_fewestSilent RX0 9 (some .int) [] rm_Gr_fewestSilent) (r56 : Int32 → et_G → Option (Int32 × et_G)) (x3 : Int32) (x4 : Int32) (x5 : Int32) (x6 : Int32) (hr56 : ∀ (y6 : Int32) (g : et_G), et_Z X w 0 et_eI 56 [some (.ref (et_ad w 48)), none, none, some (.int x3), some (.int x4), some (.int x5), some (.int y6), none, none] [] g (r56 y6 g)) : ∀ (n : Nat) (x7 : Int32) (x8 : Int32) (g : et_G), et_Z X w 0 et_eI 69 [some (.ref (et_ad w 48)), none, none, some (.int x3), some (.int x4), some (.int x5), some (.int x6), some (.int x7), some (.int x8)] [] g (fn_Gr_fewestSilent_69 r56 x3 x4 x5 x6 n x7 x8 g) := by
  intro n
  induction n with
  | zero =>
    intro x7 x8 g a g2 h
    cases h
  | succ n ih =>
    intro x7 x8 g
    rw [fn_Gr_fewestSilent_69]
    refine zi_iload8 (pc := 69) hX dX0_fewestSilent_69 ?_
    refine zi_iconst (pc := 71) hX dX0_fewestSilent_71 ki_1 ?_
    refine zi_iload5 (pc := 72) hX dX0_fewestSilent_72 ?_
    refine zi_ishl (pc := 74) hX dX0_fewestSilent_74 ?_
    refine zi_icmp_ge (pc := 75) 117 hX dX0_fewestSilent_75 (by decide) (fun _ => ?_) (fun _ => ?_)
    · refine zi_iincb6 (pc := 117) hX dX0_fewestSilent_117 (kn_1 _) rfl rfl (fun v13 => ?_)
      refine zi_goto (pc := 120) 56 hX dX0_fewestSilent_120 (by decide) ?_
      refine zi_drop (le_s (le_s (le_s (le_s (le_s (le_s (le_s (le_n (le_n le_nil))))))))) ?_; exact hr56 v13 g
    · refine zi_iload7 (pc := 78) hX dX0_fewestSilent_78 ?_
      refine zi_callI (zc_stat (pc := 80) hX dX0_fewestSilent_80 tm_1258 md_J6_bitCount_0f7a4 st_J6_bitCount_0f7a4 (ct_Ji_bitCount hX.sane x7 g) rfl rfl rfl) (fun v14 g15 => ?_)
      refine zi_iload6 (pc := 83) hX dX0_fewestSilent_83 ?_
      refine zi_icmp_ne (pc := 85) 101 hX dX0_fewestSilent_85 (by decide) (fun _ => ?_) (fun _ => ?_)
      · refine zi_aload0 (pc := 88) hX dX0_fewestSilent_88 ?_
        refine zi_iload3 (pc := 89) hX dX0_fewestSilent_89 ?_
        refine zi_iload7 (pc := 90) hX dX0_fewestSilent_90 ?_
        refine zi_callI (zc_virt (pc := 92) hX dX0_fewestSilent_92 tm_1259 md_X0_isTold mi_X0_isTold ly_48 (ct_Gr_isTold hX.sane x3 x7 g15) rfl rfl rfl) (fun v18 g19 => ?_)
        refine zi_if_ne (pc := 95) 101 hX dX0_fewestSilent_95 (by decide) (fun _ => ?_) (fun _ => ?_)
        · refine zi_iload7 (pc := 98) hX dX0_fewestSilent_98 ?_
          exact zi_ret (pc := 100) hX dX0_fewestSilent_100 rfl rfl rfl rfl
        · exact zp_Gr_fewestSilent_101 hX r56 (fun z7 z8 g => fn_Gr_fewestSilent_69 r56 x3 x4 x5 x6 n z7 z8 g) x3 x4 x5 x6 x7 x8 hr56 (fun z7 z8 g => ih z7 z8 g) g19
      · exact zp_Gr_fewestSilent_101 hX r56 (fun z7 z8 g => fn_Gr_fewestSilent_69 r56 x3 x4 x5 x6 n z7 z8 g) x3 x4 x5 x6 x7 x8 hr56 (fun z7 z8 g => ih z7 z8 g) g15
theorem zp_Gr_fewestSilent_56 {X : et_X} {w : et_W} (hX : et_Gd X w cX0_fewestSilent RX0 9 (some .int) [] rm_Gr_fewestSilent) (x3 : Int32) (x4 : Int32) (x5 : Int32) : ∀ (n : Nat) (x6 : Int32) (g : et_G), et_Z X w 0 et_eI 56 [some (.ref (et_ad w 48)), none, none, some (.int x3), some (.int x4), some (.int x5), some (.int x6), none, none] [] g (fn_Gr_fewestSilent_56 x3 x4 x5 n x6 g) := by
  intro n
  induction n with
  | zero =>
    intro x6 g a g2 h
    cases h
  | succ n ih =>
    intro x6 g
    rw [fn_Gr_fewestSilent_56]
    refine zi_iload6 (pc := 56) hX dX0_fewestSilent_56 ?_
    refine zi_iload5 (pc := 58) hX dX0_fewestSilent_58 ?_
    refine zi_icmp_ge (pc := 60) 123 hX dX0_fewestSilent_60 (by decide) (fun _ => ?_) (fun _ => ?_)
    · refine zi_iload4 (pc := 123) hX dX0_fewestSilent_123 ?_
      exact zi_ret (pc := 125) hX dX0_fewestSilent_125 rfl rfl rfl rfl
    · refine zi_iconst (pc := 63) hX dX0_fewestSilent_63 ki_0 ?_
      refine zi_istore7 (pc := 64) hX dX0_fewestSilent_64 rfl rfl ?_
      refine zi_iconst (pc := 66) hX dX0_fewestSilent_66 ki_0 ?_
      refine zi_istore8 (pc := 67) hX dX0_fewestSilent_67 rfl rfl ?_
      exact zp_Gr_fewestSilent_69 hX (fun z6 g => fn_Gr_fewestSilent_56 x3 x4 x5 n z6 g) x3 x4 x5 x6 (fun z6 g => ih z6 g) 1000000 (0 : Int32) (0 : Int32) g
theorem zw_Gr_fewestSilent {X : et_X} {w : et_W} (hX : et_Gd X w cX0_fewestSilent RX0 9 (some .int) [] rm_Gr_fewestSilent) (p1 : Int32) (p2 : Int32) (g : et_G) : et_Z X w 0 et_eI 0 [some (.ref (et_ad w 48)), some (.int p1), some (.int p2), none, none, none, none, none, none] [] g (fn_Gr_fewestSilent p1 p2 g) := by
  unfold fn_Gr_fewestSilent
  refine zi_aload0 (pc := 0) hX dX0_fewestSilent_0 ?_
  refine zi_callU (zc_virt (pc := 1) hX dX0_fewestSilent_1 tm_1180 md_X0_lay mi_X0_lay ly_48 (ct_Gr_lay hX.sane g) rfl rfl rfl) (fun g2 => ?_)
  refine zi_aload0 (pc := 4) hX dX0_fewestSilent_4 ?_
  refine zi_callU (zc_virt (pc := 5) hX dX0_fewestSilent_5 tm_1257 md_X0_forget mi_X0_forget ly_48 (ct_Gr_forget hX.sane g2) rfl rfl rfl) (fun g4 => ?_)
  refine zi_aload0 (pc := 8) hX dX0_fewestSilent_8 ?_
  refine zi_iload1 (pc := 9) hX dX0_fewestSilent_9 ?_
  refine zi_bipush (pc := 10) hX dX0_fewestSilent_10 kb_23 ?_
  refine zi_callI (zc_virt (pc := 12) hX dX0_fewestSilent_12 tm_581 md_X0_heardBy mi_X0_heardBy ly_48 (ct_Gr_heardBy hX.sane p1 (23 : Int32) g4) rfl rfl rfl) (fun v5 g6 => ?_)
  refine zi_aload0 (pc := 15) hX dX0_fewestSilent_15 ?_
  refine zi_getr (q := 52) (pc := 16) hX dX0_fewestSilent_16 fl_420 ly_48 rfl ?_
  refine zi_iload2 (pc := 19) hX dX0_fewestSilent_19 ?_
  refine zi_iconst (pc := 20) hX dX0_fewestSilent_20 ki_0 ?_
  refine zi_callI (zc_stat (pc := 21) hX dX0_fewestSilent_21 tm_614 md_X0_aboutRow st_X0_aboutRow (ct_Gr_aboutRow hX.sane p2 (0 : Int32) g6) rfl rfl rfl) (fun v7 g8 => ?_)
  refine zi_iald (pc := 24) hX dX0_fewestSilent_24 ly_52 ?_
  refine zi_iand (pc := 25) hX dX0_fewestSilent_25 ?_
  refine zi_bi (fun v9 => ?_)
  refine zi_istore3 (pc := 26) hX dX0_fewestSilent_26 rfl rfl ?_
  refine zi_iconst (pc := 27) hX dX0_fewestSilent_27 ki_1 ?_
  refine zi_aload0 (pc := 28) hX dX0_fewestSilent_28 ?_
  refine zi_getr (q := 2) (pc := 29) hX dX0_fewestSilent_29 fl_415 ly_48 rfl ?_
  refine zi_geti (pc := 32) hX dX0_fewestSilent_32 fl_195 ly_2 rfl ?_
  refine zi_ishl (pc := 35) hX dX0_fewestSilent_35 ?_
  refine zi_iconst (pc := 36) hX dX0_fewestSilent_36 ki_1 ?_
  refine zi_isub (pc := 37) hX dX0_fewestSilent_37 ?_
  refine zi_iconst (pc := 38) hX dX0_fewestSilent_38 ki_1 ?_
  refine zi_iload1 (pc := 39) hX dX0_fewestSilent_39 ?_
  refine zi_ishl (pc := 40) hX dX0_fewestSilent_40 ?_
  refine zi_iconst (pc := 41) hX dX0_fewestSilent_41 ki_m1 ?_
  refine zi_ixor (pc := 42) hX dX0_fewestSilent_42 ?_
  refine zi_iand (pc := 43) hX dX0_fewestSilent_43 ?_
  refine zi_bi (fun v10 => ?_)
  refine zi_istore4 (pc := 44) hX dX0_fewestSilent_44 rfl rfl ?_
  refine zi_iload4 (pc := 46) hX dX0_fewestSilent_46 ?_
  refine zi_callI (zc_stat (pc := 48) hX dX0_fewestSilent_48 tm_1258 md_J6_bitCount_0f7a4 st_J6_bitCount_0f7a4 (ct_Ji_bitCount hX.sane v10 g8) rfl rfl rfl) (fun v11 g12 => ?_)
  refine zi_istore5 (pc := 51) hX dX0_fewestSilent_51 rfl rfl ?_
  refine zi_iconst (pc := 53) hX dX0_fewestSilent_53 ki_0 ?_
  refine zi_istore6 (pc := 54) hX dX0_fewestSilent_54 rfl rfl ?_
  refine zi_drop (le_s (le_n (le_n (le_s (le_s (le_s (le_s (le_s (le_s le_nil))))))))) ?_; exact zp_Gr_fewestSilent_56 hX v9 v10 v11 1000000 (0 : Int32) g12
theorem ct_Gr_fewestSilent {w : et_W} (hw : et_Sane w) (p1 : Int32) (p2 : Int32) (g : et_G) : et_C w yX0_fewestSilent (Cond.code yX0_fewestSilent cX0_fewestSilent 9 (some .int)) rm_Gr_fewestSilent et_eI [.ref (et_ad w 48), .int p1, .int p2] g (fn_Gr_fewestSilent p1 p2 g) := et_mk hw (by decide) rfl rfl (fun X hX => zw_Gr_fewestSilent hX p1 p2 g)
def rm_Et_silence : Room := { frames := 7, cells := 2, slots := 12, locals := 175 }
def fn_Et_silence (p1 : Int32) (p2 : Int32) (g : et_G) : Option ((Nat ⊕ Int32) × et_G) :=
  et_bt (fn_Et_needPerson p1 g) (fun _ g2 =>
  et_bt (fn_Et_needThing p2 g2) (fun _ g4 =>
  et_bd (fn_Gr_fewestSilent p1 p2 g4) (fun v5 g6 =>
  some (.inr (v5), g6))))
theorem zw_Et_silence {X : et_X} {w : et_W} (hX : et_Gd X w cX9_silence RX9 3 (some .int) [] rm_Et_silence) (p1 : Int32) (p2 : Int32) (g : et_G) : et_Z X w 0 et_tI 0 [some (.ref (et_ad w 0)), some (.int p1), some (.int p2)] [] g (fn_Et_silence p1 p2 g) := by
  unfold fn_Et_silence
  refine zi_aload0 (pc := 0) hX dX9_silence_0 ?_
  refine zi_iload1 (pc := 1) hX dX9_silence_1 ?_
  refine zi_callTU hX (fun _ => rfl) rfl rfl (zc_virt (pc := 2) hX dX9_silence_2 tm_1031 md_X9_needPerson mi_X9_needPerson ly_0 (ct_Et_needPerson hX.sane p1 g) rfl rfl rfl) (fun g2 => ?_)
  refine zi_aload0 (pc := 5) hX dX9_silence_5 ?_
  refine zi_iload2 (pc := 6) hX dX9_silence_6 ?_
  refine zi_callTU hX (fun _ => rfl) rfl rfl (zc_virt (pc := 7) hX dX9_silence_7 tm_1054 md_X9_needThing mi_X9_needThing ly_0 (ct_Et_needThing hX.sane p2 g2) rfl rfl rfl) (fun g4 => ?_)
  refine zi_aload0 (pc := 10) hX dX9_silence_10 ?_
  refine zi_getr (q := 48) (pc := 11) hX dX9_silence_11 fl_503 ly_0 rfl ?_
  refine zi_iload1 (pc := 14) hX dX9_silence_14 ?_
  refine zi_iload2 (pc := 15) hX dX9_silence_15 ?_
  refine zi_callI (zc_virt (pc := 16) hX dX9_silence_16 tm_1253 md_X0_fewestSilent mi_X0_fewestSilent ly_48 (ct_Gr_fewestSilent hX.sane p1 p2 g4) rfl rfl rfl) (fun v5 g6 => ?_)
  exact zi_ret (pc := 19) hX dX9_silence_19 rfl rfl rfl rfl
theorem ct_Et_silence {w : et_W} (hw : et_Sane w) (p1 : Int32) (p2 : Int32) (g : et_G) : et_C w yX9_silence (Cond.code yX9_silence cX9_silence 3 (some .int)) rm_Et_silence et_tI [.ref (et_ad w 0), .int p1, .int p2] g (fn_Et_silence p1 p2 g) := et_mk hw (by decide) rfl rfl (fun X hX => zw_Et_silence hX p1 p2 g)
def rm_Mi_hear : Room := { frames := 4, cells := 0, slots := 0, locals := 92 }
def fn_Mi_hear (p1 : Int32) (p2 : Int32) (p3 : Int32) (g : et_G) : Option (Int32 × et_G) :=
  et_bd (fn_Et_hasBit (g.1 46 1) p2 g) (fun v1 g2 =>
  if v1 = 0 then
    some ((0 : Int32), g2)
  else
    et_bd (fn_Mi_worldsWith p2 p3 g2) (fun v3 g4 =>
    et_bd (fn_Mi_knowing p1 v3 g4) (fun v5 g6 =>
    et_bd (fn_Mi_realWorld g6) (fun v7 g8 =>
    et_bd (fn_Et_hasBit v5 v7 g8) (fun v9 g10 =>
    if v9 = 0 then
      some ((0 : Int32), g10)
    else
      et_b (et_si g10 46 2 v5) (fun g11 =>
      some ((1 : Int32), g11)))))))
theorem zw_Mi_hear {X : et_X} {w : et_W} (hX : et_Gd X w cX3_hear RX3 5 (some .boolean) [] rm_Mi_hear) (p1 : Int32) (p2 : Int32) (p3 : Int32) (g : et_G) : et_Z X w 0 et_eI 0 [some (.ref (et_ad w 46)), some (.int p1), some (.int p2), some (.int p3), none] [] g (fn_Mi_hear p1 p2 p3 g) := by
  unfold fn_Mi_hear
  refine zi_aload0 (pc := 0) hX dX3_hear_0 ?_
  refine zi_geti (pc := 1) hX dX3_hear_1 fl_399 ly_46 rfl ?_
  refine zi_iload2 (pc := 4) hX dX3_hear_4 ?_
  refine zi_callI (zc_nest (pc := 5) hX dX3_hear_5 nl_1301 md_X9_hasBit st_X9_hasBit (ct_Et_hasBit hX.sane (g.1 46 1) p2 g) rfl rfl rfl) (fun v1 g2 => ?_)
  refine zi_if_ne (pc := 8) 13 hX dX3_hear_8 (by decide) (fun _ => ?_) (fun _ => ?_)
  · refine zi_iconst (pc := 11) hX dX3_hear_11 ki_0 ?_
    exact zi_ret (pc := 12) hX dX3_hear_12 et_z0 rfl rfl rfl
  · refine zi_aload0 (pc := 13) hX dX3_hear_13 ?_
    refine zi_iload1 (pc := 14) hX dX3_hear_14 ?_
    refine zi_aload0 (pc := 15) hX dX3_hear_15 ?_
    refine zi_iload2 (pc := 16) hX dX3_hear_16 ?_
    refine zi_iload3 (pc := 17) hX dX3_hear_17 ?_
    refine zi_callI (zc_virt (pc := 18) hX dX3_hear_18 tm_1302 md_X3_worldsWith mi_X3_worldsWith ly_46 (ct_Mi_worldsWith hX.sane p2 p3 g2) rfl rfl rfl) (fun v3 g4 => ?_)
    refine zi_callI (zc_virt (pc := 21) hX dX3_hear_21 tm_1310 md_X3_knowing mi_X3_knowing ly_46 (ct_Mi_knowing hX.sane p1 v3 g4) rfl rfl rfl) (fun v5 g6 => ?_)
    refine zi_istore4 (pc := 24) hX dX3_hear_24 rfl rfl ?_
    refine zi_iload4 (pc := 26) hX dX3_hear_26 ?_
    refine zi_aload0 (pc := 28) hX dX3_hear_28 ?_
    refine zi_callI (zc_virt (pc := 29) hX dX3_hear_29 tm_1323 md_X3_realWorld mi_X3_realWorld ly_46 (ct_Mi_realWorld hX.sane g6) rfl rfl rfl) (fun v7 g8 => ?_)
    refine zi_callI (zc_nest (pc := 32) hX dX3_hear_32 nl_1301 md_X9_hasBit st_X9_hasBit (ct_Et_hasBit hX.sane v5 v7 g8) rfl rfl rfl) (fun v9 g10 => ?_)
    refine zi_if_ne (pc := 35) 40 hX dX3_hear_35 (by decide) (fun _ => ?_) (fun _ => ?_)
    · refine zi_iconst (pc := 38) hX dX3_hear_38 ki_0 ?_
      exact zi_ret (pc := 39) hX dX3_hear_39 et_z0 rfl rfl rfl
    · refine zi_aload0 (pc := 40) hX dX3_hear_40 ?_
      refine zi_iload4 (pc := 41) hX dX3_hear_41 ?_
      refine zi_puti (pc := 43) hX dX3_hear_43 fl_400 ly_46 rfl rfl rfl (zi_bg (fun g11 => ?_))
      refine zi_iconst (pc := 46) hX dX3_hear_46 ki_1 ?_
      exact zi_ret (pc := 47) hX dX3_hear_47 et_z1 rfl rfl rfl
theorem ct_Mi_hear {w : et_W} (hw : et_Sane w) (p1 : Int32) (p2 : Int32) (p3 : Int32) (g : et_G) : et_C w yX3_hear (Cond.code yX3_hear cX3_hear 5 (some .boolean)) rm_Mi_hear et_eI [.ref (et_ad w 46), .int p1, .int p2, .int p3] g (fn_Mi_hear p1 p2 p3 g) := et_mk hw (by decide) rfl rfl (fun X hX => zw_Mi_hear hX p1 p2 p3 g)
def rm_Et_tell : Room := { frames := 7, cells := 2, slots := 12, locals := 116 }
def fn_Et_tell (p1 : Int32) (p2 : Int32) (p3 : Int32) (g : et_G) : Option ((Nat ⊕ Int32) × et_G) :=
  et_bt (fn_Et_needPerson p1 g) (fun _ g2 =>
  et_bt (fn_Et_needThing p2 g2) (fun _ g4 =>
  et_bd (fn_Mi_hear p1 p2 p3 g4) (fun v5 g6 =>
  if v5 = 0 then
    et_b (et_si g6 0 17 ((g6.1 0 17) + (1 : Int32))) (fun g9 =>
    some (.inr ((-1 : Int32)), g9))
  else
    et_bd (fn_Ji_bitCount (g6.1 46 2) g6) (fun v7 g8 =>
    some (.inr (v7), g8)))))
theorem zw_Et_tell {X : et_X} {w : et_W} (hX : et_Gd X w cX9_tell RX9 4 (some .int) [] rm_Et_tell) (p1 : Int32) (p2 : Int32) (p3 : Int32) (g : et_G) : et_Z X w 0 et_tI 0 [some (.ref (et_ad w 0)), some (.int p1), some (.int p2), some (.int p3)] [] g (fn_Et_tell p1 p2 p3 g) := by
  unfold fn_Et_tell
  refine zi_aload0 (pc := 0) hX dX9_tell_0 ?_
  refine zi_iload1 (pc := 1) hX dX9_tell_1 ?_
  refine zi_callTU hX (fun _ => rfl) rfl rfl (zc_virt (pc := 2) hX dX9_tell_2 tm_1031 md_X9_needPerson mi_X9_needPerson ly_0 (ct_Et_needPerson hX.sane p1 g) rfl rfl rfl) (fun g2 => ?_)
  refine zi_aload0 (pc := 5) hX dX9_tell_5 ?_
  refine zi_iload2 (pc := 6) hX dX9_tell_6 ?_
  refine zi_callTU hX (fun _ => rfl) rfl rfl (zc_virt (pc := 7) hX dX9_tell_7 tm_1054 md_X9_needThing mi_X9_needThing ly_0 (ct_Et_needThing hX.sane p2 g2) rfl rfl rfl) (fun g4 => ?_)
  refine zi_aload0 (pc := 10) hX dX9_tell_10 ?_
  refine zi_getr (q := 46) (pc := 11) hX dX9_tell_11 fl_500 ly_0 rfl ?_
  refine zi_iload1 (pc := 14) hX dX9_tell_14 ?_
  refine zi_iload2 (pc := 15) hX dX9_tell_15 ?_
  refine zi_iload3 (pc := 16) hX dX9_tell_16 ?_
  refine zi_callI (zc_virt (pc := 17) hX dX9_tell_17 tm_1297 md_X3_hear mi_X3_hear ly_46 (ct_Mi_hear hX.sane p1 p2 p3 g4) rfl rfl rfl) (fun v5 g6 => ?_)
  refine zi_if_ne (pc := 20) 35 hX dX9_tell_20 (by decide) (fun _ => ?_) (fun _ => ?_)
  · refine zi_aload0 (pc := 23) hX dX9_tell_23 ?_
    refine zi_dup (pc := 24) hX dX9_tell_24 rfl ?_
    refine zi_geti (pc := 25) hX dX9_tell_25 fl_508 ly_0 rfl ?_
    refine zi_iconst (pc := 28) hX dX9_tell_28 ki_1 ?_
    refine zi_iadd (pc := 29) hX dX9_tell_29 ?_
    refine zi_puti (pc := 30) hX dX9_tell_30 fl_508 ly_0 rfl rfl rfl (zi_bg (fun g9 => ?_))
    refine zi_iconst (pc := 33) hX dX9_tell_33 ki_m1 ?_
    exact zi_ret (pc := 34) hX dX9_tell_34 rfl rfl rfl rfl
  · refine zi_aload0 (pc := 35) hX dX9_tell_35 ?_
    refine zi_getr (q := 46) (pc := 36) hX dX9_tell_36 fl_500 ly_0 rfl ?_
    refine zi_geti (pc := 39) hX dX9_tell_39 fl_401 ly_46 rfl ?_
    refine zi_callI (zc_stat (pc := 42) hX dX9_tell_42 tm_1008 md_J6_bitCount_0f7a4 st_J6_bitCount_0f7a4 (ct_Ji_bitCount hX.sane (g6.1 46 2) g6) rfl rfl rfl) (fun v7 g8 => ?_)
    exact zi_ret (pc := 45) hX dX9_tell_45 rfl rfl rfl rfl
theorem ct_Et_tell {w : et_W} (hw : et_Sane w) (p1 : Int32) (p2 : Int32) (p3 : Int32) (g : et_G) : et_C w yX9_tell (Cond.code yX9_tell cX9_tell 4 (some .int)) rm_Et_tell et_tI [.ref (et_ad w 0), .int p1, .int p2, .int p3] g (fn_Et_tell p1 p2 p3 g) := et_mk hw (by decide) rfl rfl (fun X hX => zw_Et_tell hX p1 p2 p3 g)
