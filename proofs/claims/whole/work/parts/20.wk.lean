def rm_Mo_right : Room := { frames := 0, cells := 0, slots := 0, locals := 0 }
def fn_Mo_right_16 (g : et_G) : Option (Int32 × et_G) :=
  if (g.1 61 0) = 0 then
    some ((1 : Int32), g)
  else
    some ((0 : Int32), g)
def fn_Mo_right (p1 : Int32) (p2 : Int32) (g : et_G) : Option (Int32 × et_G) :=
  if (g.1 61 0) = 0 then
    if p1 = 0 then
      et_b (et_si g 61 0 p2) (fun g1 =>
      fn_Mo_right_16 g1)
    else
      fn_Mo_right_16 g
  else
    fn_Mo_right_16 g
theorem zp_Mo_right_16 {X : et_X} {w : et_W} (hX : et_Gd X w cX10_right RX10 3 (some .boolean) [] rm_Mo_right) (g : et_G) : et_Z X w 0 et_eI 16 [some (.ref (et_ad w 61)), none, none] [] g (fn_Mo_right_16 g) := by
  unfold fn_Mo_right_16
  refine zi_aload0 (pc := 16) hX dX10_right_16 ?_
  refine zi_geti (pc := 17) hX dX10_right_17 fl_1348 ly_61 rfl ?_
  refine zi_if_ne (pc := 20) 27 hX dX10_right_20 (by decide) (fun _ => ?_) (fun _ => ?_)
  · refine zi_iconst (pc := 23) hX dX10_right_23 ki_1 ?_
    refine zi_goto (pc := 24) 28 hX dX10_right_24 (by decide) ?_
    exact zi_ret (pc := 28) hX dX10_right_28 et_z1 rfl rfl rfl
  · refine zi_iconst (pc := 27) hX dX10_right_27 ki_0 ?_
    exact zi_ret (pc := 28) hX dX10_right_28 et_z0 rfl rfl rfl
theorem zw_Mo_right {X : et_X} {w : et_W} (hX : et_Gd X w cX10_right RX10 3 (some .boolean) [] rm_Mo_right) (p1 : Int32) (p2 : Int32) (g : et_G) : et_Z X w 0 et_eI 0 [some (.ref (et_ad w 61)), some (.int p1), some (.int p2)] [] g (fn_Mo_right p1 p2 g) := by
  unfold fn_Mo_right
  refine zi_aload0 (pc := 0) hX dX10_right_0 ?_
  refine zi_geti (pc := 1) hX dX10_right_1 fl_1348 ly_61 rfl ?_
  refine zi_if_ne (pc := 4) 16 hX dX10_right_4 (by decide) (fun _ => ?_) (fun _ => ?_)
  · refine zi_iload1 (pc := 7) hX dX10_right_7 ?_
    refine zi_if_ne (pc := 8) 16 hX dX10_right_8 (by decide) (fun _ => ?_) (fun _ => ?_)
    · refine zi_aload0 (pc := 11) hX dX10_right_11 ?_
      refine zi_iload2 (pc := 12) hX dX10_right_12 ?_
      refine zi_puti (pc := 13) hX dX10_right_13 fl_1348 ly_61 rfl rfl rfl (zi_bg (fun g1 => ?_))
      refine zi_drop (le_s (le_n (le_n le_nil))) ?_; exact zp_Mo_right_16 hX g1
    · refine zi_drop (le_s (le_n (le_n le_nil))) ?_; exact zp_Mo_right_16 hX g
  · refine zi_drop (le_s (le_n (le_n le_nil))) ?_; exact zp_Mo_right_16 hX g
theorem ct_Mo_right {w : et_W} (hw : et_Sane w) (p1 : Int32) (p2 : Int32) (g : et_G) : et_C w yX10_right (Cond.code yX10_right cX10_right 3 (some .boolean)) rm_Mo_right et_eI [.ref (et_ad w 61), .int p1, .int p2] g (fn_Mo_right p1 p2 g) := et_mk hw (by decide) rfl rfl (fun X hX => zw_Mo_right hX p1 p2 g)
def rm_Mo_adds : Room := { frames := 0, cells := 0, slots := 0, locals := 0 }
def fn_Mo_adds (p1 : Int32) (g : et_G) : Option (Unit × et_G) :=
  et_ck (et_ib (g.1 61 48) 32) (et_b (et_si g 82 (g.1 61 48).toNatClampNeg p1) (fun g1 =>
  et_b (et_si g1 61 48 ((g1.1 61 48) + (1 : Int32))) (fun g2 =>
  some ((), g2))))
theorem zw_Mo_adds {X : et_X} {w : et_W} (hX : et_Gd X w cX10_adds RX10 2 (none) [] rm_Mo_adds) (p1 : Int32) (g : et_G) : et_Z X w 0 et_eU 0 [some (.ref (et_ad w 61)), some (.int p1)] [] g (fn_Mo_adds p1 g) := by
  unfold fn_Mo_adds
  refine zi_aload0 (pc := 0) hX dX10_adds_0 ?_
  refine zi_getr (q := 82) (pc := 1) hX dX10_adds_1 fl_1394 ly_61 rfl ?_
  refine zi_aload0 (pc := 4) hX dX10_adds_4 ?_
  refine zi_geti (pc := 5) hX dX10_adds_5 fl_1396 ly_61 rfl ?_
  refine zi_iload1 (pc := 8) hX dX10_adds_8 ?_
  refine zi_iast (pc := 9) hX dX10_adds_9 ly_82 (zi_bg (fun g1 => ?_))
  refine zi_aload0 (pc := 10) hX dX10_adds_10 ?_
  refine zi_dup (pc := 11) hX dX10_adds_11 rfl ?_
  refine zi_geti (pc := 12) hX dX10_adds_12 fl_1396 ly_61 rfl ?_
  refine zi_iconst (pc := 15) hX dX10_adds_15 ki_1 ?_
  refine zi_iadd (pc := 16) hX dX10_adds_16 ?_
  refine zi_puti (pc := 17) hX dX10_adds_17 fl_1396 ly_61 rfl rfl rfl (zi_bg (fun g2 => ?_))
  exact zi_vret (pc := 20) hX dX10_adds_20 rfl rfl rfl
theorem ct_Mo_adds {w : et_W} (hw : et_Sane w) (p1 : Int32) (g : et_G) : et_C w yX10_adds (Cond.code yX10_adds cX10_adds 2 (none)) rm_Mo_adds et_eU [.ref (et_ad w 61), .int p1] g (fn_Mo_adds p1 g) := et_mk hw (by decide) rfl rfl (fun X hX => zw_Mo_adds hX p1 g)
def rm_Mo_ends : Room := { frames := 0, cells := 0, slots := 0, locals := 0 }
def fn_Mo_ends_32 (x1 : Int32) (x2 : Int32) (x3 : Int32) (x4 : Int32) : Nat → Int32 → et_G → Option (Int32 × et_G)
  | 0, _, _ => none
  | n + 1, x5, g =>
    if x3 ≤ x5 then
      some ((1 : Int32), g)
    else
      et_ck (et_ib ((((((9 : Int32) * x1) + (1 : Int32)) + x4) - x3) + x5) 108) (
      et_ck (et_ib ((((27 : Int32) * x2) + (1 : Int32)) + x5) 162) (
      if (g.1 62 ((((((9 : Int32) * x1) + (1 : Int32)) + x4) - x3) + x5).toNatClampNeg) = (g.1 64 ((((27 : Int32) * x2) + (1 : Int32)) + x5).toNatClampNeg) then
        et_b (x5 + (1 : Int32)) (fun v3 =>
        fn_Mo_ends_32 x1 x2 x3 x4 n v3 g)
      else
        some ((0 : Int32), g)))
def fn_Mo_ends (p1 : Int32) (p2 : Int32) (g : et_G) : Option (Int32 × et_G) :=
  et_ck (et_ib ((27 : Int32) * p2) 162) (
  et_b (g.1 64 ((27 : Int32) * p2).toNatClampNeg) (fun v1 =>
  et_ck (et_ib ((9 : Int32) * p1) 108) (
  et_b (g.1 62 ((9 : Int32) * p1).toNatClampNeg) (fun v2 =>
  if v1 ≤ v2 then
    fn_Mo_ends_32 p1 p2 v1 v2 1000000 (0 : Int32) g
  else
    some ((0 : Int32), g)))))
theorem zp_Mo_ends_32 {X : et_X} {w : et_W} (hX : et_Gd X w cX10_ends RX10 6 (some .boolean) [] rm_Mo_ends) (x1 : Int32) (x2 : Int32) (x3 : Int32) (x4 : Int32) : ∀ (n : Nat) (x5 : Int32) (g : et_G), et_Z X w 0 et_eI 32 [some (.ref (et_ad w 61)), some (.int x1), some (.int x2), some (.int x3), some (.int x4), some (.int x5)] [] g (fn_Mo_ends_32 x1 x2 x3 x4 n x5 g) := by
  intro n
  induction n with
  | zero =>
    intro x5 g a g2 h
    cases h
  | succ n ih =>
    intro x5 g
    rw [fn_Mo_ends_32]
    refine zi_iload5 (pc := 32) hX dX10_ends_32 ?_
    refine zi_iload3 (pc := 34) hX dX10_ends_34 ?_
    refine zi_icmp_ge (pc := 35) 82 hX dX10_ends_35 (by decide) (fun _ => ?_) (fun _ => ?_)
    · refine zi_iconst (pc := 82) hX dX10_ends_82 ki_1 ?_
      exact zi_ret (pc := 83) hX dX10_ends_83 et_z1 rfl rfl rfl
    · refine zi_aload0 (pc := 38) hX dX10_ends_38 ?_
      refine zi_getr (q := 62) (pc := 39) hX dX10_ends_39 fl_1355 ly_61 rfl ?_
      refine zi_bipush (pc := 42) hX dX10_ends_42 kb_9 ?_
      refine zi_iload1 (pc := 44) hX dX10_ends_44 ?_
      refine zi_imul (pc := 45) hX dX10_ends_45 ?_
      refine zi_iconst (pc := 46) hX dX10_ends_46 ki_1 ?_
      refine zi_iadd (pc := 47) hX dX10_ends_47 ?_
      refine zi_iload4 (pc := 48) hX dX10_ends_48 ?_
      refine zi_iadd (pc := 50) hX dX10_ends_50 ?_
      refine zi_iload3 (pc := 51) hX dX10_ends_51 ?_
      refine zi_isub (pc := 52) hX dX10_ends_52 ?_
      refine zi_iload5 (pc := 53) hX dX10_ends_53 ?_
      refine zi_iadd (pc := 55) hX dX10_ends_55 ?_
      refine zi_iald (pc := 56) hX dX10_ends_56 ly_62 ?_
      refine zi_aload0 (pc := 57) hX dX10_ends_57 ?_
      refine zi_getr (q := 64) (pc := 58) hX dX10_ends_58 fl_1357 ly_61 rfl ?_
      refine zi_bipush (pc := 61) hX dX10_ends_61 kb_27 ?_
      refine zi_iload2 (pc := 63) hX dX10_ends_63 ?_
      refine zi_imul (pc := 64) hX dX10_ends_64 ?_
      refine zi_iconst (pc := 65) hX dX10_ends_65 ki_1 ?_
      refine zi_iadd (pc := 66) hX dX10_ends_66 ?_
      refine zi_iload5 (pc := 67) hX dX10_ends_67 ?_
      refine zi_iadd (pc := 69) hX dX10_ends_69 ?_
      refine zi_iald (pc := 70) hX dX10_ends_70 ly_64 ?_
      refine zi_icmp_eq (pc := 71) 76 hX dX10_ends_71 (by decide) (fun _ => ?_) (fun _ => ?_)
      · refine zi_iincb5 (pc := 76) hX dX10_ends_76 (kn_1 _) rfl rfl (fun v3 => ?_)
        refine zi_goto (pc := 79) 32 hX dX10_ends_79 (by decide) ?_
        exact ih v3 g
      · refine zi_iconst (pc := 74) hX dX10_ends_74 ki_0 ?_
        exact zi_ret (pc := 75) hX dX10_ends_75 et_z0 rfl rfl rfl
theorem zw_Mo_ends {X : et_X} {w : et_W} (hX : et_Gd X w cX10_ends RX10 6 (some .boolean) [] rm_Mo_ends) (p1 : Int32) (p2 : Int32) (g : et_G) : et_Z X w 0 et_eI 0 [some (.ref (et_ad w 61)), some (.int p1), some (.int p2), none, none, none] [] g (fn_Mo_ends p1 p2 g) := by
  unfold fn_Mo_ends
  refine zi_aload0 (pc := 0) hX dX10_ends_0 ?_
  refine zi_getr (q := 64) (pc := 1) hX dX10_ends_1 fl_1357 ly_61 rfl ?_
  refine zi_bipush (pc := 4) hX dX10_ends_4 kb_27 ?_
  refine zi_iload2 (pc := 6) hX dX10_ends_6 ?_
  refine zi_imul (pc := 7) hX dX10_ends_7 ?_
  refine zi_iald (pc := 8) hX dX10_ends_8 ly_64 ?_
  refine zi_bi (fun v1 => ?_)
  refine zi_istore3 (pc := 9) hX dX10_ends_9 rfl rfl ?_
  refine zi_aload0 (pc := 10) hX dX10_ends_10 ?_
  refine zi_getr (q := 62) (pc := 11) hX dX10_ends_11 fl_1355 ly_61 rfl ?_
  refine zi_bipush (pc := 14) hX dX10_ends_14 kb_9 ?_
  refine zi_iload1 (pc := 16) hX dX10_ends_16 ?_
  refine zi_imul (pc := 17) hX dX10_ends_17 ?_
  refine zi_iald (pc := 18) hX dX10_ends_18 ly_62 ?_
  refine zi_bi (fun v2 => ?_)
  refine zi_istore4 (pc := 19) hX dX10_ends_19 rfl rfl ?_
  refine zi_iload3 (pc := 21) hX dX10_ends_21 ?_
  refine zi_iload4 (pc := 22) hX dX10_ends_22 ?_
  refine zi_icmp_le (pc := 24) 29 hX dX10_ends_24 (by decide) (fun _ => ?_) (fun _ => ?_)
  · refine zi_iconst (pc := 29) hX dX10_ends_29 ki_0 ?_
    refine zi_istore5 (pc := 30) hX dX10_ends_30 rfl rfl ?_
    exact zp_Mo_ends_32 hX p1 p2 v1 v2 1000000 (0 : Int32) g
  · refine zi_iconst (pc := 27) hX dX10_ends_27 ki_0 ?_
    exact zi_ret (pc := 28) hX dX10_ends_28 et_z0 rfl rfl rfl
theorem ct_Mo_ends {w : et_W} (hw : et_Sane w) (p1 : Int32) (p2 : Int32) (g : et_G) : et_C w yX10_ends (Cond.code yX10_ends cX10_ends 6 (some .boolean)) rm_Mo_ends et_eI [.ref (et_ad w 61), .int p1, .int p2] g (fn_Mo_ends p1 p2 g) := et_mk hw (by decide) rfl rfl (fun X hX => zw_Mo_ends hX p1 p2 g)
def rm_Mo_begins : Room := { frames := 0, cells := 0, slots := 0, locals := 0 }
def fn_Mo_begins_31 (x1 : Int32) (x2 : Int32) (x3 : Int32) : Nat → Int32 → et_G → Option (Int32 × et_G)
  | 0, _, _ => none
  | n + 1, x4, g =>
    if x3 ≤ x4 then
      some ((1 : Int32), g)
    else
      et_ck (et_ib ((((9 : Int32) * x1) + (1 : Int32)) + x4) 135) (
      et_ck (et_ib ((((27 : Int32) * x2) + (10 : Int32)) + x4) 162) (
      if (g.1 63 ((((9 : Int32) * x1) + (1 : Int32)) + x4).toNatClampNeg) = (g.1 64 ((((27 : Int32) * x2) + (10 : Int32)) + x4).toNatClampNeg) then
        et_b (x4 + (1 : Int32)) (fun v2 =>
        fn_Mo_begins_31 x1 x2 x3 n v2 g)
      else
        some ((0 : Int32), g)))
def fn_Mo_begins (p1 : Int32) (p2 : Int32) (g : et_G) : Option (Int32 × et_G) :=
  et_ck (et_ib (((27 : Int32) * p2) + (9 : Int32)) 162) (
  et_b (g.1 64 (((27 : Int32) * p2) + (9 : Int32)).toNatClampNeg) (fun v1 =>
  et_ck (et_ib ((9 : Int32) * p1) 135) (
  if v1 ≤ (g.1 63 ((9 : Int32) * p1).toNatClampNeg) then
    fn_Mo_begins_31 p1 p2 v1 1000000 (0 : Int32) g
  else
    some ((0 : Int32), g))))
theorem zp_Mo_begins_31 {X : et_X} {w : et_W} (hX : et_Gd X w cX10_begins RX10 5 (some .boolean) [] rm_Mo_begins) (x1 : Int32) (x2 : Int32) (x3 : Int32) : ∀ (n : Nat) (x4 : Int32) (g : et_G), et_Z X w 0 et_eI 31 [some (.ref (et_ad w 61)), some (.int x1), some (.int x2), some (.int x3), some (.int x4)] [] g (fn_Mo_begins_31 x1 x2 x3 n x4 g) := by
  intro n
  induction n with
  | zero =>
    intro x4 g a g2 h
    cases h
  | succ n ih =>
    intro x4 g
    rw [fn_Mo_begins_31]
    refine zi_iload4 (pc := 31) hX dX10_begins_31 ?_
    refine zi_iload3 (pc := 33) hX dX10_begins_33 ?_
    refine zi_icmp_ge (pc := 34) 77 hX dX10_begins_34 (by decide) (fun _ => ?_) (fun _ => ?_)
    · refine zi_iconst (pc := 77) hX dX10_begins_77 ki_1 ?_
      exact zi_ret (pc := 78) hX dX10_begins_78 et_z1 rfl rfl rfl
    · refine zi_aload0 (pc := 37) hX dX10_begins_37 ?_
      refine zi_getr (q := 63) (pc := 38) hX dX10_begins_38 fl_1356 ly_61 rfl ?_
      refine zi_bipush (pc := 41) hX dX10_begins_41 kb_9 ?_
      refine zi_iload1 (pc := 43) hX dX10_begins_43 ?_
      refine zi_imul (pc := 44) hX dX10_begins_44 ?_
      refine zi_iconst (pc := 45) hX dX10_begins_45 ki_1 ?_
      refine zi_iadd (pc := 46) hX dX10_begins_46 ?_
      refine zi_iload4 (pc := 47) hX dX10_begins_47 ?_
      refine zi_iadd (pc := 49) hX dX10_begins_49 ?_
      refine zi_iald (pc := 50) hX dX10_begins_50 ly_63 ?_
      refine zi_aload0 (pc := 51) hX dX10_begins_51 ?_
      refine zi_getr (q := 64) (pc := 52) hX dX10_begins_52 fl_1357 ly_61 rfl ?_
      refine zi_bipush (pc := 55) hX dX10_begins_55 kb_27 ?_
      refine zi_iload2 (pc := 57) hX dX10_begins_57 ?_
      refine zi_imul (pc := 58) hX dX10_begins_58 ?_
      refine zi_bipush (pc := 59) hX dX10_begins_59 kb_10 ?_
      refine zi_iadd (pc := 61) hX dX10_begins_61 ?_
      refine zi_iload4 (pc := 62) hX dX10_begins_62 ?_
      refine zi_iadd (pc := 64) hX dX10_begins_64 ?_
      refine zi_iald (pc := 65) hX dX10_begins_65 ly_64 ?_
      refine zi_icmp_eq (pc := 66) 71 hX dX10_begins_66 (by decide) (fun _ => ?_) (fun _ => ?_)
      · refine zi_iincb4 (pc := 71) hX dX10_begins_71 (kn_1 _) rfl rfl (fun v2 => ?_)
        refine zi_goto (pc := 74) 31 hX dX10_begins_74 (by decide) ?_
        exact ih v2 g
      · refine zi_iconst (pc := 69) hX dX10_begins_69 ki_0 ?_
        exact zi_ret (pc := 70) hX dX10_begins_70 et_z0 rfl rfl rfl
theorem zw_Mo_begins {X : et_X} {w : et_W} (hX : et_Gd X w cX10_begins RX10 5 (some .boolean) [] rm_Mo_begins) (p1 : Int32) (p2 : Int32) (g : et_G) : et_Z X w 0 et_eI 0 [some (.ref (et_ad w 61)), some (.int p1), some (.int p2), none, none] [] g (fn_Mo_begins p1 p2 g) := by
  unfold fn_Mo_begins
  refine zi_aload0 (pc := 0) hX dX10_begins_0 ?_
  refine zi_getr (q := 64) (pc := 1) hX dX10_begins_1 fl_1357 ly_61 rfl ?_
  refine zi_bipush (pc := 4) hX dX10_begins_4 kb_27 ?_
  refine zi_iload2 (pc := 6) hX dX10_begins_6 ?_
  refine zi_imul (pc := 7) hX dX10_begins_7 ?_
  refine zi_bipush (pc := 8) hX dX10_begins_8 kb_9 ?_
  refine zi_iadd (pc := 10) hX dX10_begins_10 ?_
  refine zi_iald (pc := 11) hX dX10_begins_11 ly_64 ?_
  refine zi_bi (fun v1 => ?_)
  refine zi_istore3 (pc := 12) hX dX10_begins_12 rfl rfl ?_
  refine zi_iload3 (pc := 13) hX dX10_begins_13 ?_
  refine zi_aload0 (pc := 14) hX dX10_begins_14 ?_
  refine zi_getr (q := 63) (pc := 15) hX dX10_begins_15 fl_1356 ly_61 rfl ?_
  refine zi_bipush (pc := 18) hX dX10_begins_18 kb_9 ?_
  refine zi_iload1 (pc := 20) hX dX10_begins_20 ?_
  refine zi_imul (pc := 21) hX dX10_begins_21 ?_
  refine zi_iald (pc := 22) hX dX10_begins_22 ly_63 ?_
  refine zi_icmp_le (pc := 23) 28 hX dX10_begins_23 (by decide) (fun _ => ?_) (fun _ => ?_)
  · refine zi_iconst (pc := 28) hX dX10_begins_28 ki_0 ?_
    refine zi_istore4 (pc := 29) hX dX10_begins_29 rfl rfl ?_
    exact zp_Mo_begins_31 hX p1 p2 v1 1000000 (0 : Int32) g
  · refine zi_iconst (pc := 26) hX dX10_begins_26 ki_0 ?_
    exact zi_ret (pc := 27) hX dX10_begins_27 et_z0 rfl rfl rfl
theorem ct_Mo_begins {w : et_W} (hw : et_Sane w) (p1 : Int32) (p2 : Int32) (g : et_G) : et_C w yX10_begins (Cond.code yX10_begins cX10_begins 5 (some .boolean)) rm_Mo_begins et_eI [.ref (et_ad w 61), .int p1, .int p2] g (fn_Mo_begins p1 p2 g) := et_mk hw (by decide) rfl rfl (fun X hX => zw_Mo_begins hX p1 p2 g)
def rm_Mo_speaks : Room := { frames := 1, cells := 0, slots := 0, locals := 25 }
def fn_Mo_speaks_202 (x2 : Int32) : Nat → Int32 → et_G → Option (Unit × et_G)
  | 0, _, _ => none
  | n + 1, x6, g =>
    et_ck (et_ib ((9 : Int32) * x2) 135) (
    if (g.1 63 ((9 : Int32) * x2).toNatClampNeg) ≤ x6 then
      some ((), g)
    else
      et_ck (et_ib ((((9 : Int32) * x2) + (1 : Int32)) + x6) 135) (
      et_bd (fn_Mo_adds (g.1 63 ((((9 : Int32) * x2) + (1 : Int32)) + x6).toNatClampNeg) g) (fun _ g4 =>
      et_b (x6 + (1 : Int32)) (fun v5 =>
      fn_Mo_speaks_202 x2 n v5 g4))))
def fn_Mo_speaks_148 (x2 : Int32) (x3 : Int32) (x5 : Int32) : Nat → Int32 → et_G → Option (Unit × et_G)
  | 0, _, _ => none
  | n + 1, x6, g =>
    if (g.1 61 2) ≤ x3 then
      fn_Mo_speaks_202 x2 1000000 x5 g
    else
      et_ck (et_ib (((27 : Int32) * x3) + (18 : Int32)) 162) (
      if (g.1 64 (((27 : Int32) * x3) + (18 : Int32)).toNatClampNeg) ≤ x6 then
        fn_Mo_speaks_202 x2 1000000 x5 g
      else
        et_ck (et_ib ((((27 : Int32) * x3) + (19 : Int32)) + x6) 162) (
        et_bd (fn_Mo_adds (g.1 64 ((((27 : Int32) * x3) + (19 : Int32)) + x6).toNatClampNeg) g) (fun _ g7 =>
        et_b (x6 + (1 : Int32)) (fun v8 =>
        fn_Mo_speaks_148 x2 x3 x5 n v8 g7))))
def fn_Mo_speaks_104 (x1 : Int32) (x2 : Int32) (x3 : Int32) (x4 : Int32) (x5 : Int32) : Nat → Int32 → et_G → Option (Unit × et_G)
  | 0, _, _ => none
  | n + 1, x6, g =>
    et_ck (et_ib ((9 : Int32) * x1) 108) (
    if ((g.1 62 ((9 : Int32) * x1).toNatClampNeg) - x4) ≤ x6 then
      fn_Mo_speaks_148 x2 x3 x5 1000000 (0 : Int32) g
    else
      et_ck (et_ib ((((9 : Int32) * x1) + (1 : Int32)) + x6) 108) (
      et_bd (fn_Mo_adds (g.1 62 ((((9 : Int32) * x1) + (1 : Int32)) + x6).toNatClampNeg) g) (fun _ g10 =>
      et_b (x6 + (1 : Int32)) (fun v11 =>
      fn_Mo_speaks_104 x1 x2 x3 x4 x5 n v11 g10))))
def fn_Mo_speaks_73 (x1 : Int32) (x2 : Int32) (x3 : Int32) (s0 : Int32) (g : et_G) : Option (Unit × et_G) :=
  if x3 = (g.1 61 2) then
    fn_Mo_speaks_104 x1 x2 x3 s0 (0 : Int32) 1000000 (0 : Int32) g
  else
    et_ck (et_ib (((27 : Int32) * x3) + (9 : Int32)) 162) (
    et_b (g.1 64 (((27 : Int32) * x3) + (9 : Int32)).toNatClampNeg) (fun v2 =>
    fn_Mo_speaks_104 x1 x2 x3 s0 v2 1000000 (0 : Int32) g))
def fn_Mo_speaks_52 (x1 : Int32) (x2 : Int32) (x3 : Int32) (g : et_G) : Option (Unit × et_G) :=
  if x3 = (g.1 61 2) then
    fn_Mo_speaks_73 x1 x2 x3 (0 : Int32) g
  else
    et_ck (et_ib ((27 : Int32) * x3) 162) (
    fn_Mo_speaks_73 x1 x2 x3 (g.1 64 ((27 : Int32) * x3).toNatClampNeg) g)
def fn_Mo_speaks_20 (x1 : Int32) (x2 : Int32) : Nat → Int32 → et_G → Option (Unit × et_G)
  | 0, _, _ => none
  | n + 1, x3, g =>
    if (g.1 61 2) ≤ x3 then
      fn_Mo_speaks_52 x1 x2 x3 g
    else
      et_bd (fn_Mo_ends x1 x3 g) (fun v12 g13 =>
      if v12 = 0 then
        et_b (x3 + (1 : Int32)) (fun v14 =>
        fn_Mo_speaks_20 x1 x2 n v14 g13)
      else
        et_bd (fn_Mo_begins x2 x3 g13) (fun v15 g16 =>
        if v15 = 0 then
          et_b (x3 + (1 : Int32)) (fun v17 =>
          fn_Mo_speaks_20 x1 x2 n v17 g16)
        else
          fn_Mo_speaks_52 x1 x2 x3 g16))
def fn_Mo_speaks (p1 : Int32) (p2 : Int32) (g : et_G) : Option (Unit × et_G) :=
  et_b (et_si g 61 48 (0 : Int32)) (fun g1 =>
  et_ck (et_ib ((9 : Int32) * p2) 135) (
  if (g1.1 63 ((9 : Int32) * p2).toNatClampNeg) = 0 then
    some ((), g1)
  else
    fn_Mo_speaks_20 p1 p2 1000000 (0 : Int32) g1))
theorem zp_Mo_speaks_202 {X : et_X} {w : et_W} (hX : et_Gd X w cX10_speaks RX10 7 (none) [] rm_Mo_speaks) (x2 : Int32) : ∀ (n : Nat) (x6 : Int32) (g : et_G), et_Z X w 0 et_eU 202 [some (.ref (et_ad w 61)), none, some (.int x2), none, none, none, some (.int x6)] [] g (fn_Mo_speaks_202 x2 n x6 g) := by
  intro n
  induction n with
  | zero =>
    intro x6 g a g2 h
    cases h
  | succ n ih =>
    intro x6 g
    rw [fn_Mo_speaks_202]
    refine zi_iload6 (pc := 202) hX dX10_speaks_202 ?_
    refine zi_aload0 (pc := 204) hX dX10_speaks_204 ?_
    refine zi_getr (q := 63) (pc := 205) hX dX10_speaks_205 fl_1356 ly_61 rfl ?_
    refine zi_bipush (pc := 208) hX dX10_speaks_208 kb_9 ?_
    refine zi_iload2 (pc := 210) hX dX10_speaks_210 ?_
    refine zi_imul (pc := 211) hX dX10_speaks_211 ?_
    refine zi_iald (pc := 212) hX dX10_speaks_212 ly_63 ?_
    refine zi_icmp_ge (pc := 213) 240 hX dX10_speaks_213 (by decide) (fun _ => ?_) (fun _ => ?_)
    · exact zi_vret (pc := 240) hX dX10_speaks_240 rfl rfl rfl
    · refine zi_aload0 (pc := 216) hX dX10_speaks_216 ?_
      refine zi_aload0 (pc := 217) hX dX10_speaks_217 ?_
      refine zi_getr (q := 63) (pc := 218) hX dX10_speaks_218 fl_1356 ly_61 rfl ?_
      refine zi_bipush (pc := 221) hX dX10_speaks_221 kb_9 ?_
      refine zi_iload2 (pc := 223) hX dX10_speaks_223 ?_
      refine zi_imul (pc := 224) hX dX10_speaks_224 ?_
      refine zi_iconst (pc := 225) hX dX10_speaks_225 ki_1 ?_
      refine zi_iadd (pc := 226) hX dX10_speaks_226 ?_
      refine zi_iload6 (pc := 227) hX dX10_speaks_227 ?_
      refine zi_iadd (pc := 229) hX dX10_speaks_229 ?_
      refine zi_iald (pc := 230) hX dX10_speaks_230 ly_63 ?_
      refine zi_callU (zc_virt (pc := 231) hX dX10_speaks_231 tm_1721 md_X10_adds mi_X10_adds ly_61 (ct_Mo_adds hX.sane (g.1 63 ((((9 : Int32) * x2) + (1 : Int32)) + x6).toNatClampNeg) g) rfl rfl rfl) (fun g4 => ?_)
      refine zi_iincb6 (pc := 234) hX dX10_speaks_234 (kn_1 _) rfl rfl (fun v5 => ?_)
      refine zi_goto (pc := 237) 202 hX dX10_speaks_237 (by decide) ?_
      exact ih v5 g4
theorem zp_Mo_speaks_148 {X : et_X} {w : et_W} (hX : et_Gd X w cX10_speaks RX10 7 (none) [] rm_Mo_speaks) (x2 : Int32) (x3 : Int32) (x5 : Int32) : ∀ (n : Nat) (x6 : Int32) (g : et_G), et_Z X w 0 et_eU 148 [some (.ref (et_ad w 61)), none, some (.int x2), some (.int x3), none, some (.int x5), some (.int x6)] [] g (fn_Mo_speaks_148 x2 x3 x5 n x6 g) := by
  intro n
  induction n with
  | zero =>
    intro x6 g a g2 h
    cases h
  | succ n ih =>
    intro x6 g
    rw [fn_Mo_speaks_148]
    refine zi_iload3 (pc := 148) hX dX10_speaks_148 ?_
    refine zi_aload0 (pc := 149) hX dX10_speaks_149 ?_
    refine zi_geti (pc := 150) hX dX10_speaks_150 fl_1350 ly_61 rfl ?_
    refine zi_icmp_ge (pc := 153) 198 hX dX10_speaks_153 (by decide) (fun _ => ?_) (fun _ => ?_)
    · refine zi_iload5 (pc := 198) hX dX10_speaks_198 ?_
      refine zi_istore6 (pc := 200) hX dX10_speaks_200 rfl rfl ?_
      refine zi_drop (le_s (le_s (le_s (le_n (le_s (le_n (le_s le_nil))))))) ?_; exact zp_Mo_speaks_202 hX x2 1000000 x5 g
    · refine zi_iload6 (pc := 156) hX dX10_speaks_156 ?_
      refine zi_aload0 (pc := 158) hX dX10_speaks_158 ?_
      refine zi_getr (q := 64) (pc := 159) hX dX10_speaks_159 fl_1357 ly_61 rfl ?_
      refine zi_bipush (pc := 162) hX dX10_speaks_162 kb_27 ?_
      refine zi_iload3 (pc := 164) hX dX10_speaks_164 ?_
      refine zi_imul (pc := 165) hX dX10_speaks_165 ?_
      refine zi_bipush (pc := 166) hX dX10_speaks_166 kb_18 ?_
      refine zi_iadd (pc := 168) hX dX10_speaks_168 ?_
      refine zi_iald (pc := 169) hX dX10_speaks_169 ly_64 ?_
      refine zi_icmp_ge (pc := 170) 198 hX dX10_speaks_170 (by decide) (fun _ => ?_) (fun _ => ?_)
      · refine zi_iload5 (pc := 198) hX dX10_speaks_198 ?_
        refine zi_istore6 (pc := 200) hX dX10_speaks_200 rfl rfl ?_
        refine zi_drop (le_s (le_s (le_s (le_n (le_s (le_n (le_s le_nil))))))) ?_; exact zp_Mo_speaks_202 hX x2 1000000 x5 g
      · refine zi_aload0 (pc := 173) hX dX10_speaks_173 ?_
        refine zi_aload0 (pc := 174) hX dX10_speaks_174 ?_
        refine zi_getr (q := 64) (pc := 175) hX dX10_speaks_175 fl_1357 ly_61 rfl ?_
        refine zi_bipush (pc := 178) hX dX10_speaks_178 kb_27 ?_
        refine zi_iload3 (pc := 180) hX dX10_speaks_180 ?_
        refine zi_imul (pc := 181) hX dX10_speaks_181 ?_
        refine zi_bipush (pc := 182) hX dX10_speaks_182 kb_19 ?_
        refine zi_iadd (pc := 184) hX dX10_speaks_184 ?_
        refine zi_iload6 (pc := 185) hX dX10_speaks_185 ?_
        refine zi_iadd (pc := 187) hX dX10_speaks_187 ?_
        refine zi_iald (pc := 188) hX dX10_speaks_188 ly_64 ?_
        refine zi_callU (zc_virt (pc := 189) hX dX10_speaks_189 tm_1721 md_X10_adds mi_X10_adds ly_61 (ct_Mo_adds hX.sane (g.1 64 ((((27 : Int32) * x3) + (19 : Int32)) + x6).toNatClampNeg) g) rfl rfl rfl) (fun g7 => ?_)
        refine zi_iincb6 (pc := 192) hX dX10_speaks_192 (kn_1 _) rfl rfl (fun v8 => ?_)
        refine zi_goto (pc := 195) 148 hX dX10_speaks_195 (by decide) ?_
        exact ih v8 g7
theorem zp_Mo_speaks_104 {X : et_X} {w : et_W} (hX : et_Gd X w cX10_speaks RX10 7 (none) [] rm_Mo_speaks) (x1 : Int32) (x2 : Int32) (x3 : Int32) (x4 : Int32) (x5 : Int32) : ∀ (n : Nat) (x6 : Int32) (g : et_G), et_Z X w 0 et_eU 104 [some (.ref (et_ad w 61)), some (.int x1), some (.int x2), some (.int x3), some (.int x4), some (.int x5), some (.int x6)] [] g (fn_Mo_speaks_104 x1 x2 x3 x4 x5 n x6 g) := by
  intro n
  induction n with
  | zero =>
    intro x6 g a g2 h
    cases h
  | succ n ih =>
    intro x6 g
    rw [fn_Mo_speaks_104]
    refine zi_iload6 (pc := 104) hX dX10_speaks_104 ?_
    refine zi_aload0 (pc := 106) hX dX10_speaks_106 ?_
    refine zi_getr (q := 62) (pc := 107) hX dX10_speaks_107 fl_1355 ly_61 rfl ?_
    refine zi_bipush (pc := 110) hX dX10_speaks_110 kb_9 ?_
    refine zi_iload1 (pc := 112) hX dX10_speaks_112 ?_
    refine zi_imul (pc := 113) hX dX10_speaks_113 ?_
    refine zi_iald (pc := 114) hX dX10_speaks_114 ly_62 ?_
    refine zi_iload4 (pc := 115) hX dX10_speaks_115 ?_
    refine zi_isub (pc := 117) hX dX10_speaks_117 ?_
    refine zi_icmp_ge (pc := 118) 145 hX dX10_speaks_118 (by decide) (fun _ => ?_) (fun _ => ?_)
    · refine zi_iconst (pc := 145) hX dX10_speaks_145 ki_0 ?_
      refine zi_istore6 (pc := 146) hX dX10_speaks_146 rfl rfl ?_
      refine zi_drop (le_s (le_n (le_s (le_s (le_n (le_s (le_s le_nil))))))) ?_; exact zp_Mo_speaks_148 hX x2 x3 x5 1000000 (0 : Int32) g
    · refine zi_aload0 (pc := 121) hX dX10_speaks_121 ?_
      refine zi_aload0 (pc := 122) hX dX10_speaks_122 ?_
      refine zi_getr (q := 62) (pc := 123) hX dX10_speaks_123 fl_1355 ly_61 rfl ?_
      refine zi_bipush (pc := 126) hX dX10_speaks_126 kb_9 ?_
      refine zi_iload1 (pc := 128) hX dX10_speaks_128 ?_
      refine zi_imul (pc := 129) hX dX10_speaks_129 ?_
      refine zi_iconst (pc := 130) hX dX10_speaks_130 ki_1 ?_
      refine zi_iadd (pc := 131) hX dX10_speaks_131 ?_
      refine zi_iload6 (pc := 132) hX dX10_speaks_132 ?_
      refine zi_iadd (pc := 134) hX dX10_speaks_134 ?_
      refine zi_iald (pc := 135) hX dX10_speaks_135 ly_62 ?_
      refine zi_callU (zc_virt (pc := 136) hX dX10_speaks_136 tm_1721 md_X10_adds mi_X10_adds ly_61 (ct_Mo_adds hX.sane (g.1 62 ((((9 : Int32) * x1) + (1 : Int32)) + x6).toNatClampNeg) g) rfl rfl rfl) (fun g10 => ?_)
      refine zi_iincb6 (pc := 139) hX dX10_speaks_139 (kn_1 _) rfl rfl (fun v11 => ?_)
      refine zi_goto (pc := 142) 104 hX dX10_speaks_142 (by decide) ?_
      exact ih v11 g10
theorem zp_Mo_speaks_73 {X : et_X} {w : et_W} (hX : et_Gd X w cX10_speaks RX10 7 (none) [] rm_Mo_speaks) (x1 : Int32) (x2 : Int32) (x3 : Int32) (s0 : Int32) (g : et_G) : et_Z X w 0 et_eU 73 [some (.ref (et_ad w 61)), some (.int x1), some (.int x2), some (.int x3), none, none, none] [.int s0] g (fn_Mo_speaks_73 x1 x2 x3 s0 g) := by
  unfold fn_Mo_speaks_73
  refine zi_istore4 (pc := 73) hX dX10_speaks_73 rfl rfl ?_
  refine zi_iload3 (pc := 75) hX dX10_speaks_75 ?_
  refine zi_aload0 (pc := 76) hX dX10_speaks_76 ?_
  refine zi_geti (pc := 77) hX dX10_speaks_77 fl_1350 ly_61 rfl ?_
  refine zi_icmp_ne (pc := 80) 87 hX dX10_speaks_80 (by decide) (fun _ => ?_) (fun _ => ?_)
  · refine zi_iconst (pc := 83) hX dX10_speaks_83 ki_0 ?_
    refine zi_goto (pc := 84) 99 hX dX10_speaks_84 (by decide) ?_
    refine zi_istore5 (pc := 99) hX dX10_speaks_99 rfl rfl ?_
    refine zi_iconst (pc := 101) hX dX10_speaks_101 ki_0 ?_
    refine zi_istore6 (pc := 102) hX dX10_speaks_102 rfl rfl ?_
    exact zp_Mo_speaks_104 hX x1 x2 x3 s0 (0 : Int32) 1000000 (0 : Int32) g
  · refine zi_aload0 (pc := 87) hX dX10_speaks_87 ?_
    refine zi_getr (q := 64) (pc := 88) hX dX10_speaks_88 fl_1357 ly_61 rfl ?_
    refine zi_bipush (pc := 91) hX dX10_speaks_91 kb_27 ?_
    refine zi_iload3 (pc := 93) hX dX10_speaks_93 ?_
    refine zi_imul (pc := 94) hX dX10_speaks_94 ?_
    refine zi_bipush (pc := 95) hX dX10_speaks_95 kb_9 ?_
    refine zi_iadd (pc := 97) hX dX10_speaks_97 ?_
    refine zi_iald (pc := 98) hX dX10_speaks_98 ly_64 ?_
    refine zi_bi (fun v2 => ?_)
    refine zi_istore5 (pc := 99) hX dX10_speaks_99 rfl rfl ?_
    refine zi_iconst (pc := 101) hX dX10_speaks_101 ki_0 ?_
    refine zi_istore6 (pc := 102) hX dX10_speaks_102 rfl rfl ?_
    exact zp_Mo_speaks_104 hX x1 x2 x3 s0 v2 1000000 (0 : Int32) g
theorem zp_Mo_speaks_52 {X : et_X} {w : et_W} (hX : et_Gd X w cX10_speaks RX10 7 (none) [] rm_Mo_speaks) (x1 : Int32) (x2 : Int32) (x3 : Int32) (g : et_G) : et_Z X w 0 et_eU 52 [some (.ref (et_ad w 61)), some (.int x1), some (.int x2), some (.int x3), none, none, none] [] g (fn_Mo_speaks_52 x1 x2 x3 g) := by
  unfold fn_Mo_speaks_52
  refine zi_iload3 (pc := 52) hX dX10_speaks_52 ?_
  refine zi_aload0 (pc := 53) hX dX10_speaks_53 ?_
  refine zi_geti (pc := 54) hX dX10_speaks_54 fl_1350 ly_61 rfl ?_
  refine zi_icmp_ne (pc := 57) 64 hX dX10_speaks_57 (by decide) (fun _ => ?_) (fun _ => ?_)
  · refine zi_iconst (pc := 60) hX dX10_speaks_60 ki_0 ?_
    refine zi_goto (pc := 61) 73 hX dX10_speaks_61 (by decide) ?_
    exact zp_Mo_speaks_73 hX x1 x2 x3 (0 : Int32) g
  · refine zi_aload0 (pc := 64) hX dX10_speaks_64 ?_
    refine zi_getr (q := 64) (pc := 65) hX dX10_speaks_65 fl_1357 ly_61 rfl ?_
    refine zi_bipush (pc := 68) hX dX10_speaks_68 kb_27 ?_
    refine zi_iload3 (pc := 70) hX dX10_speaks_70 ?_
    refine zi_imul (pc := 71) hX dX10_speaks_71 ?_
    refine zi_iald (pc := 72) hX dX10_speaks_72 ly_64 ?_
    exact zp_Mo_speaks_73 hX x1 x2 x3 (g.1 64 ((27 : Int32) * x3).toNatClampNeg) g
theorem zp_Mo_speaks_20 {X : et_X} {w : et_W} (hX : et_Gd X w cX10_speaks RX10 7 (none) [] rm_Mo_speaks) (x1 : Int32) (x2 : Int32) : ∀ (n : Nat) (x3 : Int32) (g : et_G), et_Z X w 0 et_eU 20 [some (.ref (et_ad w 61)), some (.int x1), some (.int x2), some (.int x3), none, none, none] [] g (fn_Mo_speaks_20 x1 x2 n x3 g) := by
  intro n
  induction n with
  | zero =>
    intro x3 g a g2 h
    cases h
  | succ n ih =>
    intro x3 g
    rw [fn_Mo_speaks_20]
    refine zi_iload3 (pc := 20) hX dX10_speaks_20 ?_
    refine zi_aload0 (pc := 21) hX dX10_speaks_21 ?_
    refine zi_geti (pc := 22) hX dX10_speaks_22 fl_1350 ly_61 rfl ?_
    refine zi_icmp_ge (pc := 25) 52 hX dX10_speaks_25 (by decide) (fun _ => ?_) (fun _ => ?_)
    · exact zp_Mo_speaks_52 hX x1 x2 x3 g
    · refine zi_aload0 (pc := 28) hX dX10_speaks_28 ?_
      refine zi_iload1 (pc := 29) hX dX10_speaks_29 ?_
      refine zi_iload3 (pc := 30) hX dX10_speaks_30 ?_
      refine zi_callI (zc_virt (pc := 31) hX dX10_speaks_31 tm_1713 md_X10_ends mi_X10_ends ly_61 (ct_Mo_ends hX.sane x1 x3 g) rfl rfl rfl) (fun v12 g13 => ?_)
      refine zi_if_eq (pc := 34) 46 hX dX10_speaks_34 (by decide) (fun _ => ?_) (fun _ => ?_)
      · refine zi_iincb3 (pc := 46) hX dX10_speaks_46 (kn_1 _) rfl rfl (fun v14 => ?_)
        refine zi_goto (pc := 49) 20 hX dX10_speaks_49 (by decide) ?_
        exact ih v14 g13
      · refine zi_aload0 (pc := 37) hX dX10_speaks_37 ?_
        refine zi_iload2 (pc := 38) hX dX10_speaks_38 ?_
        refine zi_iload3 (pc := 39) hX dX10_speaks_39 ?_
        refine zi_callI (zc_virt (pc := 40) hX dX10_speaks_40 tm_1717 md_X10_begins mi_X10_begins ly_61 (ct_Mo_begins hX.sane x2 x3 g13) rfl rfl rfl) (fun v15 g16 => ?_)
        refine zi_if_ne (pc := 43) 52 hX dX10_speaks_43 (by decide) (fun _ => ?_) (fun _ => ?_)
        · refine zi_iincb3 (pc := 46) hX dX10_speaks_46 (kn_1 _) rfl rfl (fun v17 => ?_)
          refine zi_goto (pc := 49) 20 hX dX10_speaks_49 (by decide) ?_
          exact ih v17 g16
        · exact zp_Mo_speaks_52 hX x1 x2 x3 g16
theorem zw_Mo_speaks {X : et_X} {w : et_W} (hX : et_Gd X w cX10_speaks RX10 7 (none) [] rm_Mo_speaks) (p1 : Int32) (p2 : Int32) (g : et_G) : et_Z X w 0 et_eU 0 [some (.ref (et_ad w 61)), some (.int p1), some (.int p2), none, none, none, none] [] g (fn_Mo_speaks p1 p2 g) := by
  unfold fn_Mo_speaks
  refine zi_aload0 (pc := 0) hX dX10_speaks_0 ?_
  refine zi_iconst (pc := 1) hX dX10_speaks_1 ki_0 ?_
  refine zi_puti (pc := 2) hX dX10_speaks_2 fl_1396 ly_61 rfl rfl rfl (zi_bg (fun g1 => ?_))
  refine zi_aload0 (pc := 5) hX dX10_speaks_5 ?_
  refine zi_getr (q := 63) (pc := 6) hX dX10_speaks_6 fl_1356 ly_61 rfl ?_
  refine zi_bipush (pc := 9) hX dX10_speaks_9 kb_9 ?_
  refine zi_iload2 (pc := 11) hX dX10_speaks_11 ?_
  refine zi_imul (pc := 12) hX dX10_speaks_12 ?_
  refine zi_iald (pc := 13) hX dX10_speaks_13 ly_63 ?_
  refine zi_if_ne (pc := 14) 18 hX dX10_speaks_14 (by decide) (fun _ => ?_) (fun _ => ?_)
  · exact zi_vret (pc := 17) hX dX10_speaks_17 rfl rfl rfl
  · refine zi_iconst (pc := 18) hX dX10_speaks_18 ki_0 ?_
    refine zi_istore3 (pc := 19) hX dX10_speaks_19 rfl rfl ?_
    exact zp_Mo_speaks_20 hX p1 p2 1000000 (0 : Int32) g1
theorem ct_Mo_speaks {w : et_W} (hw : et_Sane w) (p1 : Int32) (p2 : Int32) (g : et_G) : et_C w yX10_speaks (Cond.code yX10_speaks cX10_speaks 7 (none)) rm_Mo_speaks et_eU [.ref (et_ad w 61), .int p1, .int p2] g (fn_Mo_speaks p1 p2 g) := et_mk hw (by decide) rfl rfl (fun X hX => zw_Mo_speaks hX p1 p2 g)
def rm_Mo_finds : Room := { frames := 2, cells := 0, slots := 0, locals := 51 }
def fn_Mo_finds_103 (r7 : Int32 → et_G → Option (Unit × et_G)) (x1 : Int32) (x2 : Int32) (x3 : Int32) (x4 : Int32) (g : et_G) : Option (Unit × et_G) :=
  if x4 = 0 then
    et_b (x3 + (1 : Int32)) (fun v7 =>
    r7 v7 g)
  else
    et_ck (et_ib (g.1 61 49) 180) (et_b (et_si g 83 (g.1 61 49).toNatClampNeg x3) (fun g4 =>
    et_b (et_si g4 61 49 ((g4.1 61 49) + (1 : Int32))) (fun g5 =>
    et_b (x3 + (1 : Int32)) (fun v6 =>
    r7 v6 g5))))
def fn_Mo_finds_57 (r7 : Int32 → et_G → Option (Unit × et_G)) (x1 : Int32) (x2 : Int32) (x3 : Int32) : Nat → Int32 → Int32 → et_G → Option (Unit × et_G)
  | 0, _, _, _ => none
  | n + 1, x4, x5, g =>
    if x4 = 0 then
      fn_Mo_finds_103 r7 x1 x2 x3 x4 g
    else
      if (g.1 61 48) ≤ x5 then
        fn_Mo_finds_103 r7 x1 x2 x3 x4 g
      else
        et_ck (et_ib x5 32) (
        et_ck (et_ib (x1 + x5) 800) (
        if (g.1 82 x5.toNatClampNeg) = (g.1 71 (x1 + x5).toNatClampNeg) then
          et_b (x5 + (1 : Int32)) (fun v9 =>
          fn_Mo_finds_57 r7 x1 x2 x3 n (1 : Int32) v9 g)
        else
          et_b (x5 + (1 : Int32)) (fun v8 =>
          fn_Mo_finds_57 r7 x1 x2 x3 n (0 : Int32) v8 g)))
def fn_Mo_finds_7 (x1 : Int32) (x2 : Int32) : Nat → Int32 → et_G → Option (Unit × et_G)
  | 0, _, _ => none
  | n + 1, x3, g =>
    if ((15 : Int32) * (g.1 61 1)) ≤ x3 then
      some ((), g)
    else
      et_bd (fn_Mo_speaks (x3 / (15 : Int32)) (x3 - x3 / (15 : Int32) * (15 : Int32)) g) (fun _ g3 =>
      if (g3.1 61 48) ≤ 0 then
        fn_Mo_finds_57 (fun z3 g => fn_Mo_finds_7 x1 x2 n z3 g) x1 x2 x3 1000000 (0 : Int32) (0 : Int32) g3
      else
        if (g3.1 61 48) = (x2 - x1) then
          fn_Mo_finds_57 (fun z3 g => fn_Mo_finds_7 x1 x2 n z3 g) x1 x2 x3 1000000 (1 : Int32) (0 : Int32) g3
        else
          fn_Mo_finds_57 (fun z3 g => fn_Mo_finds_7 x1 x2 n z3 g) x1 x2 x3 1000000 (0 : Int32) (0 : Int32) g3)
def fn_Mo_finds (p1 : Int32) (p2 : Int32) (g : et_G) : Option (Unit × et_G) :=
  et_b (et_si g 61 49 (0 : Int32)) (fun g1 =>
  fn_Mo_finds_7 p1 p2 1000000 (0 : Int32) g1)
theorem zp_Mo_finds_103 {X : et_X} {w : et_W} (hX : et_Gd X w cX10_finds RX10 6 (none) [] rm_Mo_finds) (r7 : Int32 → et_G → Option (Unit × et_G)) (x1 : Int32) (x2 : Int32) (x3 : Int32) (x4 : Int32) (hr7 : ∀ (y3 : Int32) (g : et_G), et_Z X w 0 et_eU 7 [some (.ref (et_ad w 61)), some (.int x1), some (.int x2), some (.int y3), none, none] [] g (r7 y3 g)) (g : et_G) : et_Z X w 0 et_eU 103 [some (.ref (et_ad w 61)), some (.int x1), some (.int x2), some (.int x3), some (.int x4), none] [] g (fn_Mo_finds_103 r7 x1 x2 x3 x4 g) := by
  unfold fn_Mo_finds_103
  refine zi_iload4 (pc := 103) hX dX10_finds_103 ?_
  refine zi_if_ne (pc := 105) 111 hX dX10_finds_105 (by decide) (fun _ => ?_) (fun _ => ?_)
  · refine zi_goto (pc := 108) 131 hX dX10_finds_108 (by decide) ?_
    refine zi_iincb3 (pc := 131) hX dX10_finds_131 (kn_1 _) rfl rfl (fun v7 => ?_)
    refine zi_goto (pc := 134) 7 hX dX10_finds_134 (by decide) ?_
    refine zi_drop (le_s (le_s (le_s (le_s (le_n (le_s le_nil)))))) ?_; exact hr7 v7 g
  · refine zi_aload0 (pc := 111) hX dX10_finds_111 ?_
    refine zi_getr (q := 83) (pc := 112) hX dX10_finds_112 fl_1395 ly_61 rfl ?_
    refine zi_aload0 (pc := 115) hX dX10_finds_115 ?_
    refine zi_geti (pc := 116) hX dX10_finds_116 fl_1397 ly_61 rfl ?_
    refine zi_iload3 (pc := 119) hX dX10_finds_119 ?_
    refine zi_iast (pc := 120) hX dX10_finds_120 ly_83 (zi_bg (fun g4 => ?_))
    refine zi_aload0 (pc := 121) hX dX10_finds_121 ?_
    refine zi_dup (pc := 122) hX dX10_finds_122 rfl ?_
    refine zi_geti (pc := 123) hX dX10_finds_123 fl_1397 ly_61 rfl ?_
    refine zi_iconst (pc := 126) hX dX10_finds_126 ki_1 ?_
    refine zi_iadd (pc := 127) hX dX10_finds_127 ?_
    refine zi_puti (pc := 128) hX dX10_finds_128 fl_1397 ly_61 rfl rfl rfl (zi_bg (fun g5 => ?_))
    refine zi_iincb3 (pc := 131) hX dX10_finds_131 (kn_1 _) rfl rfl (fun v6 => ?_)
    refine zi_goto (pc := 134) 7 hX dX10_finds_134 (by decide) ?_
    refine zi_drop (le_s (le_s (le_s (le_s (le_n (le_s le_nil)))))) ?_; exact hr7 v6 g5
theorem zp_Mo_finds_57 {X : et_X} {w : et_W} (hX : et_Gd X w cX10_finds RX10 6 (none) [] rm_Mo_finds) (r7 : Int32 → et_G → Option (Unit × et_G)) (x1 : Int32) (x2 : Int32) (x3 : Int32) (hr7 : ∀ (y3 : Int32) (g : et_G), et_Z X w 0 et_eU 7 [some (.ref (et_ad w 61)), some (.int x1), some (.int x2), some (.int y3), none, none] [] g (r7 y3 g)) : ∀ (n : Nat) (x4 : Int32) (x5 : Int32) (g : et_G), et_Z X w 0 et_eU 57 [some (.ref (et_ad w 61)), some (.int x1), some (.int x2), some (.int x3), some (.int x4), some (.int x5)] [] g (fn_Mo_finds_57 r7 x1 x2 x3 n x4 x5 g) := by
  intro n
  induction n with
  | zero =>
    intro x4 x5 g a g2 h
    cases h
  | succ n ih =>
    intro x4 x5 g
    rw [fn_Mo_finds_57]
    refine zi_iload4 (pc := 57) hX dX10_finds_57 ?_
    refine zi_if_eq (pc := 59) 103 hX dX10_finds_59 (by decide) (fun _ => ?_) (fun _ => ?_)
    · refine zi_drop (le_s (le_s (le_s (le_s (le_s (le_n le_nil)))))) ?_; exact zp_Mo_finds_103 hX r7 x1 x2 x3 x4 hr7 g
    · refine zi_iload5 (pc := 62) hX dX10_finds_62 ?_
      refine zi_aload0 (pc := 64) hX dX10_finds_64 ?_
      refine zi_geti (pc := 65) hX dX10_finds_65 fl_1396 ly_61 rfl ?_
      refine zi_icmp_ge (pc := 68) 103 hX dX10_finds_68 (by decide) (fun _ => ?_) (fun _ => ?_)
      · refine zi_drop (le_s (le_s (le_s (le_s (le_s (le_n le_nil)))))) ?_; exact zp_Mo_finds_103 hX r7 x1 x2 x3 x4 hr7 g
      · refine zi_aload0 (pc := 71) hX dX10_finds_71 ?_
        refine zi_getr (q := 82) (pc := 72) hX dX10_finds_72 fl_1394 ly_61 rfl ?_
        refine zi_iload5 (pc := 75) hX dX10_finds_75 ?_
        refine zi_iald (pc := 77) hX dX10_finds_77 ly_82 ?_
        refine zi_aload0 (pc := 78) hX dX10_finds_78 ?_
        refine zi_getr (q := 71) (pc := 79) hX dX10_finds_79 fl_1364 ly_61 rfl ?_
        refine zi_iload1 (pc := 82) hX dX10_finds_82 ?_
        refine zi_iload5 (pc := 83) hX dX10_finds_83 ?_
        refine zi_iadd (pc := 85) hX dX10_finds_85 ?_
        refine zi_iald (pc := 86) hX dX10_finds_86 ly_71 ?_
        refine zi_icmp_ne (pc := 87) 94 hX dX10_finds_87 (by decide) (fun _ => ?_) (fun _ => ?_)
        · refine zi_iconst (pc := 90) hX dX10_finds_90 ki_1 ?_
          refine zi_goto (pc := 91) 95 hX dX10_finds_91 (by decide) ?_
          refine zi_istore4 (pc := 95) hX dX10_finds_95 rfl rfl ?_
          refine zi_iincb5 (pc := 97) hX dX10_finds_97 (kn_1 _) rfl rfl (fun v9 => ?_)
          refine zi_goto (pc := 100) 57 hX dX10_finds_100 (by decide) ?_
          exact ih (1 : Int32) v9 g
        · refine zi_iconst (pc := 94) hX dX10_finds_94 ki_0 ?_
          refine zi_istore4 (pc := 95) hX dX10_finds_95 rfl rfl ?_
          refine zi_iincb5 (pc := 97) hX dX10_finds_97 (kn_1 _) rfl rfl (fun v8 => ?_)
          refine zi_goto (pc := 100) 57 hX dX10_finds_100 (by decide) ?_
          exact ih (0 : Int32) v8 g
theorem zp_Mo_finds_7 {X : et_X} {w : et_W} (hX : et_Gd X w cX10_finds RX10 6 (none) [] rm_Mo_finds) (x1 : Int32) (x2 : Int32) : ∀ (n : Nat) (x3 : Int32) (g : et_G), et_Z X w 0 et_eU 7 [some (.ref (et_ad w 61)), some (.int x1), some (.int x2), some (.int x3), none, none] [] g (fn_Mo_finds_7 x1 x2 n x3 g) := by
  intro n
  induction n with
  | zero =>
    intro x3 g a g2 h
    cases h
  | succ n ih =>
    intro x3 g
    rw [fn_Mo_finds_7]
    refine zi_iload3 (pc := 7) hX dX10_finds_7 ?_
    refine zi_bipush (pc := 8) hX dX10_finds_8 kb_15 ?_
    refine zi_aload0 (pc := 10) hX dX10_finds_10 ?_
    refine zi_geti (pc := 11) hX dX10_finds_11 fl_1349 ly_61 rfl ?_
    refine zi_imul (pc := 14) hX dX10_finds_14 ?_
    refine zi_icmp_ge (pc := 15) 137 hX dX10_finds_15 (by decide) (fun _ => ?_) (fun _ => ?_)
    · exact zi_vret (pc := 137) hX dX10_finds_137 rfl rfl rfl
    · refine zi_aload0 (pc := 18) hX dX10_finds_18 ?_
      refine zi_iload3 (pc := 19) hX dX10_finds_19 ?_
      refine zi_bipush (pc := 20) hX dX10_finds_20 kb_15 ?_
      refine zi_idiv (pc := 22) hX dX10_finds_22 (by decide) ?_
      refine zi_iload3 (pc := 23) hX dX10_finds_23 ?_
      refine zi_bipush (pc := 24) hX dX10_finds_24 kb_15 ?_
      refine zi_irem (pc := 26) hX dX10_finds_26 (by decide) ?_
      refine zi_callU (zc_virt (pc := 27) hX dX10_finds_27 tm_1709 md_X10_speaks mi_X10_speaks ly_61 (ct_Mo_speaks hX.sane (x3 / (15 : Int32)) (x3 - x3 / (15 : Int32) * (15 : Int32)) g) rfl rfl rfl) (fun g3 => ?_)
      refine zi_aload0 (pc := 30) hX dX10_finds_30 ?_
      refine zi_geti (pc := 31) hX dX10_finds_31 fl_1396 ly_61 rfl ?_
      refine zi_if_le (pc := 34) 51 hX dX10_finds_34 (by decide) (fun _ => ?_) (fun _ => ?_)
      · refine zi_iconst (pc := 51) hX dX10_finds_51 ki_0 ?_
        refine zi_istore4 (pc := 52) hX dX10_finds_52 rfl rfl ?_
        refine zi_iconst (pc := 54) hX dX10_finds_54 ki_0 ?_
        refine zi_istore5 (pc := 55) hX dX10_finds_55 rfl rfl ?_
        exact zp_Mo_finds_57 hX (fun z3 g => fn_Mo_finds_7 x1 x2 n z3 g) x1 x2 x3 (fun z3 g => ih z3 g) 1000000 (0 : Int32) (0 : Int32) g3
      · refine zi_aload0 (pc := 37) hX dX10_finds_37 ?_
        refine zi_geti (pc := 38) hX dX10_finds_38 fl_1396 ly_61 rfl ?_
        refine zi_iload2 (pc := 41) hX dX10_finds_41 ?_
        refine zi_iload1 (pc := 42) hX dX10_finds_42 ?_
        refine zi_isub (pc := 43) hX dX10_finds_43 ?_
        refine zi_icmp_ne (pc := 44) 51 hX dX10_finds_44 (by decide) (fun _ => ?_) (fun _ => ?_)
        · refine zi_iconst (pc := 47) hX dX10_finds_47 ki_1 ?_
          refine zi_goto (pc := 48) 52 hX dX10_finds_48 (by decide) ?_
          refine zi_istore4 (pc := 52) hX dX10_finds_52 rfl rfl ?_
          refine zi_iconst (pc := 54) hX dX10_finds_54 ki_0 ?_
          refine zi_istore5 (pc := 55) hX dX10_finds_55 rfl rfl ?_
          exact zp_Mo_finds_57 hX (fun z3 g => fn_Mo_finds_7 x1 x2 n z3 g) x1 x2 x3 (fun z3 g => ih z3 g) 1000000 (1 : Int32) (0 : Int32) g3
        · refine zi_iconst (pc := 51) hX dX10_finds_51 ki_0 ?_
          refine zi_istore4 (pc := 52) hX dX10_finds_52 rfl rfl ?_
          refine zi_iconst (pc := 54) hX dX10_finds_54 ki_0 ?_
          refine zi_istore5 (pc := 55) hX dX10_finds_55 rfl rfl ?_
          exact zp_Mo_finds_57 hX (fun z3 g => fn_Mo_finds_7 x1 x2 n z3 g) x1 x2 x3 (fun z3 g => ih z3 g) 1000000 (0 : Int32) (0 : Int32) g3
theorem zw_Mo_finds {X : et_X} {w : et_W} (hX : et_Gd X w cX10_finds RX10 6 (none) [] rm_Mo_finds) (p1 : Int32) (p2 : Int32) (g : et_G) : et_Z X w 0 et_eU 0 [some (.ref (et_ad w 61)), some (.int p1), some (.int p2), none, none, none] [] g (fn_Mo_finds p1 p2 g) := by
  unfold fn_Mo_finds
  refine zi_aload0 (pc := 0) hX dX10_finds_0 ?_
  refine zi_iconst (pc := 1) hX dX10_finds_1 ki_0 ?_
  refine zi_puti (pc := 2) hX dX10_finds_2 fl_1397 ly_61 rfl rfl rfl (zi_bg (fun g1 => ?_))
  refine zi_iconst (pc := 5) hX dX10_finds_5 ki_0 ?_
  refine zi_istore3 (pc := 6) hX dX10_finds_6 rfl rfl ?_
  exact zp_Mo_finds_7 hX p1 p2 1000000 (0 : Int32) g1
theorem ct_Mo_finds {w : et_W} (hw : et_Sane w) (p1 : Int32) (p2 : Int32) (g : et_G) : et_C w yX10_finds (Cond.code yX10_finds cX10_finds 6 (none)) rm_Mo_finds et_eU [.ref (et_ad w 61), .int p1, .int p2] g (fn_Mo_finds p1 p2 g) := et_mk hw (by decide) rfl rfl (fun X hX => zw_Mo_finds hX p1 p2 g)
def rm_Mo_apart : Room := { frames := 3, cells := 0, slots := 0, locals := 76 }
def fn_Mo_apart_23 (x1 : Int32) (s0 : Int32) (g : et_G) : Option (Int32 × et_G) :=
  et_bd (fn_Mo_right s0 (1 : Int32) g) (fun v2 g3 =>
  if v2 = 0 then
    some ((0 : Int32), g3)
  else
    et_b (et_si g3 61 17 (0 : Int32)) (fun g4 =>
    et_bd (fn_Mo_finds (0 : Int32) x1 g4) (fun _ g6 =>
    some (g6.1 61 49, g6))))
def fn_Mo_apart_22 (x1 : Int32) (g : et_G) : Option (Int32 × et_G) :=
  fn_Mo_apart_23 x1 (0 : Int32) g
def fn_Mo_apart (p1 : Int32) (g : et_G) : Option (Int32 × et_G) :=
  et_b (et_si g 61 0 (0 : Int32)) (fun g1 =>
  if p1 < 0 then
    fn_Mo_apart_22 p1 g1
  else
    if (g1.1 61 17) < p1 then
      fn_Mo_apart_22 p1 g1
    else
      fn_Mo_apart_23 p1 (1 : Int32) g1)
theorem zp_Mo_apart_23 {X : et_X} {w : et_W} (hX : et_Gd X w cX10_apart RX10 2 (some .int) [] rm_Mo_apart) (x1 : Int32) (s0 : Int32) (g : et_G) : et_Z X w 0 et_eI 23 [some (.ref (et_ad w 61)), some (.int x1)] [.int s0, .ref (et_ad w 61)] g (fn_Mo_apart_23 x1 s0 g) := by
  unfold fn_Mo_apart_23
  refine zi_iconst (pc := 23) hX dX10_apart_23 ki_1 ?_
  refine zi_callI (zc_virt (pc := 24) hX dX10_apart_24 tm_1587 md_X10_right mi_X10_right ly_61 (ct_Mo_right hX.sane s0 (1 : Int32) g) rfl rfl rfl) (fun v2 g3 => ?_)
  refine zi_if_ne (pc := 27) 32 hX dX10_apart_27 (by decide) (fun _ => ?_) (fun _ => ?_)
  · refine zi_iconst (pc := 30) hX dX10_apart_30 ki_0 ?_
    exact zi_ret (pc := 31) hX dX10_apart_31 rfl rfl rfl rfl
  · refine zi_aload0 (pc := 32) hX dX10_apart_32 ?_
    refine zi_iconst (pc := 33) hX dX10_apart_33 ki_0 ?_
    refine zi_puti (pc := 34) hX dX10_apart_34 fl_1365 ly_61 rfl rfl rfl (zi_bg (fun g4 => ?_))
    refine zi_aload0 (pc := 37) hX dX10_apart_37 ?_
    refine zi_iconst (pc := 38) hX dX10_apart_38 ki_0 ?_
    refine zi_iload1 (pc := 39) hX dX10_apart_39 ?_
    refine zi_callU (zc_virt (pc := 40) hX dX10_apart_40 tm_1729 md_X10_finds mi_X10_finds ly_61 (ct_Mo_finds hX.sane (0 : Int32) x1 g4) rfl rfl rfl) (fun g6 => ?_)
    refine zi_aload0 (pc := 43) hX dX10_apart_43 ?_
    refine zi_geti (pc := 44) hX dX10_apart_44 fl_1397 ly_61 rfl ?_
    exact zi_ret (pc := 47) hX dX10_apart_47 rfl rfl rfl rfl
theorem zp_Mo_apart_22 {X : et_X} {w : et_W} (hX : et_Gd X w cX10_apart RX10 2 (some .int) [] rm_Mo_apart) (x1 : Int32) (g : et_G) : et_Z X w 0 et_eI 22 [some (.ref (et_ad w 61)), some (.int x1)] [.ref (et_ad w 61)] g (fn_Mo_apart_22 x1 g) := by
  unfold fn_Mo_apart_22
  refine zi_iconst (pc := 22) hX dX10_apart_22 ki_0 ?_
  exact zp_Mo_apart_23 hX x1 (0 : Int32) g
theorem zw_Mo_apart {X : et_X} {w : et_W} (hX : et_Gd X w cX10_apart RX10 2 (some .int) [] rm_Mo_apart) (p1 : Int32) (g : et_G) : et_Z X w 0 et_eI 0 [some (.ref (et_ad w 61)), some (.int p1)] [] g (fn_Mo_apart p1 g) := by
  unfold fn_Mo_apart
  refine zi_aload0 (pc := 0) hX dX10_apart_0 ?_
  refine zi_iconst (pc := 1) hX dX10_apart_1 ki_0 ?_
  refine zi_puti (pc := 2) hX dX10_apart_2 fl_1348 ly_61 rfl rfl rfl (zi_bg (fun g1 => ?_))
  refine zi_aload0 (pc := 5) hX dX10_apart_5 ?_
  refine zi_iload1 (pc := 6) hX dX10_apart_6 ?_
  refine zi_if_lt (pc := 7) 22 hX dX10_apart_7 (by decide) (fun _ => ?_) (fun _ => ?_)
  · exact zp_Mo_apart_22 hX p1 g1
  · refine zi_iload1 (pc := 10) hX dX10_apart_10 ?_
    refine zi_aload0 (pc := 11) hX dX10_apart_11 ?_
    refine zi_geti (pc := 12) hX dX10_apart_12 fl_1365 ly_61 rfl ?_
    refine zi_icmp_gt (pc := 15) 22 hX dX10_apart_15 (by decide) (fun _ => ?_) (fun _ => ?_)
    · exact zp_Mo_apart_22 hX p1 g1
    · refine zi_iconst (pc := 18) hX dX10_apart_18 ki_1 ?_
      refine zi_goto (pc := 19) 23 hX dX10_apart_19 (by decide) ?_
      exact zp_Mo_apart_23 hX p1 (1 : Int32) g1
theorem ct_Mo_apart {w : et_W} (hw : et_Sane w) (p1 : Int32) (g : et_G) : et_C w yX10_apart (Cond.code yX10_apart cX10_apart 2 (some .int)) rm_Mo_apart et_eI [.ref (et_ad w 61), .int p1] g (fn_Mo_apart p1 g) := et_mk hw (by decide) rfl rfl (fun X hX => zw_Mo_apart hX p1 g)
def rm_Mo_within : Room := { frames := 0, cells := 0, slots := 0, locals := 0 }
def fn_Mo_within (p0 : Int32) (p1 : Int32) (p2 : Int32) (g : et_G) : Option (Int32 × et_G) :=
  if p0 < p1 then
    some ((0 : Int32), g)
  else
    if p2 < p0 then
      some ((0 : Int32), g)
    else
      some ((1 : Int32), g)
theorem zw_Mo_within {X : et_X} {w : et_W} (hX : et_Gd X w cX10_within RX10 3 (some .boolean) [] rm_Mo_within) (p0 : Int32) (p1 : Int32) (p2 : Int32) (g : et_G) : et_Z X w 0 et_eI 0 [some (.int p0), some (.int p1), some (.int p2)] [] g (fn_Mo_within p0 p1 p2 g) := by
  unfold fn_Mo_within
  refine zi_iload0 (pc := 0) hX dX10_within_0 ?_
  refine zi_iload1 (pc := 1) hX dX10_within_1 ?_
  refine zi_icmp_lt (pc := 2) 14 hX dX10_within_2 (by decide) (fun _ => ?_) (fun _ => ?_)
  · refine zi_iconst (pc := 14) hX dX10_within_14 ki_0 ?_
    exact zi_ret (pc := 15) hX dX10_within_15 et_z0 rfl rfl rfl
  · refine zi_iload0 (pc := 5) hX dX10_within_5 ?_
    refine zi_iload2 (pc := 6) hX dX10_within_6 ?_
    refine zi_icmp_gt (pc := 7) 14 hX dX10_within_7 (by decide) (fun _ => ?_) (fun _ => ?_)
    · refine zi_iconst (pc := 14) hX dX10_within_14 ki_0 ?_
      exact zi_ret (pc := 15) hX dX10_within_15 et_z0 rfl rfl rfl
    · refine zi_iconst (pc := 10) hX dX10_within_10 ki_1 ?_
      refine zi_goto (pc := 11) 15 hX dX10_within_11 (by decide) ?_
      exact zi_ret (pc := 15) hX dX10_within_15 et_z1 rfl rfl rfl
theorem ct_Mo_within {w : et_W} (hw : et_Sane w) (p0 : Int32) (p1 : Int32) (p2 : Int32) (g : et_G) : et_C w yX10_within (Cond.code yX10_within cX10_within 3 (some .boolean)) rm_Mo_within et_eI [.int p0, .int p1, .int p2] g (fn_Mo_within p0 p1 p2 g) := et_mk hw (by decide) rfl rfl (fun X hX => zw_Mo_within hX p0 p1 p2 g)
def rm_Mo_isWho : Room := { frames := 1, cells := 0, slots := 0, locals := 22 }
def fn_Mo_isWho_28 (s0 : Int32) (g : et_G) : Option (Int32 × et_G) :=
  et_bd (fn_Mo_right s0 (1 : Int32) g) (fun v1 g2 =>
  some (v1 &&& 1, g2))
def fn_Mo_isWho_27 (g : et_G) : Option (Int32 × et_G) :=
  fn_Mo_isWho_28 (0 : Int32) g
def fn_Mo_isWho (p1 : Int32) (p2 : Int32) (g : et_G) : Option (Int32 × et_G) :=
  if p1 < 0 then
    fn_Mo_isWho_27 g
  else
    if (g.1 61 4) ≤ p1 then
      fn_Mo_isWho_27 g
    else
      et_bd (fn_Mo_within p2 (0 : Int32) (23 : Int32) g) (fun v3 g4 =>
      if v3 = 0 then
        fn_Mo_isWho_27 g4
      else
        fn_Mo_isWho_28 (1 : Int32) g4)
theorem zp_Mo_isWho_28 {X : et_X} {w : et_W} (hX : et_Gd X w cX10_isWho RX10 3 (some .boolean) [] rm_Mo_isWho) (s0 : Int32) (g : et_G) : et_Z X w 0 et_eI 28 [none, none, none] [.int s0, .ref (et_ad w 61)] g (fn_Mo_isWho_28 s0 g) := by
  unfold fn_Mo_isWho_28
  refine zi_iconst (pc := 28) hX dX10_isWho_28 ki_1 ?_
  refine zi_callI (zc_virt (pc := 29) hX dX10_isWho_29 tm_1587 md_X10_right mi_X10_right ly_61 (ct_Mo_right hX.sane s0 (1 : Int32) g) rfl rfl rfl) (fun v1 g2 => ?_)
  exact zi_ret (pc := 32) hX dX10_isWho_32 rfl rfl rfl rfl
theorem zp_Mo_isWho_27 {X : et_X} {w : et_W} (hX : et_Gd X w cX10_isWho RX10 3 (some .boolean) [] rm_Mo_isWho) (g : et_G) : et_Z X w 0 et_eI 27 [none, none, none] [.ref (et_ad w 61)] g (fn_Mo_isWho_27 g) := by
  unfold fn_Mo_isWho_27
  refine zi_iconst (pc := 27) hX dX10_isWho_27 ki_0 ?_
  exact zp_Mo_isWho_28 hX (0 : Int32) g
theorem zw_Mo_isWho {X : et_X} {w : et_W} (hX : et_Gd X w cX10_isWho RX10 3 (some .boolean) [] rm_Mo_isWho) (p1 : Int32) (p2 : Int32) (g : et_G) : et_Z X w 0 et_eI 0 [some (.ref (et_ad w 61)), some (.int p1), some (.int p2)] [] g (fn_Mo_isWho p1 p2 g) := by
  unfold fn_Mo_isWho
  refine zi_aload0 (pc := 0) hX dX10_isWho_0 ?_
  refine zi_iload1 (pc := 1) hX dX10_isWho_1 ?_
  refine zi_if_lt (pc := 2) 27 hX dX10_isWho_2 (by decide) (fun _ => ?_) (fun _ => ?_)
  · refine zi_drop (le_n (le_n (le_n le_nil))) ?_; exact zp_Mo_isWho_27 hX g
  · refine zi_iload1 (pc := 5) hX dX10_isWho_5 ?_
    refine zi_aload0 (pc := 6) hX dX10_isWho_6 ?_
    refine zi_geti (pc := 7) hX dX10_isWho_7 fl_1352 ly_61 rfl ?_
    refine zi_icmp_ge (pc := 10) 27 hX dX10_isWho_10 (by decide) (fun _ => ?_) (fun _ => ?_)
    · refine zi_drop (le_n (le_n (le_n le_nil))) ?_; exact zp_Mo_isWho_27 hX g
    · refine zi_iload2 (pc := 13) hX dX10_isWho_13 ?_
      refine zi_iconst (pc := 14) hX dX10_isWho_14 ki_0 ?_
      refine zi_bipush (pc := 15) hX dX10_isWho_15 kb_23 ?_
      refine zi_callI (zc_stat (pc := 17) hX dX10_isWho_17 tm_1683 md_X10_within st_X10_within (ct_Mo_within hX.sane p2 (0 : Int32) (23 : Int32) g) rfl rfl rfl) (fun v3 g4 => ?_)
      refine zi_if_eq (pc := 20) 27 hX dX10_isWho_20 (by decide) (fun _ => ?_) (fun _ => ?_)
      · refine zi_drop (le_n (le_n (le_n le_nil))) ?_; exact zp_Mo_isWho_27 hX g4
      · refine zi_iconst (pc := 23) hX dX10_isWho_23 ki_1 ?_
        refine zi_goto (pc := 24) 28 hX dX10_isWho_24 (by decide) ?_
        refine zi_drop (le_n (le_n (le_n le_nil))) ?_; exact zp_Mo_isWho_28 hX (1 : Int32) g4
theorem ct_Mo_isWho {w : et_W} (hw : et_Sane w) (p1 : Int32) (p2 : Int32) (g : et_G) : et_C w yX10_isWho (Cond.code yX10_isWho cX10_isWho 3 (some .boolean)) rm_Mo_isWho et_eI [.ref (et_ad w 61), .int p1, .int p2] g (fn_Mo_isWho p1 p2 g) := et_mk hw (by decide) rfl rfl (fun X hX => zw_Mo_isWho hX p1 p2 g)
def rm_Mo_isThing : Room := { frames := 1, cells := 0, slots := 0, locals := 22 }
def fn_Mo_isThing_18 (s0 : Int32) (g : et_G) : Option (Int32 × et_G) :=
  et_bd (fn_Mo_right s0 (1 : Int32) g) (fun v1 g2 =>
  some (v1 &&& 1, g2))
def fn_Mo_isThing_17 (g : et_G) : Option (Int32 × et_G) :=
  fn_Mo_isThing_18 (0 : Int32) g
def fn_Mo_isThing (p1 : Int32) (g : et_G) : Option (Int32 × et_G) :=
  if p1 < 0 then
    fn_Mo_isThing_17 g
  else
    if (g.1 61 5) ≤ p1 then
      fn_Mo_isThing_17 g
    else
      fn_Mo_isThing_18 (1 : Int32) g
theorem zp_Mo_isThing_18 {X : et_X} {w : et_W} (hX : et_Gd X w cX10_isThing RX10 2 (some .boolean) [] rm_Mo_isThing) (s0 : Int32) (g : et_G) : et_Z X w 0 et_eI 18 [none, none] [.int s0, .ref (et_ad w 61)] g (fn_Mo_isThing_18 s0 g) := by
  unfold fn_Mo_isThing_18
  refine zi_iconst (pc := 18) hX dX10_isThing_18 ki_1 ?_
  refine zi_callI (zc_virt (pc := 19) hX dX10_isThing_19 tm_1587 md_X10_right mi_X10_right ly_61 (ct_Mo_right hX.sane s0 (1 : Int32) g) rfl rfl rfl) (fun v1 g2 => ?_)
  exact zi_ret (pc := 22) hX dX10_isThing_22 rfl rfl rfl rfl
theorem zp_Mo_isThing_17 {X : et_X} {w : et_W} (hX : et_Gd X w cX10_isThing RX10 2 (some .boolean) [] rm_Mo_isThing) (g : et_G) : et_Z X w 0 et_eI 17 [none, none] [.ref (et_ad w 61)] g (fn_Mo_isThing_17 g) := by
  unfold fn_Mo_isThing_17
  refine zi_iconst (pc := 17) hX dX10_isThing_17 ki_0 ?_
  exact zp_Mo_isThing_18 hX (0 : Int32) g
theorem zw_Mo_isThing {X : et_X} {w : et_W} (hX : et_Gd X w cX10_isThing RX10 2 (some .boolean) [] rm_Mo_isThing) (p1 : Int32) (g : et_G) : et_Z X w 0 et_eI 0 [some (.ref (et_ad w 61)), some (.int p1)] [] g (fn_Mo_isThing p1 g) := by
  unfold fn_Mo_isThing
  refine zi_aload0 (pc := 0) hX dX10_isThing_0 ?_
  refine zi_iload1 (pc := 1) hX dX10_isThing_1 ?_
  refine zi_if_lt (pc := 2) 17 hX dX10_isThing_2 (by decide) (fun _ => ?_) (fun _ => ?_)
  · refine zi_drop (le_n (le_n le_nil)) ?_; exact zp_Mo_isThing_17 hX g
  · refine zi_iload1 (pc := 5) hX dX10_isThing_5 ?_
    refine zi_aload0 (pc := 6) hX dX10_isThing_6 ?_
    refine zi_geti (pc := 7) hX dX10_isThing_7 fl_1353 ly_61 rfl ?_
    refine zi_icmp_ge (pc := 10) 17 hX dX10_isThing_10 (by decide) (fun _ => ?_) (fun _ => ?_)
    · refine zi_drop (le_n (le_n le_nil)) ?_; exact zp_Mo_isThing_17 hX g
    · refine zi_iconst (pc := 13) hX dX10_isThing_13 ki_1 ?_
      refine zi_goto (pc := 14) 18 hX dX10_isThing_14 (by decide) ?_
      refine zi_drop (le_n (le_n le_nil)) ?_; exact zp_Mo_isThing_18 hX (1 : Int32) g
theorem ct_Mo_isThing {w : et_W} (hw : et_Sane w) (p1 : Int32) (g : et_G) : et_C w yX10_isThing (Cond.code yX10_isThing cX10_isThing 2 (some .boolean)) rm_Mo_isThing et_eI [.ref (et_ad w 61), .int p1] g (fn_Mo_isThing p1 g) := et_mk hw (by decide) rfl rfl (fun X hX => zw_Mo_isThing hX p1 g)
def rm_Mo_pairAt : Room := { frames := 0, cells := 0, slots := 0, locals := 0 }
def fn_Mo_pairAt_38 (x1 : Int32) (x2 : Int32) (g : et_G) : Option (Int32 × et_G) :=
  et_ck (et_ib (g.1 61 59) 21) (et_b (et_si g 88 (g.1 61 59).toNatClampNeg x1) (fun g1 =>
  et_ck (et_ib (g1.1 61 59) 21) (et_b (et_si g1 89 (g1.1 61 59).toNatClampNeg x2) (fun g2 =>
  et_b (et_si g2 61 59 ((g2.1 61 59) + (1 : Int32))) (fun g3 =>
  some ((g3.1 61 59) - (1 : Int32), g3))))))
def fn_Mo_pairAt_2 (x1 : Int32) (x2 : Int32) : Nat → Int32 → et_G → Option (Int32 × et_G)
  | 0, _, _ => none
  | n + 1, x3, g =>
    if (g.1 61 59) ≤ x3 then
      fn_Mo_pairAt_38 x1 x2 g
    else
      et_ck (et_ib x3 21) (
      if (g.1 88 x3.toNatClampNeg) = x1 then
        et_ck (et_ib x3 21) (
        if (g.1 89 x3.toNatClampNeg) = x2 then
          some (x3, g)
        else
          et_b (x3 + (1 : Int32)) (fun v5 =>
          fn_Mo_pairAt_2 x1 x2 n v5 g))
      else
        et_b (x3 + (1 : Int32)) (fun v4 =>
        fn_Mo_pairAt_2 x1 x2 n v4 g))
def fn_Mo_pairAt (p1 : Int32) (p2 : Int32) (g : et_G) : Option (Int32 × et_G) :=
  fn_Mo_pairAt_2 p1 p2 1000000 (0 : Int32) g
theorem zp_Mo_pairAt_38 {X : et_X} {w : et_W} (hX : et_Gd X w cX10_pairAt RX10 4 (some .int) [] rm_Mo_pairAt) (x1 : Int32) (x2 : Int32) (g : et_G) : et_Z X w 0 et_eI 38 [some (.ref (et_ad w 61)), some (.int x1), some (.int x2), none] [] g (fn_Mo_pairAt_38 x1 x2 g) := by
  unfold fn_Mo_pairAt_38
  refine zi_aload0 (pc := 38) hX dX10_pairAt_38 ?_
  refine zi_getr (q := 88) (pc := 39) hX dX10_pairAt_39 fl_1403 ly_61 rfl ?_
  refine zi_aload0 (pc := 42) hX dX10_pairAt_42 ?_
  refine zi_geti (pc := 43) hX dX10_pairAt_43 fl_1407 ly_61 rfl ?_
  refine zi_iload1 (pc := 46) hX dX10_pairAt_46 ?_
  refine zi_iast (pc := 47) hX dX10_pairAt_47 ly_88 (zi_bg (fun g1 => ?_))
  refine zi_aload0 (pc := 48) hX dX10_pairAt_48 ?_
  refine zi_getr (q := 89) (pc := 49) hX dX10_pairAt_49 fl_1404 ly_61 rfl ?_
  refine zi_aload0 (pc := 52) hX dX10_pairAt_52 ?_
  refine zi_geti (pc := 53) hX dX10_pairAt_53 fl_1407 ly_61 rfl ?_
  refine zi_iload2 (pc := 56) hX dX10_pairAt_56 ?_
  refine zi_iast (pc := 57) hX dX10_pairAt_57 ly_89 (zi_bg (fun g2 => ?_))
  refine zi_aload0 (pc := 58) hX dX10_pairAt_58 ?_
  refine zi_dup (pc := 59) hX dX10_pairAt_59 rfl ?_
  refine zi_geti (pc := 60) hX dX10_pairAt_60 fl_1407 ly_61 rfl ?_
  refine zi_iconst (pc := 63) hX dX10_pairAt_63 ki_1 ?_
  refine zi_iadd (pc := 64) hX dX10_pairAt_64 ?_
  refine zi_puti (pc := 65) hX dX10_pairAt_65 fl_1407 ly_61 rfl rfl rfl (zi_bg (fun g3 => ?_))
  refine zi_aload0 (pc := 68) hX dX10_pairAt_68 ?_
  refine zi_geti (pc := 69) hX dX10_pairAt_69 fl_1407 ly_61 rfl ?_
  refine zi_iconst (pc := 72) hX dX10_pairAt_72 ki_1 ?_
  refine zi_isub (pc := 73) hX dX10_pairAt_73 ?_
  exact zi_ret (pc := 74) hX dX10_pairAt_74 rfl rfl rfl rfl
theorem zp_Mo_pairAt_2 {X : et_X} {w : et_W} (hX : et_Gd X w cX10_pairAt RX10 4 (some .int) [] rm_Mo_pairAt) (x1 : Int32) (x2 : Int32) : ∀ (n : Nat) (x3 : Int32) (g : et_G), et_Z X w 0 et_eI 2 [some (.ref (et_ad w 61)), some (.int x1), some (.int x2), some (.int x3)] [] g (fn_Mo_pairAt_2 x1 x2 n x3 g) := by
  intro n
  induction n with
  | zero =>
    intro x3 g a g2 h
    cases h
  | succ n ih =>
    intro x3 g
    rw [fn_Mo_pairAt_2]
    refine zi_iload3 (pc := 2) hX dX10_pairAt_2 ?_
    refine zi_aload0 (pc := 3) hX dX10_pairAt_3 ?_
    refine zi_geti (pc := 4) hX dX10_pairAt_4 fl_1407 ly_61 rfl ?_
    refine zi_icmp_ge (pc := 7) 38 hX dX10_pairAt_7 (by decide) (fun _ => ?_) (fun _ => ?_)
    · refine zi_drop (le_s (le_s (le_s (le_n le_nil)))) ?_; exact zp_Mo_pairAt_38 hX x1 x2 g
    · refine zi_aload0 (pc := 10) hX dX10_pairAt_10 ?_
      refine zi_getr (q := 88) (pc := 11) hX dX10_pairAt_11 fl_1403 ly_61 rfl ?_
      refine zi_iload3 (pc := 14) hX dX10_pairAt_14 ?_
      refine zi_iald (pc := 15) hX dX10_pairAt_15 ly_88 ?_
      refine zi_iload1 (pc := 16) hX dX10_pairAt_16 ?_
      refine zi_icmp_ne (pc := 17) 32 hX dX10_pairAt_17 (by decide) (fun _ => ?_) (fun _ => ?_)
      · refine zi_aload0 (pc := 20) hX dX10_pairAt_20 ?_
        refine zi_getr (q := 89) (pc := 21) hX dX10_pairAt_21 fl_1404 ly_61 rfl ?_
        refine zi_iload3 (pc := 24) hX dX10_pairAt_24 ?_
        refine zi_iald (pc := 25) hX dX10_pairAt_25 ly_89 ?_
        refine zi_iload2 (pc := 26) hX dX10_pairAt_26 ?_
        refine zi_icmp_ne (pc := 27) 32 hX dX10_pairAt_27 (by decide) (fun _ => ?_) (fun _ => ?_)
        · refine zi_iload3 (pc := 30) hX dX10_pairAt_30 ?_
          exact zi_ret (pc := 31) hX dX10_pairAt_31 rfl rfl rfl rfl
        · refine zi_iincb3 (pc := 32) hX dX10_pairAt_32 (kn_1 _) rfl rfl (fun v5 => ?_)
          refine zi_goto (pc := 35) 2 hX dX10_pairAt_35 (by decide) ?_
          exact ih v5 g
      · refine zi_iincb3 (pc := 32) hX dX10_pairAt_32 (kn_1 _) rfl rfl (fun v4 => ?_)
        refine zi_goto (pc := 35) 2 hX dX10_pairAt_35 (by decide) ?_
        exact ih v4 g
theorem zw_Mo_pairAt {X : et_X} {w : et_W} (hX : et_Gd X w cX10_pairAt RX10 4 (some .int) [] rm_Mo_pairAt) (p1 : Int32) (p2 : Int32) (g : et_G) : et_Z X w 0 et_eI 0 [some (.ref (et_ad w 61)), some (.int p1), some (.int p2), none] [] g (fn_Mo_pairAt p1 p2 g) := by
  unfold fn_Mo_pairAt
  refine zi_iconst (pc := 0) hX dX10_pairAt_0 ki_0 ?_
  refine zi_istore3 (pc := 1) hX dX10_pairAt_1 rfl rfl ?_
  exact zp_Mo_pairAt_2 hX p1 p2 1000000 (0 : Int32) g
theorem ct_Mo_pairAt {w : et_W} (hw : et_Sane w) (p1 : Int32) (p2 : Int32) (g : et_G) : et_C w yX10_pairAt (Cond.code yX10_pairAt cX10_pairAt 4 (some .int)) rm_Mo_pairAt et_eI [.ref (et_ad w 61), .int p1, .int p2] g (fn_Mo_pairAt p1 p2 g) := et_mk hw (by decide) rfl rfl (fun X hX => zw_Mo_pairAt hX p1 p2 g)
def rm_Mo_of : Room := { frames := 0, cells := 0, slots := 0, locals := 0 }
def fn_Mo_of (p1 : Int32) (p2 : Int32) (g : et_G) : Option (Int32 × et_G) :=
  et_ck (et_ib (((5 : Int32) * p1) + p2) 100) (
  some (g.1 84 (((5 : Int32) * p1) + p2).toNatClampNeg, g))
theorem zw_Mo_of {X : et_X} {w : et_W} (hX : et_Gd X w cX10_of RX10 3 (some .int) [] rm_Mo_of) (p1 : Int32) (p2 : Int32) (g : et_G) : et_Z X w 0 et_eI 0 [some (.ref (et_ad w 61)), some (.int p1), some (.int p2)] [] g (fn_Mo_of p1 p2 g) := by
  unfold fn_Mo_of
  refine zi_aload0 (pc := 0) hX dX10_of_0 ?_
  refine zi_getr (q := 84) (pc := 1) hX dX10_of_1 fl_1399 ly_61 rfl ?_
  refine zi_iconst (pc := 4) hX dX10_of_4 ki_5 ?_
  refine zi_iload1 (pc := 5) hX dX10_of_5 ?_
  refine zi_imul (pc := 6) hX dX10_of_6 ?_
  refine zi_iload2 (pc := 7) hX dX10_of_7 ?_
  refine zi_iadd (pc := 8) hX dX10_of_8 ?_
  refine zi_iald (pc := 9) hX dX10_of_9 ly_84 ?_
  exact zi_ret (pc := 10) hX dX10_of_10 rfl rfl rfl rfl
theorem ct_Mo_of {w : et_W} (hw : et_Sane w) (p1 : Int32) (p2 : Int32) (g : et_G) : et_C w yX10_of (Cond.code yX10_of cX10_of 3 (some .int)) rm_Mo_of et_eI [.ref (et_ad w 61), .int p1, .int p2] g (fn_Mo_of p1 p2 g) := et_mk hw (by decide) rfl rfl (fun X hX => zw_Mo_of hX p1 p2 g)
def rm_Mo_asks : Room := { frames := 1, cells := 0, slots := 0, locals := 23 }
def fn_Mo_asks_43 (x1 : Int32) (x2 : Int32) (g : et_G) : Option (Unit × et_G) :=
  if x1 = (-1 : Int32) then
    some ((), g)
  else
    et_bd (fn_Mo_pairAt x1 x2 g) (fun v2 g3 =>
    some ((), g3))
def fn_Mo_asks_7 (x1 : Int32) (x2 : Int32) : Nat → Int32 → et_G → Option (Unit × et_G)
  | 0, _, _ => none
  | n + 1, x3, g =>
    if (g.1 61 50) ≤ x3 then
      fn_Mo_asks_43 x1 x2 g
    else
      et_bd (fn_Mo_of x3 (0 : Int32) g) (fun v4 g5 =>
      et_bd (fn_Mo_of x3 (1 : Int32) g5) (fun v6 g7 =>
      et_bd (fn_Mo_pairAt v4 v6 g7) (fun v8 g9 =>
      et_ck (et_ib x3 20) (et_b (et_si g9 90 x3.toNatClampNeg v8) (fun g10 =>
      et_b (x3 + (1 : Int32)) (fun v11 =>
      fn_Mo_asks_7 x1 x2 n v11 g10))))))
def fn_Mo_asks (p1 : Int32) (p2 : Int32) (g : et_G) : Option (Unit × et_G) :=
  et_b (et_si g 61 59 (0 : Int32)) (fun g1 =>
  fn_Mo_asks_7 p1 p2 1000000 (0 : Int32) g1)
theorem zp_Mo_asks_43 {X : et_X} {w : et_W} (hX : et_Gd X w cX10_asks RX10 4 (none) [] rm_Mo_asks) (x1 : Int32) (x2 : Int32) (g : et_G) : et_Z X w 0 et_eU 43 [some (.ref (et_ad w 61)), some (.int x1), some (.int x2), none] [] g (fn_Mo_asks_43 x1 x2 g) := by
  unfold fn_Mo_asks_43
  refine zi_iload1 (pc := 43) hX dX10_asks_43 ?_
  refine zi_iconst (pc := 44) hX dX10_asks_44 ki_m1 ?_
  refine zi_icmp_eq (pc := 45) 55 hX dX10_asks_45 (by decide) (fun _ => ?_) (fun _ => ?_)
  · exact zi_vret (pc := 55) hX dX10_asks_55 rfl rfl rfl
  · refine zi_aload0 (pc := 48) hX dX10_asks_48 ?_
    refine zi_iload1 (pc := 49) hX dX10_asks_49 ?_
    refine zi_iload2 (pc := 50) hX dX10_asks_50 ?_
    refine zi_callI (zc_virt (pc := 51) hX dX10_asks_51 tm_1781 md_X10_pairAt mi_X10_pairAt ly_61 (ct_Mo_pairAt hX.sane x1 x2 g) rfl rfl rfl) (fun v2 g3 => ?_)
    refine zi_pop (pc := 54) hX dX10_asks_54 rfl ?_
    exact zi_vret (pc := 55) hX dX10_asks_55 rfl rfl rfl
theorem zp_Mo_asks_7 {X : et_X} {w : et_W} (hX : et_Gd X w cX10_asks RX10 4 (none) [] rm_Mo_asks) (x1 : Int32) (x2 : Int32) : ∀ (n : Nat) (x3 : Int32) (g : et_G), et_Z X w 0 et_eU 7 [some (.ref (et_ad w 61)), some (.int x1), some (.int x2), some (.int x3)] [] g (fn_Mo_asks_7 x1 x2 n x3 g) := by
  intro n
  induction n with
  | zero =>
    intro x3 g a g2 h
    cases h
  | succ n ih =>
    intro x3 g
    rw [fn_Mo_asks_7]
    refine zi_iload3 (pc := 7) hX dX10_asks_7 ?_
    refine zi_aload0 (pc := 8) hX dX10_asks_8 ?_
    refine zi_geti (pc := 9) hX dX10_asks_9 fl_1398 ly_61 rfl ?_
    refine zi_icmp_ge (pc := 12) 43 hX dX10_asks_12 (by decide) (fun _ => ?_) (fun _ => ?_)
    · refine zi_drop (le_s (le_s (le_s (le_n le_nil)))) ?_; exact zp_Mo_asks_43 hX x1 x2 g
    · refine zi_aload0 (pc := 15) hX dX10_asks_15 ?_
      refine zi_getr (q := 90) (pc := 16) hX dX10_asks_16 fl_1405 ly_61 rfl ?_
      refine zi_iload3 (pc := 19) hX dX10_asks_19 ?_
      refine zi_aload0 (pc := 20) hX dX10_asks_20 ?_
      refine zi_aload0 (pc := 21) hX dX10_asks_21 ?_
      refine zi_iload3 (pc := 22) hX dX10_asks_22 ?_
      refine zi_iconst (pc := 23) hX dX10_asks_23 ki_0 ?_
      refine zi_callI (zc_virt (pc := 24) hX dX10_asks_24 tm_1773 md_X10_of mi_X10_of ly_61 (ct_Mo_of hX.sane x3 (0 : Int32) g) rfl rfl rfl) (fun v4 g5 => ?_)
      refine zi_aload0 (pc := 27) hX dX10_asks_27 ?_
      refine zi_iload3 (pc := 28) hX dX10_asks_28 ?_
      refine zi_iconst (pc := 29) hX dX10_asks_29 ki_1 ?_
      refine zi_callI (zc_virt (pc := 30) hX dX10_asks_30 tm_1773 md_X10_of mi_X10_of ly_61 (ct_Mo_of hX.sane x3 (1 : Int32) g5) rfl rfl rfl) (fun v6 g7 => ?_)
      refine zi_callI (zc_virt (pc := 33) hX dX10_asks_33 tm_1781 md_X10_pairAt mi_X10_pairAt ly_61 (ct_Mo_pairAt hX.sane v4 v6 g7) rfl rfl rfl) (fun v8 g9 => ?_)
      refine zi_iast (pc := 36) hX dX10_asks_36 ly_90 (zi_bg (fun g10 => ?_))
      refine zi_iincb3 (pc := 37) hX dX10_asks_37 (kn_1 _) rfl rfl (fun v11 => ?_)
      refine zi_goto (pc := 40) 7 hX dX10_asks_40 (by decide) ?_
      exact ih v11 g10
theorem zw_Mo_asks {X : et_X} {w : et_W} (hX : et_Gd X w cX10_asks RX10 4 (none) [] rm_Mo_asks) (p1 : Int32) (p2 : Int32) (g : et_G) : et_Z X w 0 et_eU 0 [some (.ref (et_ad w 61)), some (.int p1), some (.int p2), none] [] g (fn_Mo_asks p1 p2 g) := by
  unfold fn_Mo_asks
  refine zi_aload0 (pc := 0) hX dX10_asks_0 ?_
  refine zi_iconst (pc := 1) hX dX10_asks_1 ki_0 ?_
  refine zi_puti (pc := 2) hX dX10_asks_2 fl_1407 ly_61 rfl rfl rfl (zi_bg (fun g1 => ?_))
  refine zi_iconst (pc := 5) hX dX10_asks_5 ki_0 ?_
  refine zi_istore3 (pc := 6) hX dX10_asks_6 rfl rfl ?_
  exact zp_Mo_asks_7 hX p1 p2 1000000 (0 : Int32) g1
theorem ct_Mo_asks {w : et_W} (hw : et_Sane w) (p1 : Int32) (p2 : Int32) (g : et_G) : et_C w yX10_asks (Cond.code yX10_asks cX10_asks 4 (none)) rm_Mo_asks et_eU [.ref (et_ad w 61), .int p1, .int p2] g (fn_Mo_asks p1 p2 g) := et_mk hw (by decide) rfl rfl (fun X hX => zw_Mo_asks hX p1 p2 g)
def rm_Mo_all : Room := { frames := 0, cells := 0, slots := 0, locals := 0 }
def fn_Mo_all (g : et_G) : Option (Int32 × et_G) :=
  some (((1 : Int32) <<< ((g.1 61 50) &&& 31)) - (1 : Int32), g)
theorem zw_Mo_all {X : et_X} {w : et_W} (hX : et_Gd X w cX10_all RX10 1 (some .int) [] rm_Mo_all) (g : et_G) : et_Z X w 0 et_eI 0 [some (.ref (et_ad w 61))] [] g (fn_Mo_all g) := by
  unfold fn_Mo_all
  refine zi_iconst (pc := 0) hX dX10_all_0 ki_1 ?_
  refine zi_aload0 (pc := 1) hX dX10_all_1 ?_
  refine zi_geti (pc := 2) hX dX10_all_2 fl_1398 ly_61 rfl ?_
  refine zi_ishl (pc := 5) hX dX10_all_5 ?_
  refine zi_iconst (pc := 6) hX dX10_all_6 ki_1 ?_
  refine zi_isub (pc := 7) hX dX10_all_7 ?_
  exact zi_ret (pc := 8) hX dX10_all_8 rfl rfl rfl rfl
theorem ct_Mo_all {w : et_W} (hw : et_Sane w) (g : et_G) : et_C w yX10_all (Cond.code yX10_all cX10_all 1 (some .int)) rm_Mo_all et_eI [.ref (et_ad w 61)] g (fn_Mo_all g) := et_mk hw (by decide) rfl rfl (fun X hX => zw_Mo_all hX g)
def rm_Mo_isBy : Room := { frames := 0, cells := 0, slots := 0, locals := 0 }
def fn_Mo_isBy (p1 : Int32) (p2 : Int32) (p3 : Int32) (p4 : Int32) (p5 : Int32) (g : et_G) : Option (Int32 × et_G) :=
  et_ck (et_ib (((5 : Int32) * p3) + (2 : Int32)) 40) (
  et_ck (et_ib (((24 : Int32) * p1) + (g.1 66 (((5 : Int32) * p3) + (2 : Int32)).toNatClampNeg)) 144) (
  et_b (g.1 69 (((24 : Int32) * p1) + (g.1 66 (((5 : Int32) * p3) + (2 : Int32)).toNatClampNeg)).toNatClampNeg) (fun v1 =>
  et_ck (et_ib (((5 : Int32) * p3) + (2 : Int32)) 40) (
  if (g.1 66 (((5 : Int32) * p3) + (2 : Int32)).toNatClampNeg) ≤ p2 then
    if p5 = 0 then
      et_ck (et_ib (((5 : Int32) * p3) + (1 : Int32)) 40) (
      if v1 = (g.1 66 (((5 : Int32) * p3) + (1 : Int32)).toNatClampNeg) then
        et_ck (et_ib (((5 : Int32) * p3) + (4 : Int32)) 40) (
        if (g.1 66 (((5 : Int32) * p3) + (4 : Int32)).toNatClampNeg) = p4 then
          some ((1 : Int32), g)
        else
          some ((0 : Int32), g))
      else
        some ((0 : Int32), g))
    else
      if p4 = 0 then
        et_ck (et_ib (((5 : Int32) * p3) + (3 : Int32)) 40) (
        if (g.1 66 (((5 : Int32) * p3) + (3 : Int32)).toNatClampNeg) = (1 : Int32) then
          et_ck (et_ib (((5 : Int32) * p3) + (4 : Int32)) 40) (
          if (g.1 66 (((5 : Int32) * p3) + (4 : Int32)).toNatClampNeg) = 0 then
            et_ck (et_ib v1 6) (
            et_ck (et_ib (((5 : Int32) * p3) + (1 : Int32)) 40) (
            if (((g.1 68 v1.toNatClampNeg) >>> ((g.1 66 (((5 : Int32) * p3) + (1 : Int32)).toNatClampNeg) &&& 31)) &&& (1 : Int32)) = (1 : Int32) then
              some ((1 : Int32), g)
            else
              some ((0 : Int32), g)))
          else
            some ((0 : Int32), g))
        else
          some ((0 : Int32), g))
      else
        some ((0 : Int32), g)
  else
    some ((0 : Int32), g)))))
theorem zw_Mo_isBy {X : et_X} {w : et_W} (hX : et_Gd X w cX10_isBy RX10 7 (some .boolean) [] rm_Mo_isBy) (p1 : Int32) (p2 : Int32) (p3 : Int32) (p4 : Int32) (p5 : Int32) (g : et_G) : et_Z X w 0 et_eI 0 [some (.ref (et_ad w 61)), some (.int p1), some (.int p2), some (.int p3), some (.int p4), some (.int p5), none] [] g (fn_Mo_isBy p1 p2 p3 p4 p5 g) := by
  unfold fn_Mo_isBy
  refine zi_aload0 (pc := 0) hX dX10_isBy_0 ?_
  refine zi_getr (q := 69) (pc := 1) hX dX10_isBy_1 fl_1362 ly_61 rfl ?_
  refine zi_bipush (pc := 4) hX dX10_isBy_4 kb_24 ?_
  refine zi_iload1 (pc := 6) hX dX10_isBy_6 ?_
  refine zi_imul (pc := 7) hX dX10_isBy_7 ?_
  refine zi_aload0 (pc := 8) hX dX10_isBy_8 ?_
  refine zi_getr (q := 66) (pc := 9) hX dX10_isBy_9 fl_1359 ly_61 rfl ?_
  refine zi_iconst (pc := 12) hX dX10_isBy_12 ki_5 ?_
  refine zi_iload3 (pc := 13) hX dX10_isBy_13 ?_
  refine zi_imul (pc := 14) hX dX10_isBy_14 ?_
  refine zi_iconst (pc := 15) hX dX10_isBy_15 ki_2 ?_
  refine zi_iadd (pc := 16) hX dX10_isBy_16 ?_
  refine zi_iald (pc := 17) hX dX10_isBy_17 ly_66 ?_
  refine zi_iadd (pc := 18) hX dX10_isBy_18 ?_
  refine zi_iald (pc := 19) hX dX10_isBy_19 ly_69 ?_
  refine zi_bi (fun v1 => ?_)
  refine zi_istore6 (pc := 20) hX dX10_isBy_20 rfl rfl ?_
  refine zi_aload0 (pc := 22) hX dX10_isBy_22 ?_
  refine zi_getr (q := 66) (pc := 23) hX dX10_isBy_23 fl_1359 ly_61 rfl ?_
  refine zi_iconst (pc := 26) hX dX10_isBy_26 ki_5 ?_
  refine zi_iload3 (pc := 27) hX dX10_isBy_27 ?_
  refine zi_imul (pc := 28) hX dX10_isBy_28 ?_
  refine zi_iconst (pc := 29) hX dX10_isBy_29 ki_2 ?_
  refine zi_iadd (pc := 30) hX dX10_isBy_30 ?_
  refine zi_iald (pc := 31) hX dX10_isBy_31 ly_66 ?_
  refine zi_iload2 (pc := 32) hX dX10_isBy_32 ?_
  refine zi_icmp_le (pc := 33) 38 hX dX10_isBy_33 (by decide) (fun _ => ?_) (fun _ => ?_)
  · refine zi_iload5 (pc := 38) hX dX10_isBy_38 ?_
    refine zi_if_ne (pc := 40) 79 hX dX10_isBy_40 (by decide) (fun _ => ?_) (fun _ => ?_)
    · refine zi_iload6 (pc := 43) hX dX10_isBy_43 ?_
      refine zi_aload0 (pc := 45) hX dX10_isBy_45 ?_
      refine zi_getr (q := 66) (pc := 46) hX dX10_isBy_46 fl_1359 ly_61 rfl ?_
      refine zi_iconst (pc := 49) hX dX10_isBy_49 ki_5 ?_
      refine zi_iload3 (pc := 50) hX dX10_isBy_50 ?_
      refine zi_imul (pc := 51) hX dX10_isBy_51 ?_
      refine zi_iconst (pc := 52) hX dX10_isBy_52 ki_1 ?_
      refine zi_iadd (pc := 53) hX dX10_isBy_53 ?_
      refine zi_iald (pc := 54) hX dX10_isBy_54 ly_66 ?_
      refine zi_icmp_ne (pc := 55) 77 hX dX10_isBy_55 (by decide) (fun _ => ?_) (fun _ => ?_)
      · refine zi_aload0 (pc := 58) hX dX10_isBy_58 ?_
        refine zi_getr (q := 66) (pc := 59) hX dX10_isBy_59 fl_1359 ly_61 rfl ?_
        refine zi_iconst (pc := 62) hX dX10_isBy_62 ki_5 ?_
        refine zi_iload3 (pc := 63) hX dX10_isBy_63 ?_
        refine zi_imul (pc := 64) hX dX10_isBy_64 ?_
        refine zi_iconst (pc := 65) hX dX10_isBy_65 ki_4 ?_
        refine zi_iadd (pc := 66) hX dX10_isBy_66 ?_
        refine zi_iald (pc := 67) hX dX10_isBy_67 ly_66 ?_
        refine zi_iload4 (pc := 68) hX dX10_isBy_68 ?_
        refine zi_icmp_ne (pc := 70) 77 hX dX10_isBy_70 (by decide) (fun _ => ?_) (fun _ => ?_)
        · refine zi_iconst (pc := 73) hX dX10_isBy_73 ki_1 ?_
          refine zi_goto (pc := 74) 78 hX dX10_isBy_74 (by decide) ?_
          exact zi_ret (pc := 78) hX dX10_isBy_78 et_z1 rfl rfl rfl
        · refine zi_iconst (pc := 77) hX dX10_isBy_77 ki_0 ?_
          exact zi_ret (pc := 78) hX dX10_isBy_78 et_z0 rfl rfl rfl
      · refine zi_iconst (pc := 77) hX dX10_isBy_77 ki_0 ?_
        exact zi_ret (pc := 78) hX dX10_isBy_78 et_z0 rfl rfl rfl
    · refine zi_iload4 (pc := 79) hX dX10_isBy_79 ?_
      refine zi_if_ne (pc := 81) 139 hX dX10_isBy_81 (by decide) (fun _ => ?_) (fun _ => ?_)
      · refine zi_aload0 (pc := 84) hX dX10_isBy_84 ?_
        refine zi_getr (q := 66) (pc := 85) hX dX10_isBy_85 fl_1359 ly_61 rfl ?_
        refine zi_iconst (pc := 88) hX dX10_isBy_88 ki_5 ?_
        refine zi_iload3 (pc := 89) hX dX10_isBy_89 ?_
        refine zi_imul (pc := 90) hX dX10_isBy_90 ?_
        refine zi_iconst (pc := 91) hX dX10_isBy_91 ki_3 ?_
        refine zi_iadd (pc := 92) hX dX10_isBy_92 ?_
        refine zi_iald (pc := 93) hX dX10_isBy_93 ly_66 ?_
        refine zi_iconst (pc := 94) hX dX10_isBy_94 ki_1 ?_
        refine zi_icmp_ne (pc := 95) 139 hX dX10_isBy_95 (by decide) (fun _ => ?_) (fun _ => ?_)
        · refine zi_aload0 (pc := 98) hX dX10_isBy_98 ?_
          refine zi_getr (q := 66) (pc := 99) hX dX10_isBy_99 fl_1359 ly_61 rfl ?_
          refine zi_iconst (pc := 102) hX dX10_isBy_102 ki_5 ?_
          refine zi_iload3 (pc := 103) hX dX10_isBy_103 ?_
          refine zi_imul (pc := 104) hX dX10_isBy_104 ?_
          refine zi_iconst (pc := 105) hX dX10_isBy_105 ki_4 ?_
          refine zi_iadd (pc := 106) hX dX10_isBy_106 ?_
          refine zi_iald (pc := 107) hX dX10_isBy_107 ly_66 ?_
          refine zi_if_ne (pc := 108) 139 hX dX10_isBy_108 (by decide) (fun _ => ?_) (fun _ => ?_)
          · refine zi_aload0 (pc := 111) hX dX10_isBy_111 ?_
            refine zi_getr (q := 68) (pc := 112) hX dX10_isBy_112 fl_1361 ly_61 rfl ?_
            refine zi_iload6 (pc := 115) hX dX10_isBy_115 ?_
            refine zi_iald (pc := 117) hX dX10_isBy_117 ly_68 ?_
            refine zi_aload0 (pc := 118) hX dX10_isBy_118 ?_
            refine zi_getr (q := 66) (pc := 119) hX dX10_isBy_119 fl_1359 ly_61 rfl ?_
            refine zi_iconst (pc := 122) hX dX10_isBy_122 ki_5 ?_
            refine zi_iload3 (pc := 123) hX dX10_isBy_123 ?_
            refine zi_imul (pc := 124) hX dX10_isBy_124 ?_
            refine zi_iconst (pc := 125) hX dX10_isBy_125 ki_1 ?_
            refine zi_iadd (pc := 126) hX dX10_isBy_126 ?_
            refine zi_iald (pc := 127) hX dX10_isBy_127 ly_66 ?_
            refine zi_ishr (pc := 128) hX dX10_isBy_128 ?_
            refine zi_iconst (pc := 129) hX dX10_isBy_129 ki_1 ?_
            refine zi_iand (pc := 130) hX dX10_isBy_130 ?_
            refine zi_iconst (pc := 131) hX dX10_isBy_131 ki_1 ?_
            refine zi_icmp_ne (pc := 132) 139 hX dX10_isBy_132 (by decide) (fun _ => ?_) (fun _ => ?_)
            · refine zi_iconst (pc := 135) hX dX10_isBy_135 ki_1 ?_
              refine zi_goto (pc := 136) 140 hX dX10_isBy_136 (by decide) ?_
              exact zi_ret (pc := 140) hX dX10_isBy_140 et_z1 rfl rfl rfl
            · refine zi_iconst (pc := 139) hX dX10_isBy_139 ki_0 ?_
              exact zi_ret (pc := 140) hX dX10_isBy_140 et_z0 rfl rfl rfl
          · refine zi_iconst (pc := 139) hX dX10_isBy_139 ki_0 ?_
            exact zi_ret (pc := 140) hX dX10_isBy_140 et_z0 rfl rfl rfl
        · refine zi_iconst (pc := 139) hX dX10_isBy_139 ki_0 ?_
          exact zi_ret (pc := 140) hX dX10_isBy_140 et_z0 rfl rfl rfl
      · refine zi_iconst (pc := 139) hX dX10_isBy_139 ki_0 ?_
        exact zi_ret (pc := 140) hX dX10_isBy_140 et_z0 rfl rfl rfl
  · refine zi_iconst (pc := 36) hX dX10_isBy_36 ki_0 ?_
    exact zi_ret (pc := 37) hX dX10_isBy_37 et_z0 rfl rfl rfl
theorem ct_Mo_isBy {w : et_W} (hw : et_Sane w) (p1 : Int32) (p2 : Int32) (p3 : Int32) (p4 : Int32) (p5 : Int32) (g : et_G) : et_C w yX10_isBy (Cond.code yX10_isBy cX10_isBy 7 (some .boolean)) rm_Mo_isBy et_eI [.ref (et_ad w 61), .int p1, .int p2, .int p3, .int p4, .int p5] g (fn_Mo_isBy p1 p2 p3 p4 p5 g) := et_mk hw (by decide) rfl rfl (fun X hX => zw_Mo_isBy hX p1 p2 p3 p4 p5 g)
def rm_Mo_byRules : Room := { frames := 0, cells := 0, slots := 0, locals := 0 }
def fn_Mo_byRules_102 (r7 : Int32 → Int32 → et_G → Option (Int32 × et_G)) (x1 : Int32) (x2 : Int32) (x3 : Int32) (x4 : Int32) (x5 : Int32) (g : et_G) : Option (Int32 × et_G) :=
  if x3 ≤ (x5 + (1 : Int32)) then
    et_b (x4 + (1 : Int32)) (fun v1 =>
    r7 x3 v1 g)
  else
    et_b (x5 + (1 : Int32)) (fun v2 =>
    et_b (x4 + (1 : Int32)) (fun v3 =>
    r7 v2 v3 g))
def fn_Mo_byRules_40 (r7 : Int32 → Int32 → et_G → Option (Int32 × et_G)) (x1 : Int32) (x2 : Int32) (x3 : Int32) (x4 : Int32) : Nat → Int32 → Int32 → et_G → Option (Int32 × et_G)
  | 0, _, _, _ => none
  | n + 1, x5, x6, g =>
    et_ck (et_ib ((5 : Int32) * x4) 30) (
    if (g.1 67 ((5 : Int32) * x4).toNatClampNeg) ≤ x6 then
      fn_Mo_byRules_102 r7 x1 x2 x3 x4 x5 g
    else
      et_ck (et_ib ((((5 : Int32) * x4) + (1 : Int32)) + x6) 30) (
      et_ck (et_ib (((8 : Int32) * x1) + (g.1 67 ((((5 : Int32) * x4) + (1 : Int32)) + x6).toNatClampNeg)) 168) (
      et_b (g.1 91 (((8 : Int32) * x1) + (g.1 67 ((((5 : Int32) * x4) + (1 : Int32)) + x6).toNatClampNeg)).toNatClampNeg) (fun v4 =>
      if v4 ≤ x5 then
        et_b (x6 + (1 : Int32)) (fun v5 =>
        fn_Mo_byRules_40 r7 x1 x2 x3 x4 n x5 v5 g)
      else
        et_b (x6 + (1 : Int32)) (fun v6 =>
        fn_Mo_byRules_40 r7 x1 x2 x3 x4 n v4 v6 g)))))
def fn_Mo_byRules_7 (x1 : Int32) (x2 : Int32) : Nat → Int32 → Int32 → et_G → Option (Int32 × et_G)
  | 0, _, _, _ => none
  | n + 1, x3, x4, g =>
    if (g.1 61 6) ≤ x4 then
      some (x3, g)
    else
      et_ck (et_ib (((5 : Int32) * x4) + (1 : Int32)) 30) (
      if (g.1 67 (((5 : Int32) * x4) + (1 : Int32)).toNatClampNeg) = x2 then
        fn_Mo_byRules_40 (fun z3 z4 g => fn_Mo_byRules_7 x1 x2 n z3 z4 g) x1 x2 x3 x4 1000000 (0 : Int32) (1 : Int32) g
      else
        et_b (x4 + (1 : Int32)) (fun v7 =>
        fn_Mo_byRules_7 x1 x2 n x3 v7 g))
def fn_Mo_byRules (p1 : Int32) (p2 : Int32) (g : et_G) : Option (Int32 × et_G) :=
  fn_Mo_byRules_7 p1 p2 1000000 (1000 : Int32) (0 : Int32) g
theorem zp_Mo_byRules_102 {X : et_X} {w : et_W} (hX : et_Gd X w cX10_byRules RX10 8 (some .int) [] rm_Mo_byRules) (r7 : Int32 → Int32 → et_G → Option (Int32 × et_G)) (x1 : Int32) (x2 : Int32) (x3 : Int32) (x4 : Int32) (x5 : Int32) (hr7 : ∀ (y3 : Int32) (y4 : Int32) (g : et_G), et_Z X w 0 et_eI 7 [some (.ref (et_ad w 61)), some (.int x1), some (.int x2), some (.int y3), some (.int y4), none, none, none] [] g (r7 y3 y4 g)) (g : et_G) : et_Z X w 0 et_eI 102 [some (.ref (et_ad w 61)), some (.int x1), some (.int x2), some (.int x3), some (.int x4), some (.int x5), none, none] [] g (fn_Mo_byRules_102 r7 x1 x2 x3 x4 x5 g) := by
  unfold fn_Mo_byRules_102
  refine zi_iload5 (pc := 102) hX dX10_byRules_102 ?_
  refine zi_iconst (pc := 104) hX dX10_byRules_104 ki_1 ?_
  refine zi_iadd (pc := 105) hX dX10_byRules_105 ?_
  refine zi_iload3 (pc := 106) hX dX10_byRules_106 ?_
  refine zi_icmp_ge (pc := 107) 117 hX dX10_byRules_107 (by decide) (fun _ => ?_) (fun _ => ?_)
  · refine zi_iload3 (pc := 117) hX dX10_byRules_117 ?_
    refine zi_istore3 (pc := 118) hX dX10_byRules_118 rfl rfl ?_
    refine zi_iincb4 (pc := 119) hX dX10_byRules_119 (kn_1 _) rfl rfl (fun v1 => ?_)
    refine zi_goto (pc := 122) 7 hX dX10_byRules_122 (by decide) ?_
    refine zi_drop (le_s (le_s (le_s (le_s (le_s (le_n (le_s (le_s le_nil)))))))) ?_; exact hr7 x3 v1 g
  · refine zi_iload5 (pc := 110) hX dX10_byRules_110 ?_
    refine zi_iconst (pc := 112) hX dX10_byRules_112 ki_1 ?_
    refine zi_iadd (pc := 113) hX dX10_byRules_113 ?_
    refine zi_goto (pc := 114) 118 hX dX10_byRules_114 (by decide) ?_
    refine zi_bi (fun v2 => ?_)
    refine zi_istore3 (pc := 118) hX dX10_byRules_118 rfl rfl ?_
    refine zi_iincb4 (pc := 119) hX dX10_byRules_119 (kn_1 _) rfl rfl (fun v3 => ?_)
    refine zi_goto (pc := 122) 7 hX dX10_byRules_122 (by decide) ?_
    refine zi_drop (le_s (le_s (le_s (le_s (le_s (le_n (le_s (le_s le_nil)))))))) ?_; exact hr7 v2 v3 g
theorem zp_Mo_byRules_40 {X : et_X} {w : et_W} (hX : et_Gd X w cX10_byRules RX10 8 (some .int) [] rm_Mo_byRules) (r7 : Int32 → Int32 → et_G → Option (Int32 × et_G)) (x1 : Int32) (x2 : Int32) (x3 : Int32) (x4 : Int32) (hr7 : ∀ (y3 : Int32) (y4 : Int32) (g : et_G), et_Z X w 0 et_eI 7 [some (.ref (et_ad w 61)), some (.int x1), some (.int x2), some (.int y3), some (.int y4), none, none, none] [] g (r7 y3 y4 g)) : ∀ (n : Nat) (x5 : Int32) (x6 : Int32) (g : et_G), et_Z X w 0 et_eI 40 [some (.ref (et_ad w 61)), some (.int x1), some (.int x2), some (.int x3), some (.int x4), some (.int x5), some (.int x6), none] [] g (fn_Mo_byRules_40 r7 x1 x2 x3 x4 n x5 x6 g) := by
  intro n
  induction n with
  | zero =>
    intro x5 x6 g a g2 h
    cases h
  | succ n ih =>
    intro x5 x6 g
    rw [fn_Mo_byRules_40]
    refine zi_iload6 (pc := 40) hX dX10_byRules_40 ?_
    refine zi_aload0 (pc := 42) hX dX10_byRules_42 ?_
    refine zi_getr (q := 67) (pc := 43) hX dX10_byRules_43 fl_1360 ly_61 rfl ?_
    refine zi_iconst (pc := 46) hX dX10_byRules_46 ki_5 ?_
    refine zi_iload4 (pc := 47) hX dX10_byRules_47 ?_
    refine zi_imul (pc := 49) hX dX10_byRules_49 ?_
    refine zi_iald (pc := 50) hX dX10_byRules_50 ly_67 ?_
    refine zi_icmp_ge (pc := 51) 102 hX dX10_byRules_51 (by decide) (fun _ => ?_) (fun _ => ?_)
    · refine zi_drop (le_s (le_s (le_s (le_s (le_s (le_s (le_n (le_s le_nil)))))))) ?_; exact zp_Mo_byRules_102 hX r7 x1 x2 x3 x4 x5 hr7 g
    · refine zi_aload0 (pc := 54) hX dX10_byRules_54 ?_
      refine zi_getr (q := 91) (pc := 55) hX dX10_byRules_55 fl_1406 ly_61 rfl ?_
      refine zi_bipush (pc := 58) hX dX10_byRules_58 kb_8 ?_
      refine zi_iload1 (pc := 60) hX dX10_byRules_60 ?_
      refine zi_imul (pc := 61) hX dX10_byRules_61 ?_
      refine zi_aload0 (pc := 62) hX dX10_byRules_62 ?_
      refine zi_getr (q := 67) (pc := 63) hX dX10_byRules_63 fl_1360 ly_61 rfl ?_
      refine zi_iconst (pc := 66) hX dX10_byRules_66 ki_5 ?_
      refine zi_iload4 (pc := 67) hX dX10_byRules_67 ?_
      refine zi_imul (pc := 69) hX dX10_byRules_69 ?_
      refine zi_iconst (pc := 70) hX dX10_byRules_70 ki_1 ?_
      refine zi_iadd (pc := 71) hX dX10_byRules_71 ?_
      refine zi_iload6 (pc := 72) hX dX10_byRules_72 ?_
      refine zi_iadd (pc := 74) hX dX10_byRules_74 ?_
      refine zi_iald (pc := 75) hX dX10_byRules_75 ly_67 ?_
      refine zi_iadd (pc := 76) hX dX10_byRules_76 ?_
      refine zi_iald (pc := 77) hX dX10_byRules_77 ly_91 ?_
      refine zi_bi (fun v4 => ?_)
      refine zi_istore7 (pc := 78) hX dX10_byRules_78 rfl rfl ?_
      refine zi_iload7 (pc := 80) hX dX10_byRules_80 ?_
      refine zi_iload5 (pc := 82) hX dX10_byRules_82 ?_
      refine zi_icmp_le (pc := 84) 92 hX dX10_byRules_84 (by decide) (fun _ => ?_) (fun _ => ?_)
      · refine zi_iload5 (pc := 92) hX dX10_byRules_92 ?_
        refine zi_istore5 (pc := 94) hX dX10_byRules_94 rfl rfl ?_
        refine zi_iincb6 (pc := 96) hX dX10_byRules_96 (kn_1 _) rfl rfl (fun v5 => ?_)
        refine zi_goto (pc := 99) 40 hX dX10_byRules_99 (by decide) ?_
        refine zi_drop (le_s (le_s (le_s (le_s (le_s (le_s (le_s (le_n le_nil)))))))) ?_; exact ih x5 v5 g
      · refine zi_iload7 (pc := 87) hX dX10_byRules_87 ?_
        refine zi_goto (pc := 89) 94 hX dX10_byRules_89 (by decide) ?_
        refine zi_istore5 (pc := 94) hX dX10_byRules_94 rfl rfl ?_
        refine zi_iincb6 (pc := 96) hX dX10_byRules_96 (kn_1 _) rfl rfl (fun v6 => ?_)
        refine zi_goto (pc := 99) 40 hX dX10_byRules_99 (by decide) ?_
        refine zi_drop (le_s (le_s (le_s (le_s (le_s (le_s (le_s (le_n le_nil)))))))) ?_; exact ih v4 v6 g
theorem zp_Mo_byRules_7 {X : et_X} {w : et_W} (hX : et_Gd X w cX10_byRules RX10 8 (some .int) [] rm_Mo_byRules) (x1 : Int32) (x2 : Int32) : ∀ (n : Nat) (x3 : Int32) (x4 : Int32) (g : et_G), et_Z X w 0 et_eI 7 [some (.ref (et_ad w 61)), some (.int x1), some (.int x2), some (.int x3), some (.int x4), none, none, none] [] g (fn_Mo_byRules_7 x1 x2 n x3 x4 g) := by
  intro n
  induction n with
  | zero =>
    intro x3 x4 g a g2 h
    cases h
  | succ n ih =>
    intro x3 x4 g
    rw [fn_Mo_byRules_7]
    refine zi_iload4 (pc := 7) hX dX10_byRules_7 ?_
    refine zi_aload0 (pc := 9) hX dX10_byRules_9 ?_
    refine zi_geti (pc := 10) hX dX10_byRules_10 fl_1354 ly_61 rfl ?_
    refine zi_icmp_ge (pc := 13) 125 hX dX10_byRules_13 (by decide) (fun _ => ?_) (fun _ => ?_)
    · refine zi_iload3 (pc := 125) hX dX10_byRules_125 ?_
      exact zi_ret (pc := 126) hX dX10_byRules_126 rfl rfl rfl rfl
    · refine zi_aload0 (pc := 16) hX dX10_byRules_16 ?_
      refine zi_getr (q := 67) (pc := 17) hX dX10_byRules_17 fl_1360 ly_61 rfl ?_
      refine zi_iconst (pc := 20) hX dX10_byRules_20 ki_5 ?_
      refine zi_iload4 (pc := 21) hX dX10_byRules_21 ?_
      refine zi_imul (pc := 23) hX dX10_byRules_23 ?_
      refine zi_iconst (pc := 24) hX dX10_byRules_24 ki_1 ?_
      refine zi_iadd (pc := 25) hX dX10_byRules_25 ?_
      refine zi_iald (pc := 26) hX dX10_byRules_26 ly_67 ?_
      refine zi_iload2 (pc := 27) hX dX10_byRules_27 ?_
      refine zi_icmp_eq (pc := 28) 34 hX dX10_byRules_28 (by decide) (fun _ => ?_) (fun _ => ?_)
      · refine zi_iconst (pc := 34) hX dX10_byRules_34 ki_0 ?_
        refine zi_istore5 (pc := 35) hX dX10_byRules_35 rfl rfl ?_
        refine zi_iconst (pc := 37) hX dX10_byRules_37 ki_1 ?_
        refine zi_istore6 (pc := 38) hX dX10_byRules_38 rfl rfl ?_
        exact zp_Mo_byRules_40 hX (fun z3 z4 g => fn_Mo_byRules_7 x1 x2 n z3 z4 g) x1 x2 x3 x4 (fun z3 z4 g => ih z3 z4 g) 1000000 (0 : Int32) (1 : Int32) g
      · refine zi_goto (pc := 31) 119 hX dX10_byRules_31 (by decide) ?_
        refine zi_iincb4 (pc := 119) hX dX10_byRules_119 (kn_1 _) rfl rfl (fun v7 => ?_)
        refine zi_goto (pc := 122) 7 hX dX10_byRules_122 (by decide) ?_
        exact ih x3 v7 g
theorem zw_Mo_byRules {X : et_X} {w : et_W} (hX : et_Gd X w cX10_byRules RX10 8 (some .int) [] rm_Mo_byRules) (p1 : Int32) (p2 : Int32) (g : et_G) : et_Z X w 0 et_eI 0 [some (.ref (et_ad w 61)), some (.int p1), some (.int p2), none, none, none, none, none] [] g (fn_Mo_byRules p1 p2 g) := by
  unfold fn_Mo_byRules
  refine zi_sipush (pc := 0) hX dX10_byRules_0 ks_1000 ?_
  refine zi_istore3 (pc := 3) hX dX10_byRules_3 rfl rfl ?_
  refine zi_iconst (pc := 4) hX dX10_byRules_4 ki_0 ?_
  refine zi_istore4 (pc := 5) hX dX10_byRules_5 rfl rfl ?_
  exact zp_Mo_byRules_7 hX p1 p2 1000000 (1000 : Int32) (0 : Int32) g
theorem ct_Mo_byRules {w : et_W} (hw : et_Sane w) (p1 : Int32) (p2 : Int32) (g : et_G) : et_C w yX10_byRules (Cond.code yX10_byRules cX10_byRules 8 (some .int)) rm_Mo_byRules et_eI [.ref (et_ad w 61), .int p1, .int p2] g (fn_Mo_byRules p1 p2 g) := et_mk hw (by decide) rfl rfl (fun X hX => zw_Mo_byRules hX p1 p2 g)
