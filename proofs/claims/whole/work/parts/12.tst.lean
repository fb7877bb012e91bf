def rm_Tw_placeAt : Room := { frames := 0, cells := 0, slots := 0, locals := 0 }
def fn_Tw_placeAt (p1 : Int32) (p2 : Int32) (g : et_G) : Option (Int32 × et_G) :=
  if p1 < 0 then
    some ((-1 : Int32), g)
  else
    if (g.1 2 3) ≤ p1 then
      some ((-1 : Int32), g)
    else
      if p2 < 0 then
        some ((-1 : Int32), g)
      else
        if p2 < (24 : Int32) then
          et_ck (et_ib ((p1 * (24 : Int32)) + p2) 144) (
          some (g.1 8 ((p1 * (24 : Int32)) + p2).toNatClampNeg, g))
        else
          some ((-1 : Int32), g)
theorem zw_Tw_placeAt {X : et_X} {w : et_W} (hX : et_Gd X w cX6_placeAt RX6 3 (some .int) [] rm_Tw_placeAt) (p1 : Int32) (p2 : Int32) (g : et_G) : et_Z X w 0 et_eI 0 [some (.ref (et_ad w 2)), some (.int p1), some (.int p2)] [] g (fn_Tw_placeAt p1 p2 g) := by
  unfold fn_Tw_placeAt
  refine zi_iload1 (pc := 0) hX dX6_placeAt_0 ?_
  refine zi_if_lt (pc := 1) 22 hX dX6_placeAt_1 (by decide) (fun _ => ?_) (fun _ => ?_)
  · refine zi_iconst (pc := 22) hX dX6_placeAt_22 ki_m1 ?_
    exact zi_ret (pc := 23) hX dX6_placeAt_23 rfl rfl rfl rfl
  · refine zi_iload1 (pc := 4) hX dX6_placeAt_4 ?_
    refine zi_aload0 (pc := 5) hX dX6_placeAt_5 ?_
    refine zi_geti (pc := 6) hX dX6_placeAt_6 fl_192 ly_2 rfl ?_
    refine zi_icmp_ge (pc := 9) 22 hX dX6_placeAt_9 (by decide) (fun _ => ?_) (fun _ => ?_)
    · refine zi_iconst (pc := 22) hX dX6_placeAt_22 ki_m1 ?_
      exact zi_ret (pc := 23) hX dX6_placeAt_23 rfl rfl rfl rfl
    · refine zi_iload2 (pc := 12) hX dX6_placeAt_12 ?_
      refine zi_if_lt (pc := 13) 22 hX dX6_placeAt_13 (by decide) (fun _ => ?_) (fun _ => ?_)
      · refine zi_iconst (pc := 22) hX dX6_placeAt_22 ki_m1 ?_
        exact zi_ret (pc := 23) hX dX6_placeAt_23 rfl rfl rfl rfl
      · refine zi_iload2 (pc := 16) hX dX6_placeAt_16 ?_
        refine zi_bipush (pc := 17) hX dX6_placeAt_17 kb_24 ?_
        refine zi_icmp_lt (pc := 19) 24 hX dX6_placeAt_19 (by decide) (fun _ => ?_) (fun _ => ?_)
        · refine zi_aload0 (pc := 24) hX dX6_placeAt_24 ?_
          refine zi_getr (q := 8) (pc := 25) hX dX6_placeAt_25 fl_196 ly_2 rfl ?_
          refine zi_iload1 (pc := 28) hX dX6_placeAt_28 ?_
          refine zi_bipush (pc := 29) hX dX6_placeAt_29 kb_24 ?_
          refine zi_imul (pc := 31) hX dX6_placeAt_31 ?_
          refine zi_iload2 (pc := 32) hX dX6_placeAt_32 ?_
          refine zi_iadd (pc := 33) hX dX6_placeAt_33 ?_
          refine zi_iald (pc := 34) hX dX6_placeAt_34 ly_8 ?_
          exact zi_ret (pc := 35) hX dX6_placeAt_35 rfl rfl rfl rfl
        · refine zi_iconst (pc := 22) hX dX6_placeAt_22 ki_m1 ?_
          exact zi_ret (pc := 23) hX dX6_placeAt_23 rfl rfl rfl rfl
theorem ct_Tw_placeAt {w : et_W} (hw : et_Sane w) (p1 : Int32) (p2 : Int32) (g : et_G) : et_C w yX6_placeAt (Cond.code yX6_placeAt cX6_placeAt 3 (some .int)) rm_Tw_placeAt et_eI [.ref (et_ad w 2), .int p1, .int p2] g (fn_Tw_placeAt p1 p2 g) := et_mk hw (by decide) rfl rfl (fun X hX => zw_Tw_placeAt hX p1 p2 g)
def rm_Le_isHeardBy : Room := { frames := 1, cells := 0, slots := 0, locals := 22 }
def fn_Le_isHeardBy (p1 : Int32) (p2 : Int32) (g : et_G) : Option (Int32 × et_G) :=
  et_ck (et_ib p1 20) (
  if (g.1 35 p1.toNatClampNeg) = p2 then
    some ((0 : Int32), g)
  else
    et_ck (et_ib p1 20) (
    et_bd (fn_Tw_placeAt p2 (g.1 36 p1.toNatClampNeg) g) (fun v1 g2 =>
    et_ck (et_ib p1 20) (
    et_ck (et_ib p1 20) (
    et_bd (fn_Tw_placeAt (g2.1 35 p1.toNatClampNeg) (g2.1 36 p1.toNatClampNeg) g2) (fun v3 g4 =>
    if v1 = v3 then
      some ((1 : Int32), g4)
    else
      some ((0 : Int32), g4)))))))
theorem zw_Le_isHeardBy {X : et_X} {w : et_W} (hX : et_Gd X w cX1_isHeardBy RX1 4 (some .boolean) [] rm_Le_isHeardBy) (p1 : Int32) (p2 : Int32) (g : et_G) : et_Z X w 0 et_eI 0 [some (.ref (et_ad w 34)), some (.int p1), some (.int p2), some (.ref (et_ad w 2))] [] g (fn_Le_isHeardBy p1 p2 g) := by
  unfold fn_Le_isHeardBy
  refine zi_aload0 (pc := 0) hX dX1_isHeardBy_0 ?_
  refine zi_getr (q := 35) (pc := 1) hX dX1_isHeardBy_1 fl_362 ly_34 rfl ?_
  refine zi_iload1 (pc := 4) hX dX1_isHeardBy_4 ?_
  refine zi_iald (pc := 5) hX dX1_isHeardBy_5 ly_35 ?_
  refine zi_iload2 (pc := 6) hX dX1_isHeardBy_6 ?_
  refine zi_icmp_eq (pc := 7) 44 hX dX1_isHeardBy_7 (by decide) (fun _ => ?_) (fun _ => ?_)
  · refine zi_iconst (pc := 44) hX dX1_isHeardBy_44 ki_0 ?_
    exact zi_ret (pc := 45) hX dX1_isHeardBy_45 et_z0 rfl rfl rfl
  · refine zi_aload3 (pc := 10) hX dX1_isHeardBy_10 ?_
    refine zi_iload2 (pc := 11) hX dX1_isHeardBy_11 ?_
    refine zi_aload0 (pc := 12) hX dX1_isHeardBy_12 ?_
    refine zi_getr (q := 36) (pc := 13) hX dX1_isHeardBy_13 fl_365 ly_34 rfl ?_
    refine zi_iload1 (pc := 16) hX dX1_isHeardBy_16 ?_
    refine zi_iald (pc := 17) hX dX1_isHeardBy_17 ly_36 ?_
    refine zi_callI (zc_virt (pc := 18) hX dX1_isHeardBy_18 tm_589 md_X6_placeAt mi_X6_placeAt ly_2 (ct_Tw_placeAt hX.sane p2 (g.1 36 p1.toNatClampNeg) g) rfl rfl rfl) (fun v1 g2 => ?_)
    refine zi_aload3 (pc := 21) hX dX1_isHeardBy_21 ?_
    refine zi_aload0 (pc := 22) hX dX1_isHeardBy_22 ?_
    refine zi_getr (q := 35) (pc := 23) hX dX1_isHeardBy_23 fl_362 ly_34 rfl ?_
    refine zi_iload1 (pc := 26) hX dX1_isHeardBy_26 ?_
    refine zi_iald (pc := 27) hX dX1_isHeardBy_27 ly_35 ?_
    refine zi_aload0 (pc := 28) hX dX1_isHeardBy_28 ?_
    refine zi_getr (q := 36) (pc := 29) hX dX1_isHeardBy_29 fl_365 ly_34 rfl ?_
    refine zi_iload1 (pc := 32) hX dX1_isHeardBy_32 ?_
    refine zi_iald (pc := 33) hX dX1_isHeardBy_33 ly_36 ?_
    refine zi_callI (zc_virt (pc := 34) hX dX1_isHeardBy_34 tm_589 md_X6_placeAt mi_X6_placeAt ly_2 (ct_Tw_placeAt hX.sane (g2.1 35 p1.toNatClampNeg) (g2.1 36 p1.toNatClampNeg) g2) rfl rfl rfl) (fun v3 g4 => ?_)
    refine zi_icmp_ne (pc := 37) 44 hX dX1_isHeardBy_37 (by decide) (fun _ => ?_) (fun _ => ?_)
    · refine zi_iconst (pc := 40) hX dX1_isHeardBy_40 ki_1 ?_
      refine zi_goto (pc := 41) 45 hX dX1_isHeardBy_41 (by decide) ?_
      exact zi_ret (pc := 45) hX dX1_isHeardBy_45 et_z1 rfl rfl rfl
    · refine zi_iconst (pc := 44) hX dX1_isHeardBy_44 ki_0 ?_
      exact zi_ret (pc := 45) hX dX1_isHeardBy_45 et_z0 rfl rfl rfl
theorem ct_Le_isHeardBy {w : et_W} (hw : et_Sane w) (p1 : Int32) (p2 : Int32) (g : et_G) : et_C w yX1_isHeardBy (Cond.code yX1_isHeardBy cX1_isHeardBy 4 (some .boolean)) rm_Le_isHeardBy et_eI [.ref (et_ad w 34), .int p1, .int p2, .ref (et_ad w 2)] g (fn_Le_isHeardBy p1 p2 g) := et_mk hw (by decide) rfl rfl (fun X hX => zw_Le_isHeardBy hX p1 p2 g)
def rm_Gr_heardBy : Room := { frames := 2, cells := 0, slots := 0, locals := 45 }
def fn_Gr_heardBy_5 (x1 : Int32) (x2 : Int32) : Nat → Int32 → Int32 → et_G → Option (Int32 × et_G)
  | 0, _, _, _ => none
  | n + 1, x3, x4, g =>
    if (g.1 34 0) ≤ x4 then
      some (x3, g)
    else
      et_ck (et_ib x4 20) (
      if x2 < (g.1 36 x4.toNatClampNeg) then
        et_b (x4 + (1 : Int32)) (fun v1 =>
        fn_Gr_heardBy_5 x1 x2 n x3 v1 g)
      else
        et_bd (fn_Le_isHeardBy x4 x1 g) (fun v2 g3 =>
        if v2 = 0 then
          et_b (x4 + (1 : Int32)) (fun v4 =>
          fn_Gr_heardBy_5 x1 x2 n x3 v4 g3)
        else
          et_b (x3 ||| ((1 : Int32) <<< (x4 &&& 31))) (fun v5 =>
          et_b (x4 + (1 : Int32)) (fun v6 =>
          fn_Gr_heardBy_5 x1 x2 n v5 v6 g3))))
def fn_Gr_heardBy (p1 : Int32) (p2 : Int32) (g : et_G) : Option (Int32 × et_G) :=
  fn_Gr_heardBy_5 p1 p2 1000000 (0 : Int32) (0 : Int32) g
theorem zp_Gr_heardBy_5 {X : et_X} {w : et_W} (hX : et_Gd X w cX0_heardBy RX0 5 (some .int) [] rm_Gr_heardBy) (x1 : Int32) (x2 : Int32) : ∀ (n : Nat) (x3 : Int32) (x4 : Int32) (g : et_G), et_Z X w 0 et_eI 5 [some (.ref (et_ad w 48)), some (.int x1), some (.int x2), some (.int x3), some (.int x4)] [] g (fn_Gr_heardBy_5 x1 x2 n x3 x4 g) := by
  intro n
  induction n with
  | zero =>
    intro x3 x4 g a g2 h
    cases h
  | succ n ih =>
    intro x3 x4 g
    rw [fn_Gr_heardBy_5]
    refine zi_iload4 (pc := 5) hX dX0_heardBy_5 ?_
    refine zi_aload0 (pc := 7) hX dX0_heardBy_7 ?_
    refine zi_getr (q := 34) (pc := 8) hX dX0_heardBy_8 fl_416 ly_48 rfl ?_
    refine zi_geti (pc := 11) hX dX0_heardBy_11 fl_361 ly_34 rfl ?_
    refine zi_icmp_ge (pc := 14) 61 hX dX0_heardBy_14 (by decide) (fun _ => ?_) (fun _ => ?_)
    · refine zi_iload3 (pc := 61) hX dX0_heardBy_61 ?_
      exact zi_ret (pc := 62) hX dX0_heardBy_62 rfl rfl rfl rfl
    · refine zi_aload0 (pc := 17) hX dX0_heardBy_17 ?_
      refine zi_getr (q := 34) (pc := 18) hX dX0_heardBy_18 fl_416 ly_48 rfl ?_
      refine zi_getr (q := 36) (pc := 21) hX dX0_heardBy_21 fl_366 ly_34 rfl ?_
      refine zi_iload4 (pc := 24) hX dX0_heardBy_24 ?_
      refine zi_iald (pc := 26) hX dX0_heardBy_26 ly_36 ?_
      refine zi_iload2 (pc := 27) hX dX0_heardBy_27 ?_
      refine zi_icmp_gt (pc := 28) 55 hX dX0_heardBy_28 (by decide) (fun _ => ?_) (fun _ => ?_)
      · refine zi_iincb4 (pc := 55) hX dX0_heardBy_55 (kn_1 _) rfl rfl (fun v1 => ?_)
        refine zi_goto (pc := 58) 5 hX dX0_heardBy_58 (by decide) ?_
        exact ih x3 v1 g
      · refine zi_aload0 (pc := 31) hX dX0_heardBy_31 ?_
        refine zi_getr (q := 34) (pc := 32) hX dX0_heardBy_32 fl_416 ly_48 rfl ?_
        refine zi_iload4 (pc := 35) hX dX0_heardBy_35 ?_
        refine zi_iload1 (pc := 37) hX dX0_heardBy_37 ?_
        refine zi_aload0 (pc := 38) hX dX0_heardBy_38 ?_
        refine zi_getr (q := 2) (pc := 39) hX dX0_heardBy_39 fl_415 ly_48 rfl ?_
        refine zi_callI (zc_virt (pc := 42) hX dX0_heardBy_42 tm_585 md_X1_isHeardBy mi_X1_isHeardBy ly_34 (ct_Le_isHeardBy hX.sane x4 x1 g) rfl rfl rfl) (fun v2 g3 => ?_)
        refine zi_if_eq (pc := 45) 55 hX dX0_heardBy_45 (by decide) (fun _ => ?_) (fun _ => ?_)
        · refine zi_iincb4 (pc := 55) hX dX0_heardBy_55 (kn_1 _) rfl rfl (fun v4 => ?_)
          refine zi_goto (pc := 58) 5 hX dX0_heardBy_58 (by decide) ?_
          exact ih x3 v4 g3
        · refine zi_iload3 (pc := 48) hX dX0_heardBy_48 ?_
          refine zi_iconst (pc := 49) hX dX0_heardBy_49 ki_1 ?_
          refine zi_iload4 (pc := 50) hX dX0_heardBy_50 ?_
          refine zi_ishl (pc := 52) hX dX0_heardBy_52 ?_
          refine zi_ior (pc := 53) hX dX0_heardBy_53 ?_
          refine zi_bi (fun v5 => ?_)
          refine zi_istore3 (pc := 54) hX dX0_heardBy_54 rfl rfl ?_
          refine zi_iincb4 (pc := 55) hX dX0_heardBy_55 (kn_1 _) rfl rfl (fun v6 => ?_)
          refine zi_goto (pc := 58) 5 hX dX0_heardBy_58 (by decide) ?_
          exact ih v5 v6 g3
theorem zw_Gr_heardBy {X : et_X} {w : et_W} (hX : et_Gd X w cX0_heardBy RX0 5 (some .int) [] rm_Gr_heardBy) (p1 : Int32) (p2 : Int32) (g : et_G) : et_Z X w 0 et_eI 0 [some (.ref (et_ad w 48)), some (.int p1), some (.int p2), none, none] [] g (fn_Gr_heardBy p1 p2 g) := by
  unfold fn_Gr_heardBy
  refine zi_iconst (pc := 0) hX dX0_heardBy_0 ki_0 ?_
  refine zi_istore3 (pc := 1) hX dX0_heardBy_1 rfl rfl ?_
  refine zi_iconst (pc := 2) hX dX0_heardBy_2 ki_0 ?_
  refine zi_istore4 (pc := 3) hX dX0_heardBy_3 rfl rfl ?_
  exact zp_Gr_heardBy_5 hX p1 p2 1000000 (0 : Int32) (0 : Int32) g
theorem ct_Gr_heardBy {w : et_W} (hw : et_Sane w) (p1 : Int32) (p2 : Int32) (g : et_G) : et_C w yX0_heardBy (Cond.code yX0_heardBy cX0_heardBy 5 (some .int)) rm_Gr_heardBy et_eI [.ref (et_ad w 48), .int p1, .int p2] g (fn_Gr_heardBy p1 p2 g) := et_mk hw (by decide) rfl rfl (fun X hX => zw_Gr_heardBy hX p1 p2 g)
def rm_Et_hasBit : Room := { frames := 0, cells := 0, slots := 0, locals := 0 }
def fn_Et_hasBit (p0 : Int32) (p1 : Int32) (g : et_G) : Option (Int32 × et_G) :=
  if ((et_us p0 p1) &&& (1 : Int32)) = 0 then
    some ((0 : Int32), g)
  else
    some ((1 : Int32), g)
theorem zw_Et_hasBit {X : et_X} {w : et_W} (hX : et_Gd X w cX9_hasBit RX9 2 (some .boolean) [] rm_Et_hasBit) (p0 : Int32) (p1 : Int32) (g : et_G) : et_Z X w 0 et_eI 0 [some (.int p0), some (.int p1)] [] g (fn_Et_hasBit p0 p1 g) := by
  unfold fn_Et_hasBit
  refine zi_iload0 (pc := 0) hX dX9_hasBit_0 ?_
  refine zi_iload1 (pc := 1) hX dX9_hasBit_1 ?_
  refine zi_iushr (pc := 2) hX dX9_hasBit_2 ?_
  refine zi_iconst (pc := 3) hX dX9_hasBit_3 ki_1 ?_
  refine zi_iand (pc := 4) hX dX9_hasBit_4 ?_
  refine zi_if_eq (pc := 5) 12 hX dX9_hasBit_5 (by decide) (fun _ => ?_) (fun _ => ?_)
  · refine zi_iconst (pc := 12) hX dX9_hasBit_12 ki_0 ?_
    exact zi_ret (pc := 13) hX dX9_hasBit_13 et_z0 rfl rfl rfl
  · refine zi_iconst (pc := 8) hX dX9_hasBit_8 ki_1 ?_
    refine zi_goto (pc := 9) 13 hX dX9_hasBit_9 (by decide) ?_
    exact zi_ret (pc := 13) hX dX9_hasBit_13 et_z1 rfl rfl rfl
theorem ct_Et_hasBit {w : et_W} (hw : et_Sane w) (p0 : Int32) (p1 : Int32) (g : et_G) : et_C w yX9_hasBit (Cond.code yX9_hasBit cX9_hasBit 2 (some .boolean)) rm_Et_hasBit et_eI [.int p0, .int p1] g (fn_Et_hasBit p0 p1 g) := et_mk hw (by decide) rfl rfl (fun X hX => zw_Et_hasBit hX p0 p1 g)
