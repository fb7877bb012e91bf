def rm_Tw_hasThing : Room := { frames := 0, cells := 0, slots := 0, locals := 0 }
def fn_Tw_hasThing (p1 : Int32) (g : et_G) : Option (Int32 × et_G) :=
  if p1 < 0 then
    some ((0 : Int32), g)
  else
    if (g.1 2 5) ≤ p1 then
      some ((0 : Int32), g)
    else
      some ((1 : Int32), g)
theorem zw_Tw_hasThing {X : et_X} {w : et_W} (hX : et_Gd X w cX6_hasThing RX6 2 (some .boolean) [] rm_Tw_hasThing) (p1 : Int32) (g : et_G) : et_Z X w 0 et_eI 0 [some (.ref (et_ad w 2)), some (.int p1)] [] g (fn_Tw_hasThing p1 g) := by
  unfold fn_Tw_hasThing
  refine zi_iload1 (pc := 0) hX dX6_hasThing_0 ?_
  refine zi_if_lt (pc := 1) 16 hX dX6_hasThing_1 (by decide) (fun _ => ?_) (fun _ => ?_)
  · refine zi_iconst (pc := 16) hX dX6_hasThing_16 ki_0 ?_
    exact zi_ret (pc := 17) hX dX6_hasThing_17 et_z0 rfl rfl rfl
  · refine zi_iload1 (pc := 4) hX dX6_hasThing_4 ?_
    refine zi_aload0 (pc := 5) hX dX6_hasThing_5 ?_
    refine zi_geti (pc := 6) hX dX6_hasThing_6 fl_198 ly_2 rfl ?_
    refine zi_icmp_ge (pc := 9) 16 hX dX6_hasThing_9 (by decide) (fun _ => ?_) (fun _ => ?_)
    · refine zi_iconst (pc := 16) hX dX6_hasThing_16 ki_0 ?_
      exact zi_ret (pc := 17) hX dX6_hasThing_17 et_z0 rfl rfl rfl
    · refine zi_iconst (pc := 12) hX dX6_hasThing_12 ki_1 ?_
      refine zi_goto (pc := 13) 17 hX dX6_hasThing_13 (by decide) ?_
      exact zi_ret (pc := 17) hX dX6_hasThing_17 et_z1 rfl rfl rfl
theorem ct_Tw_hasThing {w : et_W} (hw : et_Sane w) (p1 : Int32) (g : et_G) : et_C w yX6_hasThing (Cond.code yX6_hasThing cX6_hasThing 2 (some .boolean)) rm_Tw_hasThing et_eI [.ref (et_ad w 2), .int p1] g (fn_Tw_hasThing p1 g) := et_mk hw (by decide) rfl rfl (fun X hX => zw_Tw_hasThing hX p1 g)
def rm_Et_needThing : Room := { frames := 6, cells := 1, slots := 6, locals := 81 }
def fn_Et_needThing (p1 : Int32) (g : et_G) : Option ((Nat ⊕ Unit) × et_G) :=
  et_bd (fn_Tw_hasThing p1 g) (fun v1 g2 =>
  if v1 = 0 then
    some (.inl 0, g2)
  else
    some (.inr (), g2))
theorem zw_Et_needThing {X : et_X} {w : et_W} (hX : et_Gd X w cX9_needThing RX9 2 (none) [] rm_Et_needThing) (p1 : Int32) (g : et_G) : et_Z X w 0 et_tU 0 [some (.ref (et_ad w 0)), some (.int p1)] [] g (fn_Et_needThing p1 g) := by
  unfold fn_Et_needThing
  refine zi_aload0 (pc := 0) hX dX9_needThing_0 ?_
  refine zi_getr (q := 2) (pc := 1) hX dX9_needThing_1 fl_493 ly_0 rfl ?_
  refine zi_iload1 (pc := 4) hX dX9_needThing_4 ?_
  refine zi_callI (zc_virt (pc := 5) hX dX9_needThing_5 tm_1058 md_X6_hasThing mi_X6_hasThing ly_2 (ct_Tw_hasThing hX.sane p1 g) rfl rfl rfl) (fun v1 g2 => ?_)
  refine zi_if_ne (pc := 8) 19 hX dX9_needThing_8 (by decide) (fun _ => ?_) (fun _ => ?_)
  · exact zi_thr (pc := 11) hX dX9_needThing_11 dX9_needThing_14 dX9_needThing_15 dX9_needThing_18 th_0 rfl rfl rfl rfl rfl
  · exact zi_vret (pc := 19) hX dX9_needThing_19 rfl rfl rfl
theorem ct_Et_needThing {w : et_W} (hw : et_Sane w) (p1 : Int32) (g : et_G) : et_C w yX9_needThing (Cond.code yX9_needThing cX9_needThing 2 (none)) rm_Et_needThing et_tU [.ref (et_ad w 0), .int p1] g (fn_Et_needThing p1 g) := et_mk hw (by decide) rfl rfl (fun X hX => zw_Et_needThing hX p1 g)
def rm_Ja_fill_52 : Room := { frames := 0, cells := 0, slots := 0, locals := 0 }
def fn_Ja_fill_52_5 (x1 : Int32) (x3 : Int32) : Nat → Int32 → et_G → Option (Unit × et_G)
  | 0, _, _ => none
  | n + 1, x2, g =>
    if x3 ≤ x2 then
      some ((), g)
    else
      et_ck (et_ib x2 16) (et_b (et_si g 52 x2.toNatClampNeg x1) (fun g1 =>
      et_b (x2 + (1 : Int32)) (fun v2 =>
      fn_Ja_fill_52_5 x1 x3 n v2 g1)))
def fn_Ja_fill_52 (p1 : Int32) (g : et_G) : Option (Unit × et_G) :=
  fn_Ja_fill_52_5 p1 (16 : Int32) 1000000 (0 : Int32) g
theorem zp_Ja_fill_52_5 {X : et_X} {w : et_W} (hX : et_Gd X w cJ7_fill_53178 RJ7 4 (none) [] rm_Ja_fill_52) (x1 : Int32) (x3 : Int32) : ∀ (n : Nat) (x2 : Int32) (g : et_G), et_Z X w 0 et_eU 5 [some (.ref (et_ad w 52)), some (.int x1), some (.int x2), some (.int x3)] [] g (fn_Ja_fill_52_5 x1 x3 n x2 g) := by
  intro n
  induction n with
  | zero =>
    intro x2 g a g2 h
    cases h
  | succ n ih =>
    intro x2 g
    rw [fn_Ja_fill_52_5]
    refine zi_iload2 (pc := 5) hX dJ7_fill_53178_5 ?_
    refine zi_iload3 (pc := 6) hX dJ7_fill_53178_6 ?_
    refine zi_icmp_ge (pc := 7) 20 hX dJ7_fill_53178_7 (by decide) (fun _ => ?_) (fun _ => ?_)
    · exact zi_vret (pc := 20) hX dJ7_fill_53178_20 rfl rfl rfl
    · refine zi_aload0 (pc := 10) hX dJ7_fill_53178_10 ?_
      refine zi_iload2 (pc := 11) hX dJ7_fill_53178_11 ?_
      refine zi_iload1 (pc := 12) hX dJ7_fill_53178_12 ?_
      refine zi_iast (pc := 13) hX dJ7_fill_53178_13 ly_52 (zi_bg (fun g1 => ?_))
      refine zi_iincb2 (pc := 14) hX dJ7_fill_53178_14 (kn_1 _) rfl rfl (fun v2 => ?_)
      refine zi_goto (pc := 17) 5 hX dJ7_fill_53178_17 (by decide) ?_
      exact ih v2 g1
theorem zw_Ja_fill_52 {X : et_X} {w : et_W} (hX : et_Gd X w cJ7_fill_53178 RJ7 4 (none) [] rm_Ja_fill_52) (p1 : Int32) (g : et_G) : et_Z X w 0 et_eU 0 [some (.ref (et_ad w 52)), some (.int p1), none, none] [] g (fn_Ja_fill_52 p1 g) := by
  unfold fn_Ja_fill_52
  refine zi_iconst (pc := 0) hX dJ7_fill_53178_0 ki_0 ?_
  refine zi_istore2 (pc := 1) hX dJ7_fill_53178_1 rfl rfl ?_
  refine zi_aload0 (pc := 2) hX dJ7_fill_53178_2 ?_
  refine zi_alen (pc := 3) hX dJ7_fill_53178_3 ly_52 0 (et_t0 w) ka_16 ?_
  refine zi_istore3 (pc := 4) hX dJ7_fill_53178_4 rfl rfl ?_
  exact zp_Ja_fill_52_5 hX p1 (16 : Int32) 1000000 (0 : Int32) g
theorem ct_Ja_fill_52 {w : et_W} (hw : et_Sane w) (p1 : Int32) (g : et_G) : et_C w yJ7_fill_53178 (Cond.code yJ7_fill_53178 cJ7_fill_53178 4 (none)) rm_Ja_fill_52 et_eU [.ref (et_ad w 52), .int p1] g (fn_Ja_fill_52 p1 g) := et_mk hw (by decide) rfl rfl (fun X hX => zw_Ja_fill_52 hX p1 g)
def rm_Gr_aboutRow : Room := { frames := 0, cells := 0, slots := 0, locals := 0 }
def fn_Gr_aboutRow (p0 : Int32) (p1 : Int32) (g : et_G) : Option (Int32 × et_G) :=
  if p1 = 0 then
    some (((2 : Int32) * p0) + (0 : Int32), g)
  else
    some (((2 : Int32) * p0) + (1 : Int32), g)
theorem zw_Gr_aboutRow {X : et_X} {w : et_W} (hX : et_Gd X w cX0_aboutRow RX0 2 (some .int) [] rm_Gr_aboutRow) (p0 : Int32) (p1 : Int32) (g : et_G) : et_Z X w 0 et_eI 0 [some (.int p0), some (.int p1)] [] g (fn_Gr_aboutRow p0 p1 g) := by
  unfold fn_Gr_aboutRow
  refine zi_iconst (pc := 0) hX dX0_aboutRow_0 ki_2 ?_
  refine zi_iload0 (pc := 1) hX dX0_aboutRow_1 ?_
  refine zi_imul (pc := 2) hX dX0_aboutRow_2 ?_
  refine zi_iload1 (pc := 3) hX dX0_aboutRow_3 ?_
  refine zi_if_eq (pc := 4) 11 hX dX0_aboutRow_4 (by decide) (fun _ => ?_) (fun _ => ?_)
  · refine zi_iconst (pc := 11) hX dX0_aboutRow_11 ki_0 ?_
    refine zi_iadd (pc := 12) hX dX0_aboutRow_12 ?_
    exact zi_ret (pc := 13) hX dX0_aboutRow_13 rfl rfl rfl rfl
  · refine zi_iconst (pc := 7) hX dX0_aboutRow_7 ki_1 ?_
    refine zi_goto (pc := 8) 12 hX dX0_aboutRow_8 (by decide) ?_
    refine zi_iadd (pc := 12) hX dX0_aboutRow_12 ?_
    exact zi_ret (pc := 13) hX dX0_aboutRow_13 rfl rfl rfl rfl
theorem ct_Gr_aboutRow {w : et_W} (hw : et_Sane w) (p0 : Int32) (p1 : Int32) (g : et_G) : et_C w yX0_aboutRow (Cond.code yX0_aboutRow cX0_aboutRow 2 (some .int)) rm_Gr_aboutRow et_eI [.int p0, .int p1] g (fn_Gr_aboutRow p0 p1 g) := et_mk hw (by decide) rfl rfl (fun X hX => zw_Gr_aboutRow hX p0 p1 g)
def rm_Tw_placeAt : Room := { frames := 0, cells := 0, slots := 0, locals := 0 }
def fn_Tw_placeAt (p1 : Int32) (p2 : Int32) (g : et_G) : Option (Int32 × et_G) :=
  if p1 < 0 then
    some ((-1 : Int32), g)
  else
    if (g.1 2 3) ≤ p1 then
      some ((-1 : Int32), g)
    else
      if p2 < 0 then
        some ((-1 : Int32), g)
      else
        if p2 < (24 : Int32) then
          et_ck (et_ib ((p1 * (24 : Int32)) + p2) 144) (
          some (g.1 8 ((p1 * (24 : Int32)) + p2).toNatClampNeg, g))
        else
          some ((-1 : Int32), g)
theorem zw_Tw_placeAt {X : et_X} {w : et_W} (hX : et_Gd X w cX6_placeAt RX6 3 (some .int) [] rm_Tw_placeAt) (p1 : Int32) (p2 : Int32) (g : et_G) : et_Z X w 0 et_eI 0 [some (.ref (et_ad w 2)), some (.int p1), some (.int p2)] [] g (fn_Tw_placeAt p1 p2 g) := by
  unfold fn_Tw_placeAt
  refine zi_iload1 (pc := 0) hX dX6_placeAt_0 ?_
  refine zi_if_lt (pc := 1) 22 hX dX6_placeAt_1 (by decide) (fun _ => ?_) (fun _ => ?_)
  · refine zi_iconst (pc := 22) hX dX6_placeAt_22 ki_m1 ?_
    exact zi_ret (pc := 23) hX dX6_placeAt_23 rfl rfl rfl rfl
  · refine zi_iload1 (pc := 4) hX dX6_placeAt_4 ?_
    refine zi_aload0 (pc := 5) hX dX6_placeAt_5 ?_
    refine zi_geti (pc := 6) hX dX6_placeAt_6 fl_192 ly_2 rfl ?_
    refine zi_icmp_ge (pc := 9) 22 hX dX6_placeAt_9 (by decide) (fun _ => ?_) (fun _ => ?_)
    · refine zi_iconst (pc := 22) hX dX6_placeAt_22 ki_m1 ?_
      exact zi_ret (pc := 23) hX dX6_placeAt_23 rfl rfl rfl rfl
    · refine zi_iload2 (pc := 12) hX dX6_placeAt_12 ?_
      refine zi_if_lt (pc := 13) 22 hX dX6_placeAt_13 (by decide) (fun _ => ?_) (fun _ => ?_)
      · refine zi_iconst (pc := 22) hX dX6_placeAt_22 ki_m1 ?_
        exact zi_ret (pc := 23) hX dX6_placeAt_23 rfl rfl rfl rfl
      · refine zi_iload2 (pc := 16) hX dX6_placeAt_16 ?_
        refine zi_bipush (pc := 17) hX dX6_placeAt_17 kb_24 ?_
        refine zi_icmp_lt (pc := 19) 24 hX dX6_placeAt_19 (by decide) (fun _ => ?_) (fun _ => ?_)
        · refine zi_aload0 (pc := 24) hX dX6_placeAt_24 ?_
          refine zi_getr (q := 8) (pc := 25) hX dX6_placeAt_25 fl_196 ly_2 rfl ?_
          refine zi_iload1 (pc := 28) hX dX6_placeAt_28 ?_
          refine zi_bipush (pc := 29) hX dX6_placeAt_29 kb_24 ?_
          refine zi_imul (pc := 31) hX dX6_placeAt_31 ?_
          refine zi_iload2 (pc := 32) hX dX6_placeAt_32 ?_
          refine zi_iadd (pc := 33) hX dX6_placeAt_33 ?_
          refine zi_iald (pc := 34) hX dX6_placeAt_34 ly_8 ?_
          exact zi_ret (pc := 35) hX dX6_placeAt_35 rfl rfl rfl rfl
        · refine zi_iconst (pc := 22) hX dX6_placeAt_22 ki_m1 ?_
          exact zi_ret (pc := 23) hX dX6_placeAt_23 rfl rfl rfl rfl
theorem ct_Tw_placeAt {w : et_W} (hw : et_Sane w) (p1 : Int32) (p2 : Int32) (g : et_G) : et_C w yX6_placeAt (Cond.code yX6_placeAt cX6_placeAt 3 (some .int)) rm_Tw_placeAt et_eI [.ref (et_ad w 2), .int p1, .int p2] g (fn_Tw_placeAt p1 p2 g) := et_mk hw (by decide) rfl rfl (fun X hX => zw_Tw_placeAt hX p1 p2 g)
def rm_Le_isHeardBy : Room := { frames := 1, cells := 0, slots := 0, locals := 22 }
def fn_Le_isHeardBy (p1 : Int32) (p2 : Int32) (g : et_G) : Option (Int32 × et_G) :=
  et_ck (et_ib p1 20) (
  if (g.1 35 p1.toNatClampNeg) = p2 then
    some ((0 : Int32), g)
  else
    et_ck (et_ib p1 20) (
    et_bd (fn_Tw_placeAt p2 (g.1 36 p1.toNatClampNeg) g) (fun v1 g2 =>
    et_ck (et_ib p1 20) (
    et_ck (et_ib p1 20) (
    et_bd (fn_Tw_placeAt (g2.1 35 p1.toNatClampNeg) (g2.1 36 p1.toNatClampNeg) g2) (fun v3 g4 =>
    if v1 = v3 then
      some ((1 : Int32), g4)
    else
      some ((0 : Int32), g4)))))))
theorem zw_Le_isHeardBy {X : et_X} {w : et_W} (hX : et_Gd X w cX1_isHeardBy RX1 4 (some .boolean) [] rm_Le_isHeardBy) (p1 : Int32) (p2 : Int32) (g : et_G) : et_Z X w 0 et_eI 0 [some (.ref (et_ad w 34)), some (.int p1), some (.int p2), some (.ref (et_ad w 2))] [] g (fn_Le_isHeardBy p1 p2 g) := by
  unfold fn_Le_isHeardBy
  refine zi_aload0 (pc := 0) hX dX1_isHeardBy_0 ?_
  refine zi_getr (q := 35) (pc := 1) hX dX1_isHeardBy_1 fl_362 ly_34 rfl ?_
  refine zi_iload1 (pc := 4) hX dX1_isHeardBy_4 ?_
  refine zi_iald (pc := 5) hX dX1_isHeardBy_5 ly_35 ?_
  refine zi_iload2 (pc := 6) hX dX1_isHeardBy_6 ?_
  refine zi_icmp_eq (pc := 7) 44 hX dX1_isHeardBy_7 (by decide) (fun _ => ?_) (fun _ => ?_)
  · refine zi_iconst (pc := 44) hX dX1_isHeardBy_44 ki_0 ?_
    exact zi_ret (pc := 45) hX dX1_isHeardBy_45 et_z0 rfl rfl rfl
  · refine zi_aload3 (pc := 10) hX dX1_isHeardBy_10 ?_
    refine zi_iload2 (pc := 11) hX dX1_isHeardBy_11 ?_
    refine zi_aload0 (pc := 12) hX dX1_isHeardBy_12 ?_
    refine zi_getr (q := 36) (pc := 13) hX dX1_isHeardBy_13 fl_365 ly_34 rfl ?_
    refine zi_iload1 (pc := 16) hX dX1_isHeardBy_16 ?_
    refine zi_iald (pc := 17) hX dX1_isHeardBy_17 ly_36 ?_
    refine zi_callI (zc_virt (pc := 18) hX dX1_isHeardBy_18 tm_589 md_X6_placeAt mi_X6_placeAt ly_2 (ct_Tw_placeAt hX.sane p2 (g.1 36 p1.toNatClampNeg) g) rfl rfl rfl) (fun v1 g2 => ?_)
    refine zi_aload3 (pc := 21) hX dX1_isHeardBy_21 ?_
    refine zi_aload0 (pc := 22) hX dX1_isHeardBy_22 ?_
    refine zi_getr (q := 35) (pc := 23) hX dX1_isHeardBy_23 fl_362 ly_34 rfl ?_
    refine zi_iload1 (pc := 26) hX dX1_isHeardBy_26 ?_
    refine zi_iald (pc := 27) hX dX1_isHeardBy_27 ly_35 ?_
    refine zi_aload0 (pc := 28) hX dX1_isHeardBy_28 ?_
    refine zi_getr (q := 36) (pc := 29) hX dX1_isHeardBy_29 fl_365 ly_34 rfl ?_
    refine zi_iload1 (pc := 32) hX dX1_isHeardBy_32 ?_
    refine zi_iald (pc := 33) hX dX1_isHeardBy_33 ly_36 ?_
    refine zi_callI (zc_virt (pc := 34) hX dX1_isHeardBy_34 tm_589 md_X6_placeAt mi_X6_placeAt ly_2 (ct_Tw_placeAt hX.sane (g2.1 35 p1.toNatClampNeg) (g2.1 36 p1.toNatClampNeg) g2) rfl rfl rfl) (fun v3 g4 => ?_)
    refine zi_icmp_ne (pc := 37) 44 hX dX1_isHeardBy_37 (by decide) (fun _ => ?_) (fun _ => ?_)
    · refine zi_iconst (pc := 40) hX dX1_isHeardBy_40 ki_1 ?_
      refine zi_goto (pc := 41) 45 hX dX1_isHeardBy_41 (by decide) ?_
      exact zi_ret (pc := 45) hX dX1_isHeardBy_45 et_z1 rfl rfl rfl
    · refine zi_iconst (pc := 44) hX dX1_isHeardBy_44 ki_0 ?_
      exact zi_ret (pc := 45) hX dX1_isHeardBy_45 et_z0 rfl rfl rfl
theorem ct_Le_isHeardBy {w : et_W} (hw : et_Sane w) (p1 : Int32) (p2 : Int32) (g : et_G) : et_C w yX1_isHeardBy (Cond.code yX1_isHeardBy cX1_isHeardBy 4 (some .boolean)) rm_Le_isHeardBy et_eI [.ref (et_ad w 34), .int p1, .int p2, .ref (et_ad w 2)] g (fn_Le_isHeardBy p1 p2 g) := et_mk hw (by decide) rfl rfl (fun X hX => zw_Le_isHeardBy hX p1 p2 g)
def rm_Gr_heardBy : Room := { frames := 2, cells := 0, slots := 0, locals := 45 }
def fn_Gr_heardBy_5 (x1 : Int32) (x2 : Int32) : Nat → Int32 → Int32 → et_G → Option (Int32 × et_G)
  | 0, _, _, _ => none
  | n + 1, x3, x4, g =>
    if (g.1 34 0) ≤ x4 then
      some (x3, g)
    else
      et_ck (et_ib x4 20) (
      if x2 < (g.1 36 x4.toNatClampNeg) then
        et_b (x4 + (1 : Int32)) (fun v1 =>
        fn_Gr_heardBy_5 x1 x2 n x3 v1 g)
      else
        et_bd (fn_Le_isHeardBy x4 x1 g) (fun v2 g3 =>
        if v2 = 0 then
          et_b (x4 + (1 : Int32)) (fun v4 =>
          fn_Gr_heardBy_5 x1 x2 n x3 v4 g3)
        else
          et_b (x3 ||| ((1 : Int32) <<< (x4 &&& 31))) (fun v5 =>
          et_b (x4 + (1 : Int32)) (fun v6 =>
          fn_Gr_heardBy_5 x1 x2 n v5 v6 g3))))
def fn_Gr_heardBy (p1 : Int32) (p2 : Int32) (g : et_G) : Option (Int32 × et_G) :=
  fn_Gr_heardBy_5 p1 p2 1000000 (0 : Int32) (0 : Int32) g
theorem zp_Gr_heardBy_5 {X : et_X} {w : et_W} (hX : et_Gd X w cX0_heardBy RX0 5 (some .int) [] rm_Gr_heardBy) (x1 : Int32) (x2 : Int32) : ∀ (n : Nat) (x3 : Int32) (x4 : Int32) (g : et_G), et_Z X w 0 et_eI 5 [some (.ref (et_ad w 48)), some (.int x1), some (.int x2), some (.int x3), some (.int x4)] [] g (fn_Gr_heardBy_5 x1 x2 n x3 x4 g) := by
  intro n
  induction n with
  | zero =>
    intro x3 x4 g a g2 h
    cases h
  | succ n ih =>
    intro x3 x4 g
    rw [fn_Gr_heardBy_5]
    refine zi_iload4 (pc := 5) hX dX0_heardBy_5 ?_
    refine zi_aload0 (pc := 7) hX dX0_heardBy_7 ?_
    refine zi_getr (q := 34) (pc := 8) hX dX0_heardBy_8 fl_416 ly_48 rfl ?_
    refine zi_geti (pc := 11) hX dX0_heardBy_11 fl_361 ly_34 rfl ?_
    refine zi_icmp_ge (pc := 14) 61 hX dX0_heardBy_14 (by decide) (fun _ => ?_) (fun _ => ?_)
    · refine zi_iload3 (pc := 61) hX dX0_heardBy_61 ?_
      exact zi_ret (pc := 62) hX dX0_heardBy_62 rfl rfl rfl rfl
    · refine zi_aload0 (pc := 17) hX dX0_heardBy_17 ?_
      refine zi_getr (q := 34) (pc := 18) hX dX0_heardBy_18 fl_416 ly_48 rfl ?_
      refine zi_getr (q := 36) (pc := 21) hX dX0_heardBy_21 fl_366 ly_34 rfl ?_
      refine zi_iload4 (pc := 24) hX dX0_heardBy_24 ?_
      refine zi_iald (pc := 26) hX dX0_heardBy_26 ly_36 ?_
      refine zi_iload2 (pc := 27) hX dX0_heardBy_27 ?_
      refine zi_icmp_gt (pc := 28) 55 hX dX0_heardBy_28 (by decide) (fun _ => ?_) (fun _ => ?_)
      · refine zi_iincb4 (pc := 55) hX dX0_heardBy_55 (kn_1 _) rfl rfl (fun v1 => ?_)
        refine zi_goto (pc := 58) 5 hX dX0_heardBy_58 (by decide) ?_
        exact ih x3 v1 g
      · refine zi_aload0 (pc := 31) hX dX0_heardBy_31 ?_
        refine zi_getr (q := 34) (pc := 32) hX dX0_heardBy_32 fl_416 ly_48 rfl ?_
        refine zi_iload4 (pc := 35) hX dX0_heardBy_35 ?_
        refine zi_iload1 (pc := 37) hX dX0_heardBy_37 ?_
        refine zi_aload0 (pc := 38) hX dX0_heardBy_38 ?_
        refine zi_getr (q := 2) (pc := 39) hX dX0_heardBy_39 fl_415 ly_48 rfl ?_
        refine zi_callI (zc_virt (pc := 42) hX dX0_heardBy_42 tm_585 md_X1_isHeardBy mi_X1_isHeardBy ly_34 (ct_Le_isHeardBy hX.sane x4 x1 g) rfl rfl rfl) (fun v2 g3 => ?_)
        refine zi_if_eq (pc := 45) 55 hX dX0_heardBy_45 (by decide) (fun _ => ?_) (fun _ => ?_)
        · refine zi_iincb4 (pc := 55) hX dX0_heardBy_55 (kn_1 _) rfl rfl (fun v4 => ?_)
          refine zi_goto (pc := 58) 5 hX dX0_heardBy_58 (by decide) ?_
          exact ih x3 v4 g3
        · refine zi_iload3 (pc := 48) hX dX0_heardBy_48 ?_
          refine zi_iconst (pc := 49) hX dX0_heardBy_49 ki_1 ?_
          refine zi_iload4 (pc := 50) hX dX0_heardBy_50 ?_
          refine zi_ishl (pc := 52) hX dX0_heardBy_52 ?_
          refine zi_ior (pc := 53) hX dX0_heardBy_53 ?_
          refine zi_bi (fun v5 => ?_)
          refine zi_istore3 (pc := 54) hX dX0_heardBy_54 rfl rfl ?_
          refine zi_iincb4 (pc := 55) hX dX0_heardBy_55 (kn_1 _) rfl rfl (fun v6 => ?_)
          refine zi_goto (pc := 58) 5 hX dX0_heardBy_58 (by decide) ?_
          exact ih v5 v6 g3
theorem zw_Gr_heardBy {X : et_X} {w : et_W} (hX : et_Gd X w cX0_heardBy RX0 5 (some .int) [] rm_Gr_heardBy) (p1 : Int32) (p2 : Int32) (g : et_G) : et_Z X w 0 et_eI 0 [some (.ref (et_ad w 48)), some (.int p1), some (.int p2), none, none] [] g (fn_Gr_heardBy p1 p2 g) := by
  unfold fn_Gr_heardBy
  refine zi_iconst (pc := 0) hX dX0_heardBy_0 ki_0 ?_
  refine zi_istore3 (pc := 1) hX dX0_heardBy_1 rfl rfl ?_
  refine zi_iconst (pc := 2) hX dX0_heardBy_2 ki_0 ?_
  refine zi_istore4 (pc := 3) hX dX0_heardBy_3 rfl rfl ?_
  exact zp_Gr_heardBy_5 hX p1 p2 1000000 (0 : Int32) (0 : Int32) g
theorem ct_Gr_heardBy {w : et_W} (hw : et_Sane w) (p1 : Int32) (p2 : Int32) (g : et_G) : et_C w yX0_heardBy (Cond.code yX0_heardBy cX0_heardBy 5 (some .int)) rm_Gr_heardBy et_eI [.ref (et_ad w 48), .int p1, .int p2] g (fn_Gr_heardBy p1 p2 g) := et_mk hw (by decide) rfl rfl (fun X hX => zw_Gr_heardBy hX p1 p2 g)
def rm_Tw_wasThere : Room := { frames := 1, cells := 0, slots := 0, locals := 22 }
def fn_Tw_wasThere (p1 : Int32) (p2 : Int32) (g : et_G) : Option (Int32 × et_G) :=
  et_ck (et_ib p2 8) (
  et_bd (fn_Tw_placeAt p1 (g.1 11 p2.toNatClampNeg) g) (fun v1 g2 =>
  et_ck (et_ib p2 8) (
  if v1 = (g2.1 10 p2.toNatClampNeg) then
    some ((1 : Int32), g2)
  else
    some ((0 : Int32), g2))))
theorem zw_Tw_wasThere {X : et_X} {w : et_W} (hX : et_Gd X w cX6_wasThere RX6 3 (some .boolean) [] rm_Tw_wasThere) (p1 : Int32) (p2 : Int32) (g : et_G) : et_Z X w 0 et_eI 0 [some (.ref (et_ad w 2)), some (.int p1), some (.int p2)] [] g (fn_Tw_wasThere p1 p2 g) := by
  unfold fn_Tw_wasThere
  refine zi_aload0 (pc := 0) hX dX6_wasThere_0 ?_
  refine zi_iload1 (pc := 1) hX dX6_wasThere_1 ?_
  refine zi_aload0 (pc := 2) hX dX6_wasThere_2 ?_
  refine zi_getr (q := 11) (pc := 3) hX dX6_wasThere_3 fl_209 ly_2 rfl ?_
  refine zi_iload2 (pc := 6) hX dX6_wasThere_6 ?_
  refine zi_iald (pc := 7) hX dX6_wasThere_7 ly_11 ?_
  refine zi_callI (zc_virt (pc := 8) hX dX6_wasThere_8 tm_605 md_X6_placeAt mi_X6_placeAt ly_2 (ct_Tw_placeAt hX.sane p1 (g.1 11 p2.toNatClampNeg) g) rfl rfl rfl) (fun v1 g2 => ?_)
  refine zi_aload0 (pc := 11) hX dX6_wasThere_11 ?_
  refine zi_getr (q := 10) (pc := 12) hX dX6_wasThere_12 fl_206 ly_2 rfl ?_
  refine zi_iload2 (pc := 15) hX dX6_wasThere_15 ?_
  refine zi_iald (pc := 16) hX dX6_wasThere_16 ly_10 ?_
  refine zi_icmp_ne (pc := 17) 24 hX dX6_wasThere_17 (by decide) (fun _ => ?_) (fun _ => ?_)
  · refine zi_iconst (pc := 20) hX dX6_wasThere_20 ki_1 ?_
    refine zi_goto (pc := 21) 25 hX dX6_wasThere_21 (by decide) ?_
    exact zi_ret (pc := 25) hX dX6_wasThere_25 et_z1 rfl rfl rfl
  · refine zi_iconst (pc := 24) hX dX6_wasThere_24 ki_0 ?_
    exact zi_ret (pc := 25) hX dX6_wasThere_25 et_z0 rfl rfl rfl
theorem ct_Tw_wasThere {w : et_W} (hw : et_Sane w) (p1 : Int32) (p2 : Int32) (g : et_G) : et_C w yX6_wasThere (Cond.code yX6_wasThere cX6_wasThere 3 (some .boolean)) rm_Tw_wasThere et_eI [.ref (et_ad w 2), .int p1, .int p2] g (fn_Tw_wasThere p1 p2 g) := et_mk hw (by decide) rfl rfl (fun X hX => zw_Tw_wasThere hX p1 p2 g)
def rm_Et_hasBit : Room := { frames := 0, cells := 0, slots := 0, locals := 0 }
def fn_Et_hasBit (p0 : Int32) (p1 : Int32) (g : et_G) : Option (Int32 × et_G) :=
  if ((et_us p0 p1) &&& (1 : Int32)) = 0 then
    some ((0 : Int32), g)
  else
    some ((1 : Int32), g)
theorem zw_Et_hasBit {X : et_X} {w : et_W} (hX : et_Gd X w cX9_hasBit RX9 2 (some .boolean) [] rm_Et_hasBit) (p0 : Int32) (p1 : Int32) (g : et_G) : et_Z X w 0 et_eI 0 [some (.int p0), some (.int p1)] [] g (fn_Et_hasBit p0 p1 g) := by
  unfold fn_Et_hasBit
  refine zi_iload0 (pc := 0) hX dX9_hasBit_0 ?_
  refine zi_iload1 (pc := 1) hX dX9_hasBit_1 ?_
  refine zi_iushr (pc := 2) hX dX9_hasBit_2 ?_
  refine zi_iconst (pc := 3) hX dX9_hasBit_3 ki_1 ?_
  refine zi_iand (pc := 4) hX dX9_hasBit_4 ?_
  refine zi_if_eq (pc := 5) 12 hX dX9_hasBit_5 (by decide) (fun _ => ?_) (fun _ => ?_)
  · refine zi_iconst (pc := 12) hX dX9_hasBit_12 ki_0 ?_
    exact zi_ret (pc := 13) hX dX9_hasBit_13 et_z0 rfl rfl rfl
  · refine zi_iconst (pc := 8) hX dX9_hasBit_8 ki_1 ?_
    refine zi_goto (pc := 9) 13 hX dX9_hasBit_9 (by decide) ?_
    exact zi_ret (pc := 13) hX dX9_hasBit_13 et_z1 rfl rfl rfl
theorem ct_Et_hasBit {w : et_W} (hw : et_Sane w) (p0 : Int32) (p1 : Int32) (g : et_G) : et_C w yX9_hasBit (Cond.code yX9_hasBit cX9_hasBit 2 (some .boolean)) rm_Et_hasBit et_eI [.int p0, .int p1] g (fn_Et_hasBit p0 p1 g) := et_mk hw (by decide) rfl rfl (fun X hX => zw_Et_hasBit hX p0 p1 g)
def rm_Tw_isNear : Room := { frames := 1, cells := 0, slots := 0, locals := 21 }
def fn_Tw_isNear (p1 : Int32) (p2 : Int32) (g : et_G) : Option (Int32 × et_G) :=
  if p1 < 0 then
    some ((0 : Int32), g)
  else
    if (g.1 2 1) ≤ p1 then
      some ((0 : Int32), g)
    else
      et_ck (et_ib p1 6) (
      et_bd (fn_Et_hasBit (g.1 7 p1.toNatClampNeg) p2 g) (fun v1 g2 =>
      if v1 = 0 then
        some ((0 : Int32), g2)
      else
        some ((1 : Int32), g2)))
theorem zw_Tw_isNear {X : et_X} {w : et_W} (hX : et_Gd X w cX6_isNear RX6 3 (some .boolean) [] rm_Tw_isNear) (p1 : Int32) (p2 : Int32) (g : et_G) : et_Z X w 0 et_eI 0 [some (.ref (et_ad w 2)), some (.int p1), some (.int p2)] [] g (fn_Tw_isNear p1 p2 g) := by
  unfold fn_Tw_isNear
  refine zi_iload1 (pc := 0) hX dX6_isNear_0 ?_
  refine zi_if_lt (pc := 1) 29 hX dX6_isNear_1 (by decide) (fun _ => ?_) (fun _ => ?_)
  · refine zi_iconst (pc := 29) hX dX6_isNear_29 ki_0 ?_
    exact zi_ret (pc := 30) hX dX6_isNear_30 et_z0 rfl rfl rfl
  · refine zi_iload1 (pc := 4) hX dX6_isNear_4 ?_
    refine zi_aload0 (pc := 5) hX dX6_isNear_5 ?_
    refine zi_geti (pc := 6) hX dX6_isNear_6 fl_187 ly_2 rfl ?_
    refine zi_icmp_ge (pc := 9) 29 hX dX6_isNear_9 (by decide) (fun _ => ?_) (fun _ => ?_)
    · refine zi_iconst (pc := 29) hX dX6_isNear_29 ki_0 ?_
      exact zi_ret (pc := 30) hX dX6_isNear_30 et_z0 rfl rfl rfl
    · refine zi_aload0 (pc := 12) hX dX6_isNear_12 ?_
      refine zi_getr (q := 7) (pc := 13) hX dX6_isNear_13 fl_190 ly_2 rfl ?_
      refine zi_iload1 (pc := 16) hX dX6_isNear_16 ?_
      refine zi_iald (pc := 17) hX dX6_isNear_17 ly_7 ?_
      refine zi_iload2 (pc := 18) hX dX6_isNear_18 ?_
      refine zi_callI (zc_nest (pc := 19) hX dX6_isNear_19 nl_606 md_X9_hasBit st_X9_hasBit (ct_Et_hasBit hX.sane (g.1 7 p1.toNatClampNeg) p2 g) rfl rfl rfl) (fun v1 g2 => ?_)
      refine zi_if_eq (pc := 22) 29 hX dX6_isNear_22 (by decide) (fun _ => ?_) (fun _ => ?_)
      · refine zi_iconst (pc := 29) hX dX6_isNear_29 ki_0 ?_
        exact zi_ret (pc := 30) hX dX6_isNear_30 et_z0 rfl rfl rfl
      · refine zi_iconst (pc := 25) hX dX6_isNear_25 ki_1 ?_
        refine zi_goto (pc := 26) 30 hX dX6_isNear_26 (by decide) ?_
        exact zi_ret (pc := 30) hX dX6_isNear_30 et_z1 rfl rfl rfl
theorem ct_Tw_isNear {w : et_W} (hw : et_Sane w) (p1 : Int32) (p2 : Int32) (g : et_G) : et_C w yX6_isNear (Cond.code yX6_isNear cX6_isNear 3 (some .boolean)) rm_Tw_isNear et_eI [.ref (et_ad w 2), .int p1, .int p2] g (fn_Tw_isNear p1 p2 g) := et_mk hw (by decide) rfl rfl (fun X hX => zw_Tw_isNear hX p1 p2 g)
def rm_Tw_ownHows : Room := { frames := 2, cells := 0, slots := 0, locals := 44 }
def fn_Tw_ownHows_43 (x1 : Int32) (x3 : Int32) (x4 : Int32) (x5 : Int32) (g : et_G) : Option (Int32 × et_G) :=
  if x4 = 0 then
    et_bd (fn_Et_hasBit (g.1 2 9) x3 g) (fun v3 g4 =>
    if v3 = 0 then
      some (x5, g4)
    else
      et_bd (fn_Et_hasBit (g4.1 2 10) x3 g4) (fun v5 g6 =>
      if v5 = 0 then
        et_ck (et_ib x3 8) (
        et_bd (fn_Tw_placeAt x1 (g6.1 11 x3.toNatClampNeg) g6) (fun v7 g8 =>
        et_ck (et_ib x3 8) (
        et_bd (fn_Tw_isNear v7 (g8.1 10 x3.toNatClampNeg) g8) (fun v9 g10 =>
        if v9 = 0 then
          some (x5, g10)
        else
          et_b (x5 ||| (2 : Int32)) (fun v11 =>
          some (v11, g10))))))
      else
        some (x5, g6)))
  else
    some (x5, g)
def fn_Tw_ownHows (p1 : Int32) (p2 : Int32) (p3 : Int32) (p4 : Int32) (g : et_G) : Option (Int32 × et_G) :=
  et_ck (et_ib p3 8) (
  if (g.1 11 p3.toNatClampNeg) ≤ p2 then
    et_bd (fn_Tw_wasThere p1 p3 g) (fun v1 g2 =>
    if v1 = 0 then
      fn_Tw_ownHows_43 p1 p3 p4 (0 : Int32) g2
    else
      et_bd (fn_Et_hasBit (g2.1 2 10) p3 g2) (fun v12 g13 =>
      if v12 = p4 then
        et_b ((0 : Int32) ||| (1 : Int32)) (fun v14 =>
        fn_Tw_ownHows_43 p1 p3 p4 v14 g13)
      else
        fn_Tw_ownHows_43 p1 p3 p4 (0 : Int32) g13))
  else
    some ((0 : Int32), g))
theorem zp_Tw_ownHows_43 {X : et_X} {w : et_W} (hX : et_Gd X w cX6_ownHows RX6 6 (some .int) [] rm_Tw_ownHows) (x1 : Int32) (x3 : Int32) (x4 : Int32) (x5 : Int32) (g : et_G) : et_Z X w 0 et_eI 43 [some (.ref (et_ad w 2)), some (.int x1), none, some (.int x3), some (.int x4), some (.int x5)] [] g (fn_Tw_ownHows_43 x1 x3 x4 x5 g) := by
  unfold fn_Tw_ownHows_43
  refine zi_iload4 (pc := 43) hX dX6_ownHows_43 ?_
  refine zi_if_ne (pc := 45) 100 hX dX6_ownHows_45 (by decide) (fun _ => ?_) (fun _ => ?_)
  · refine zi_aload0 (pc := 48) hX dX6_ownHows_48 ?_
    refine zi_geti (pc := 49) hX dX6_ownHows_49 fl_212 ly_2 rfl ?_
    refine zi_iload3 (pc := 52) hX dX6_ownHows_52 ?_
    refine zi_callI (zc_nest (pc := 53) hX dX6_ownHows_53 nl_606 md_X9_hasBit st_X9_hasBit (ct_Et_hasBit hX.sane (g.1 2 9) x3 g) rfl rfl rfl) (fun v3 g4 => ?_)
    refine zi_if_eq (pc := 56) 100 hX dX6_ownHows_56 (by decide) (fun _ => ?_) (fun _ => ?_)
    · refine zi_iload5 (pc := 100) hX dX6_ownHows_100 ?_
      exact zi_ret (pc := 102) hX dX6_ownHows_102 rfl rfl rfl rfl
    · refine zi_aload0 (pc := 59) hX dX6_ownHows_59 ?_
      refine zi_geti (pc := 60) hX dX6_ownHows_60 fl_215 ly_2 rfl ?_
      refine zi_iload3 (pc := 63) hX dX6_ownHows_63 ?_
      refine zi_callI (zc_nest (pc := 64) hX dX6_ownHows_64 nl_606 md_X9_hasBit st_X9_hasBit (ct_Et_hasBit hX.sane (g4.1 2 10) x3 g4) rfl rfl rfl) (fun v5 g6 => ?_)
      refine zi_if_ne (pc := 67) 100 hX dX6_ownHows_67 (by decide) (fun _ => ?_) (fun _ => ?_)
      · refine zi_aload0 (pc := 70) hX dX6_ownHows_70 ?_
        refine zi_aload0 (pc := 71) hX dX6_ownHows_71 ?_
        refine zi_iload1 (pc := 72) hX dX6_ownHows_72 ?_
        refine zi_aload0 (pc := 73) hX dX6_ownHows_73 ?_
        refine zi_getr (q := 11) (pc := 74) hX dX6_ownHows_74 fl_209 ly_2 rfl ?_
        refine zi_iload3 (pc := 77) hX dX6_ownHows_77 ?_
        refine zi_iald (pc := 78) hX dX6_ownHows_78 ly_11 ?_
        refine zi_callI (zc_virt (pc := 79) hX dX6_ownHows_79 tm_605 md_X6_placeAt mi_X6_placeAt ly_2 (ct_Tw_placeAt hX.sane x1 (g6.1 11 x3.toNatClampNeg) g6) rfl rfl rfl) (fun v7 g8 => ?_)
        refine zi_aload0 (pc := 82) hX dX6_ownHows_82 ?_
        refine zi_getr (q := 10) (pc := 83) hX dX6_ownHows_83 fl_206 ly_2 rfl ?_
        refine zi_iload3 (pc := 86) hX dX6_ownHows_86 ?_
        refine zi_iald (pc := 87) hX dX6_ownHows_87 ly_10 ?_
        refine zi_callI (zc_virt (pc := 88) hX dX6_ownHows_88 tm_609 md_X6_isNear mi_X6_isNear ly_2 (ct_Tw_isNear hX.sane v7 (g8.1 10 x3.toNatClampNeg) g8) rfl rfl rfl) (fun v9 g10 => ?_)
        refine zi_if_eq (pc := 91) 100 hX dX6_ownHows_91 (by decide) (fun _ => ?_) (fun _ => ?_)
        · refine zi_iload5 (pc := 100) hX dX6_ownHows_100 ?_
          exact zi_ret (pc := 102) hX dX6_ownHows_102 rfl rfl rfl rfl
        · refine zi_iload5 (pc := 94) hX dX6_ownHows_94 ?_
          refine zi_iconst (pc := 96) hX dX6_ownHows_96 ki_2 ?_
          refine zi_ior (pc := 97) hX dX6_ownHows_97 ?_
          refine zi_bi (fun v11 => ?_)
          refine zi_istore5 (pc := 98) hX dX6_ownHows_98 rfl rfl ?_
          refine zi_iload5 (pc := 100) hX dX6_ownHows_100 ?_
          exact zi_ret (pc := 102) hX dX6_ownHows_102 rfl rfl rfl rfl
      · refine zi_iload5 (pc := 100) hX dX6_ownHows_100 ?_
        exact zi_ret (pc := 102) hX dX6_ownHows_102 rfl rfl rfl rfl
  · refine zi_iload5 (pc := 100) hX dX6_ownHows_100 ?_
    exact zi_ret (pc := 102) hX dX6_ownHows_102 rfl rfl rfl rfl
theorem zw_Tw_ownHows {X : et_X} {w : et_W} (hX : et_Gd X w cX6_ownHows RX6 6 (some .int) [] rm_Tw_ownHows) (p1 : Int32) (p2 : Int32) (p3 : Int32) (p4 : Int32) (g : et_G) : et_Z X w 0 et_eI 0 [some (.ref (et_ad w 2)), some (.int p1), some (.int p2), some (.int p3), some (.int p4), none] [] g (fn_Tw_ownHows p1 p2 p3 p4 g) := by
  unfold fn_Tw_ownHows
  refine zi_aload0 (pc := 0) hX dX6_ownHows_0 ?_
  refine zi_getr (q := 11) (pc := 1) hX dX6_ownHows_1 fl_209 ly_2 rfl ?_
  refine zi_iload3 (pc := 4) hX dX6_ownHows_4 ?_
  refine zi_iald (pc := 5) hX dX6_ownHows_5 ly_11 ?_
  refine zi_iload2 (pc := 6) hX dX6_ownHows_6 ?_
  refine zi_icmp_le (pc := 7) 12 hX dX6_ownHows_7 (by decide) (fun _ => ?_) (fun _ => ?_)
  · refine zi_iconst (pc := 12) hX dX6_ownHows_12 ki_0 ?_
    refine zi_istore5 (pc := 13) hX dX6_ownHows_13 rfl rfl ?_
    refine zi_aload0 (pc := 15) hX dX6_ownHows_15 ?_
    refine zi_iload1 (pc := 16) hX dX6_ownHows_16 ?_
    refine zi_iload3 (pc := 17) hX dX6_ownHows_17 ?_
    refine zi_callI (zc_virt (pc := 18) hX dX6_ownHows_18 tm_601 md_X6_wasThere mi_X6_wasThere ly_2 (ct_Tw_wasThere hX.sane p1 p3 g) rfl rfl rfl) (fun v1 g2 => ?_)
    refine zi_if_eq (pc := 21) 43 hX dX6_ownHows_21 (by decide) (fun _ => ?_) (fun _ => ?_)
    · refine zi_drop (le_s (le_s (le_n (le_s (le_s (le_s le_nil)))))) ?_; exact zp_Tw_ownHows_43 hX p1 p3 p4 (0 : Int32) g2
    · refine zi_aload0 (pc := 24) hX dX6_ownHows_24 ?_
      refine zi_geti (pc := 25) hX dX6_ownHows_25 fl_215 ly_2 rfl ?_
      refine zi_iload3 (pc := 28) hX dX6_ownHows_28 ?_
      refine zi_callI (zc_nest (pc := 29) hX dX6_ownHows_29 nl_606 md_X9_hasBit st_X9_hasBit (ct_Et_hasBit hX.sane (g2.1 2 10) p3 g2) rfl rfl rfl) (fun v12 g13 => ?_)
      refine zi_iload4 (pc := 32) hX dX6_ownHows_32 ?_
      refine zi_icmp_ne (pc := 34) 43 hX dX6_ownHows_34 (by decide) (fun _ => ?_) (fun _ => ?_)
      · refine zi_iload5 (pc := 37) hX dX6_ownHows_37 ?_
        refine zi_iconst (pc := 39) hX dX6_ownHows_39 ki_1 ?_
        refine zi_ior (pc := 40) hX dX6_ownHows_40 ?_
        refine zi_bi (fun v14 => ?_)
        refine zi_istore5 (pc := 41) hX dX6_ownHows_41 rfl rfl ?_
        refine zi_drop (le_s (le_s (le_n (le_s (le_s (le_s le_nil)))))) ?_; exact zp_Tw_ownHows_43 hX p1 p3 p4 v14 g13
      · refine zi_drop (le_s (le_s (le_n (le_s (le_s (le_s le_nil)))))) ?_; exact zp_Tw_ownHows_43 hX p1 p3 p4 (0 : Int32) g13
  · refine zi_iconst (pc := 10) hX dX6_ownHows_10 ki_0 ?_
    exact zi_ret (pc := 11) hX dX6_ownHows_11 rfl rfl rfl rfl
theorem ct_Tw_ownHows {w : et_W} (hw : et_Sane w) (p1 : Int32) (p2 : Int32) (p3 : Int32) (p4 : Int32) (g : et_G) : et_C w yX6_ownHows (Cond.code yX6_ownHows cX6_ownHows 6 (some .int)) rm_Tw_ownHows et_eI [.ref (et_ad w 2), .int p1, .int p2, .int p3, .int p4] g (fn_Tw_ownHows p1 p2 p3 p4 g) := et_mk hw (by decide) rfl rfl (fun X hX => zw_Tw_ownHows hX p1 p2 p3 p4 g)
def rm_Tw_ownThings : Room := { frames := 3, cells := 0, slots := 0, locals := 69 }
def fn_Tw_ownThings_5 (x1 : Int32) (x2 : Int32) : Nat → Int32 → Int32 → et_G → Option (Int32 × et_G)
  | 0, _, _, _ => none
  | n + 1, x3, x4, g =>
    if (g.1 2 5) ≤ x4 then
      some (x3, g)
    else
      et_bd (fn_Tw_ownHows x1 x2 x4 (0 : Int32) g) (fun v1 g2 =>
      if v1 = 0 then
        et_b (x4 + (1 : Int32)) (fun v3 =>
        fn_Tw_ownThings_5 x1 x2 n x3 v3 g2)
      else
        et_b (x3 ||| ((1 : Int32) <<< (x4 &&& 31))) (fun v4 =>
        et_b (x4 + (1 : Int32)) (fun v5 =>
        fn_Tw_ownThings_5 x1 x2 n v4 v5 g2)))
def fn_Tw_ownThings (p1 : Int32) (p2 : Int32) (g : et_G) : Option (Int32 × et_G) :=
  fn_Tw_ownThings_5 p1 p2 1000000 (0 : Int32) (0 : Int32) g
theorem zp_Tw_ownThings_5 {X : et_X} {w : et_W} (hX : et_Gd X w cX6_ownThings RX6 5 (some .int) [] rm_Tw_ownThings) (x1 : Int32) (x2 : Int32) : ∀ (n : Nat) (x3 : Int32) (x4 : Int32) (g : et_G), et_Z X w 0 et_eI 5 [some (.ref (et_ad w 2)), some (.int x1), some (.int x2), some (.int x3), some (.int x4)] [] g (fn_Tw_ownThings_5 x1 x2 n x3 x4 g) := by
  intro n
  induction n with
  | zero =>
    intro x3 x4 g a g2 h
    cases h
  | succ n ih =>
    intro x3 x4 g
    rw [fn_Tw_ownThings_5]
    refine zi_iload4 (pc := 5) hX dX6_ownThings_5 ?_
    refine zi_aload0 (pc := 7) hX dX6_ownThings_7 ?_
    refine zi_geti (pc := 8) hX dX6_ownThings_8 fl_198 ly_2 rfl ?_
    refine zi_icmp_ge (pc := 11) 39 hX dX6_ownThings_11 (by decide) (fun _ => ?_) (fun _ => ?_)
    · refine zi_iload3 (pc := 39) hX dX6_ownThings_39 ?_
      exact zi_ret (pc := 40) hX dX6_ownThings_40 rfl rfl rfl rfl
    · refine zi_aload0 (pc := 14) hX dX6_ownThings_14 ?_
      refine zi_iload1 (pc := 15) hX dX6_ownThings_15 ?_
      refine zi_iload2 (pc := 16) hX dX6_ownThings_16 ?_
      refine zi_iload4 (pc := 17) hX dX6_ownThings_17 ?_
      refine zi_iconst (pc := 19) hX dX6_ownThings_19 ki_0 ?_
      refine zi_callI (zc_virt (pc := 20) hX dX6_ownThings_20 tm_597 md_X6_ownHows mi_X6_ownHows ly_2 (ct_Tw_ownHows hX.sane x1 x2 x4 (0 : Int32) g) rfl rfl rfl) (fun v1 g2 => ?_)
      refine zi_if_eq (pc := 23) 33 hX dX6_ownThings_23 (by decide) (fun _ => ?_) (fun _ => ?_)
      · refine zi_iincb4 (pc := 33) hX dX6_ownThings_33 (kn_1 _) rfl rfl (fun v3 => ?_)
        refine zi_goto (pc := 36) 5 hX dX6_ownThings_36 (by decide) ?_
        exact ih x3 v3 g2
      · refine zi_iload3 (pc := 26) hX dX6_ownThings_26 ?_
        refine zi_iconst (pc := 27) hX dX6_ownThings_27 ki_1 ?_
        refine zi_iload4 (pc := 28) hX dX6_ownThings_28 ?_
        refine zi_ishl (pc := 30) hX dX6_ownThings_30 ?_
        refine zi_ior (pc := 31) hX dX6_ownThings_31 ?_
        refine zi_bi (fun v4 => ?_)
        refine zi_istore3 (pc := 32) hX dX6_ownThings_32 rfl rfl ?_
        refine zi_iincb4 (pc := 33) hX dX6_ownThings_33 (kn_1 _) rfl rfl (fun v5 => ?_)
        refine zi_goto (pc := 36) 5 hX dX6_ownThings_36 (by decide) ?_
        exact ih v4 v5 g2
theorem zw_Tw_ownThings {X : et_X} {w : et_W} (hX : et_Gd X w cX6_ownThings RX6 5 (some .int) [] rm_Tw_ownThings) (p1 : Int32) (p2 : Int32) (g : et_G) : et_Z X w 0 et_eI 0 [some (.ref (et_ad w 2)), some (.int p1), some (.int p2), none, none] [] g (fn_Tw_ownThings p1 p2 g) := by
  unfold fn_Tw_ownThings
  refine zi_iconst (pc := 0) hX dX6_ownThings_0 ki_0 ?_
  refine zi_istore3 (pc := 1) hX dX6_ownThings_1 rfl rfl ?_
  refine zi_iconst (pc := 2) hX dX6_ownThings_2 ki_0 ?_
  refine zi_istore4 (pc := 3) hX dX6_ownThings_3 rfl rfl ?_
  exact zp_Tw_ownThings_5 hX p1 p2 1000000 (0 : Int32) (0 : Int32) g
theorem ct_Tw_ownThings {w : et_W} (hw : et_Sane w) (p1 : Int32) (p2 : Int32) (g : et_G) : et_C w yX6_ownThings (Cond.code yX6_ownThings cX6_ownThings 5 (some .int)) rm_Tw_ownThings et_eI [.ref (et_ad w 2), .int p1, .int p2] g (fn_Tw_ownThings p1 p2 g) := et_mk hw (by decide) rfl rfl (fun X hX => zw_Tw_ownThings hX p1 p2 g)
def rm_Gr_lay : Room := { frames := 4, cells := 0, slots := 0, locals := 93 }
def fn_Gr_lay_171 : Nat → Int32 → et_G → Option (Unit × et_G)
  | 0, _, _ => none
  | n + 1, x1, g =>
    if (g.1 34 0) ≤ x1 then
      some ((), g)
    else
      et_ck (et_ib x1 20) (
      et_ck (et_ib x1 20) (
      et_ck (et_ib x1 20) (
      et_bd (fn_Gr_aboutRow (g.1 37 x1.toNatClampNeg) (g.1 39 x1.toNatClampNeg) g) (fun v4 g5 =>
      et_ck (et_ib v4 16) (
      et_ck (et_ib x1 20) (et_b (et_si g5 53 x1.toNatClampNeg ((g.1 49 x1.toNatClampNeg) &&& (g5.1 52 v4.toNatClampNeg))) (fun g6 =>
      et_b (x1 + (1 : Int32)) (fun v7 =>
      fn_Gr_lay_171 n v7 g6))))))))
def fn_Gr_lay_15 : Nat → Int32 → et_G → Option (Unit × et_G)
  | 0, _, _ => none
  | n + 1, x1, g =>
    if (g.1 34 0) ≤ x1 then
      fn_Gr_lay_171 1000000 (0 : Int32) g
    else
      et_ck (et_ib x1 20) (
      et_b (g.1 35 x1.toNatClampNeg) (fun v8 =>
      et_ck (et_ib x1 20) (
      et_b (g.1 36 x1.toNatClampNeg) (fun v9 =>
      et_bd (fn_Gr_heardBy v8 v9 g) (fun v10 g11 =>
      et_ck (et_ib x1 20) (et_b (et_si g11 49 x1.toNatClampNeg v10) (fun g12 =>
      et_bd (fn_Tw_ownThings v8 v9 g12) (fun v13 g14 =>
      et_ck (et_ib x1 20) (et_b (et_si g14 50 x1.toNatClampNeg v13) (fun g15 =>
      et_ck (et_ib x1 20) (
      et_ck (et_ib x1 20) (
      et_bd (fn_Tw_ownHows v8 v9 (g15.1 37 x1.toNatClampNeg) (g15.1 39 x1.toNatClampNeg) g15) (fun v16 g17 =>
      et_ck (et_ib x1 20) (et_b (et_si g17 51 x1.toNatClampNeg v16) (fun g18 =>
      et_ck (et_ib x1 20) (
      et_ck (et_ib x1 20) (
      et_bd (fn_Gr_aboutRow (g18.1 37 x1.toNatClampNeg) (g18.1 39 x1.toNatClampNeg) g18) (fun v19 g20 =>
      et_ck (et_ib v19 16) (
      et_ck (et_ib v19 16) (et_b (et_si g20 52 v19.toNatClampNeg ((g20.1 52 v19.toNatClampNeg) ||| ((1 : Int32) <<< (x1 &&& 31)))) (fun g21 =>
      et_ck (et_ib x1 20) (
      if (g21.1 38 x1.toNatClampNeg) = (4 : Int32) then
        et_b (et_si g21 48 12 ((g21.1 48 12) ||| ((1 : Int32) <<< (x1 &&& 31)))) (fun g23 =>
        et_b (x1 + (1 : Int32)) (fun v24 =>
        fn_Gr_lay_15 n v24 g23))
      else
        et_b (x1 + (1 : Int32)) (fun v22 =>
        fn_Gr_lay_15 n v22 g21)))))))))))))))))))))))
def fn_Gr_lay (g : et_G) : Option (Unit × et_G) :=
  et_bd (fn_Ja_fill_52 (0 : Int32) g) (fun _ g2 =>
  et_b (et_si g2 48 12 (0 : Int32)) (fun g3 =>
  fn_Gr_lay_15 1000000 (0 : Int32) g3))
theorem zp_Gr_lay_171 {X : et_X} {w : et_W} (hX : et_Gd X w cX0_lay RX0 4 (none) [] rm_Gr_lay) : ∀ (n : Nat) (x1 : Int32) (g : et_G), et_Z X w 0 et_eU 171 [some (.ref (et_ad w 48)), some (.int x1), none, none] [] g (fn_Gr_lay_171 n x1 g) := by
  intro n
  induction n with
  | zero =>
    intro x1 g a g2 h
    cases h
  | succ n ih =>
    intro x1 g
    rw [fn_Gr_lay_171]
    refine zi_iload1 (pc := 171) hX dX0_lay_171 ?_
    refine zi_aload0 (pc := 172) hX dX0_lay_172 ?_
    refine zi_getr (q := 34) (pc := 173) hX dX0_lay_173 fl_416 ly_48 rfl ?_
    refine zi_geti (pc := 176) hX dX0_lay_176 fl_361 ly_34 rfl ?_
    refine zi_icmp_ge (pc := 179) 227 hX dX0_lay_179 (by decide) (fun _ => ?_) (fun _ => ?_)
    · exact zi_vret (pc := 227) hX dX0_lay_227 rfl rfl rfl
    · refine zi_aload0 (pc := 182) hX dX0_lay_182 ?_
      refine zi_getr (q := 53) (pc := 183) hX dX0_lay_183 fl_421 ly_48 rfl ?_
      refine zi_iload1 (pc := 186) hX dX0_lay_186 ?_
      refine zi_aload0 (pc := 187) hX dX0_lay_187 ?_
      refine zi_getr (q := 49) (pc := 188) hX dX0_lay_188 fl_417 ly_48 rfl ?_
      refine zi_iload1 (pc := 191) hX dX0_lay_191 ?_
      refine zi_iald (pc := 192) hX dX0_lay_192 ly_49 ?_
      refine zi_aload0 (pc := 193) hX dX0_lay_193 ?_
      refine zi_getr (q := 52) (pc := 194) hX dX0_lay_194 fl_420 ly_48 rfl ?_
      refine zi_aload0 (pc := 197) hX dX0_lay_197 ?_
      refine zi_getr (q := 34) (pc := 198) hX dX0_lay_198 fl_416 ly_48 rfl ?_
      refine zi_getr (q := 37) (pc := 201) hX dX0_lay_201 fl_369 ly_34 rfl ?_
      refine zi_iload1 (pc := 204) hX dX0_lay_204 ?_
      refine zi_iald (pc := 205) hX dX0_lay_205 ly_37 ?_
      refine zi_aload0 (pc := 206) hX dX0_lay_206 ?_
      refine zi_getr (q := 34) (pc := 207) hX dX0_lay_207 fl_416 ly_48 rfl ?_
      refine zi_getr (q := 39) (pc := 210) hX dX0_lay_210 fl_376 ly_34 rfl ?_
      refine zi_iload1 (pc := 213) hX dX0_lay_213 ?_
      refine zi_zald (pc := 214) hX dX0_lay_214 ly_39 ?_
      refine zi_callI (zc_stat (pc := 215) hX dX0_lay_215 tm_614 md_X0_aboutRow st_X0_aboutRow (ct_Gr_aboutRow hX.sane (g.1 37 x1.toNatClampNeg) (g.1 39 x1.toNatClampNeg) g) rfl rfl rfl) (fun v4 g5 => ?_)
      refine zi_iald (pc := 218) hX dX0_lay_218 ly_52 ?_
      refine zi_iand (pc := 219) hX dX0_lay_219 ?_
      refine zi_iast (pc := 220) hX dX0_lay_220 ly_53 (zi_bg (fun g6 => ?_))
      refine zi_iincb1 (pc := 221) hX dX0_lay_221 (kn_1 _) rfl rfl (fun v7 => ?_)
      refine zi_goto (pc := 224) 171 hX dX0_lay_224 (by decide) ?_
      exact ih v7 g6
theorem zp_Gr_lay_15 {X : et_X} {w : et_W} (hX : et_Gd X w cX0_lay RX0 4 (none) [] rm_Gr_lay) : ∀ (n : Nat) (x1 : Int32) (g : et_G), et_Z X w 0 et_eU 15 [some (.ref (et_ad w 48)), some (.int x1), none, none] [] g (fn_Gr_lay_15 n x1 g) := by
  intro n
  induction n with
  | zero =>
    intro x1 g a g2 h
    cases h
  | succ n ih =>
    intro x1 g
    rw [fn_Gr_lay_15]
    refine zi_iload1 (pc := 15) hX dX0_lay_15 ?_
    refine zi_aload0 (pc := 16) hX dX0_lay_16 ?_
    refine zi_getr (q := 34) (pc := 17) hX dX0_lay_17 fl_416 ly_48 rfl ?_
    refine zi_geti (pc := 20) hX dX0_lay_20 fl_361 ly_34 rfl ?_
    refine zi_icmp_ge (pc := 23) 169 hX dX0_lay_23 (by decide) (fun _ => ?_) (fun _ => ?_)
    · refine zi_iconst (pc := 169) hX dX0_lay_169 ki_0 ?_
      refine zi_istore1 (pc := 170) hX dX0_lay_170 rfl rfl ?_
      exact zp_Gr_lay_171 hX 1000000 (0 : Int32) g
    · refine zi_aload0 (pc := 26) hX dX0_lay_26 ?_
      refine zi_getr (q := 34) (pc := 27) hX dX0_lay_27 fl_416 ly_48 rfl ?_
      refine zi_getr (q := 35) (pc := 30) hX dX0_lay_30 fl_363 ly_34 rfl ?_
      refine zi_iload1 (pc := 33) hX dX0_lay_33 ?_
      refine zi_iald (pc := 34) hX dX0_lay_34 ly_35 ?_
      refine zi_bi (fun v8 => ?_)
      refine zi_istore2 (pc := 35) hX dX0_lay_35 rfl rfl ?_
      refine zi_aload0 (pc := 36) hX dX0_lay_36 ?_
      refine zi_getr (q := 34) (pc := 37) hX dX0_lay_37 fl_416 ly_48 rfl ?_
      refine zi_getr (q := 36) (pc := 40) hX dX0_lay_40 fl_366 ly_34 rfl ?_
      refine zi_iload1 (pc := 43) hX dX0_lay_43 ?_
      refine zi_iald (pc := 44) hX dX0_lay_44 ly_36 ?_
      refine zi_bi (fun v9 => ?_)
      refine zi_istore3 (pc := 45) hX dX0_lay_45 rfl rfl ?_
      refine zi_aload0 (pc := 46) hX dX0_lay_46 ?_
      refine zi_getr (q := 49) (pc := 47) hX dX0_lay_47 fl_417 ly_48 rfl ?_
      refine zi_iload1 (pc := 50) hX dX0_lay_50 ?_
      refine zi_aload0 (pc := 51) hX dX0_lay_51 ?_
      refine zi_iload2 (pc := 52) hX dX0_lay_52 ?_
      refine zi_iload3 (pc := 53) hX dX0_lay_53 ?_
      refine zi_callI (zc_virt (pc := 54) hX dX0_lay_54 tm_581 md_X0_heardBy mi_X0_heardBy ly_48 (ct_Gr_heardBy hX.sane v8 v9 g) rfl rfl rfl) (fun v10 g11 => ?_)
      refine zi_iast (pc := 57) hX dX0_lay_57 ly_49 (zi_bg (fun g12 => ?_))
      refine zi_aload0 (pc := 58) hX dX0_lay_58 ?_
      refine zi_getr (q := 50) (pc := 59) hX dX0_lay_59 fl_418 ly_48 rfl ?_
      refine zi_iload1 (pc := 62) hX dX0_lay_62 ?_
      refine zi_aload0 (pc := 63) hX dX0_lay_63 ?_
      refine zi_getr (q := 2) (pc := 64) hX dX0_lay_64 fl_415 ly_48 rfl ?_
      refine zi_iload2 (pc := 67) hX dX0_lay_67 ?_
      refine zi_iload3 (pc := 68) hX dX0_lay_68 ?_
      refine zi_callI (zc_virt (pc := 69) hX dX0_lay_69 tm_593 md_X6_ownThings mi_X6_ownThings ly_2 (ct_Tw_ownThings hX.sane v8 v9 g12) rfl rfl rfl) (fun v13 g14 => ?_)
      refine zi_iast (pc := 72) hX dX0_lay_72 ly_50 (zi_bg (fun g15 => ?_))
      refine zi_aload0 (pc := 73) hX dX0_lay_73 ?_
      refine zi_getr (q := 51) (pc := 74) hX dX0_lay_74 fl_419 ly_48 rfl ?_
      refine zi_iload1 (pc := 77) hX dX0_lay_77 ?_
      refine zi_aload0 (pc := 78) hX dX0_lay_78 ?_
      refine zi_getr (q := 2) (pc := 79) hX dX0_lay_79 fl_415 ly_48 rfl ?_
      refine zi_iload2 (pc := 82) hX dX0_lay_82 ?_
      refine zi_iload3 (pc := 83) hX dX0_lay_83 ?_
      refine zi_aload0 (pc := 84) hX dX0_lay_84 ?_
      refine zi_getr (q := 34) (pc := 85) hX dX0_lay_85 fl_416 ly_48 rfl ?_
      refine zi_getr (q := 37) (pc := 88) hX dX0_lay_88 fl_369 ly_34 rfl ?_
      refine zi_iload1 (pc := 91) hX dX0_lay_91 ?_
      refine zi_iald (pc := 92) hX dX0_lay_92 ly_37 ?_
      refine zi_aload0 (pc := 93) hX dX0_lay_93 ?_
      refine zi_getr (q := 34) (pc := 94) hX dX0_lay_94 fl_416 ly_48 rfl ?_
      refine zi_getr (q := 39) (pc := 97) hX dX0_lay_97 fl_376 ly_34 rfl ?_
      refine zi_iload1 (pc := 100) hX dX0_lay_100 ?_
      refine zi_zald (pc := 101) hX dX0_lay_101 ly_39 ?_
      refine zi_callI (zc_virt (pc := 102) hX dX0_lay_102 tm_613 md_X6_ownHows mi_X6_ownHows ly_2 (ct_Tw_ownHows hX.sane v8 v9 (g15.1 37 x1.toNatClampNeg) (g15.1 39 x1.toNatClampNeg) g15) rfl rfl rfl) (fun v16 g17 => ?_)
      refine zi_iast (pc := 105) hX dX0_lay_105 ly_51 (zi_bg (fun g18 => ?_))
      refine zi_aload0 (pc := 106) hX dX0_lay_106 ?_
      refine zi_getr (q := 52) (pc := 107) hX dX0_lay_107 fl_420 ly_48 rfl ?_
      refine zi_aload0 (pc := 110) hX dX0_lay_110 ?_
      refine zi_getr (q := 34) (pc := 111) hX dX0_lay_111 fl_416 ly_48 rfl ?_
      refine zi_getr (q := 37) (pc := 114) hX dX0_lay_114 fl_369 ly_34 rfl ?_
      refine zi_iload1 (pc := 117) hX dX0_lay_117 ?_
      refine zi_iald (pc := 118) hX dX0_lay_118 ly_37 ?_
      refine zi_aload0 (pc := 119) hX dX0_lay_119 ?_
      refine zi_getr (q := 34) (pc := 120) hX dX0_lay_120 fl_416 ly_48 rfl ?_
      refine zi_getr (q := 39) (pc := 123) hX dX0_lay_123 fl_376 ly_34 rfl ?_
      refine zi_iload1 (pc := 126) hX dX0_lay_126 ?_
      refine zi_zald (pc := 127) hX dX0_lay_127 ly_39 ?_
      refine zi_callI (zc_stat (pc := 128) hX dX0_lay_128 tm_614 md_X0_aboutRow st_X0_aboutRow (ct_Gr_aboutRow hX.sane (g18.1 37 x1.toNatClampNeg) (g18.1 39 x1.toNatClampNeg) g18) rfl rfl rfl) (fun v19 g20 => ?_)
      refine zi_dup2 (pc := 131) hX dX0_lay_131 rfl rfl ?_
      refine zi_iald (pc := 132) hX dX0_lay_132 ly_52 ?_
      refine zi_iconst (pc := 133) hX dX0_lay_133 ki_1 ?_
      refine zi_iload1 (pc := 134) hX dX0_lay_134 ?_
      refine zi_ishl (pc := 135) hX dX0_lay_135 ?_
      refine zi_ior (pc := 136) hX dX0_lay_136 ?_
      refine zi_iast (pc := 137) hX dX0_lay_137 ly_52 (zi_bg (fun g21 => ?_))
      refine zi_aload0 (pc := 138) hX dX0_lay_138 ?_
      refine zi_getr (q := 34) (pc := 139) hX dX0_lay_139 fl_416 ly_48 rfl ?_
      refine zi_getr (q := 38) (pc := 142) hX dX0_lay_142 fl_373 ly_34 rfl ?_
      refine zi_iload1 (pc := 145) hX dX0_lay_145 ?_
      refine zi_iald (pc := 146) hX dX0_lay_146 ly_38 ?_
      refine zi_iconst (pc := 147) hX dX0_lay_147 ki_4 ?_
      refine zi_icmp_ne (pc := 148) 163 hX dX0_lay_148 (by decide) (fun _ => ?_) (fun _ => ?_)
      · refine zi_aload0 (pc := 151) hX dX0_lay_151 ?_
        refine zi_dup (pc := 152) hX dX0_lay_152 rfl ?_
        refine zi_geti (pc := 153) hX dX0_lay_153 fl_428 ly_48 rfl ?_
        refine zi_iconst (pc := 156) hX dX0_lay_156 ki_1 ?_
        refine zi_iload1 (pc := 157) hX dX0_lay_157 ?_
        refine zi_ishl (pc := 158) hX dX0_lay_158 ?_
        refine zi_ior (pc := 159) hX dX0_lay_159 ?_
        refine zi_puti (pc := 160) hX dX0_lay_160 fl_428 ly_48 rfl rfl rfl (zi_bg (fun g23 => ?_))
        refine zi_iincb1 (pc := 163) hX dX0_lay_163 (kn_1 _) rfl rfl (fun v24 => ?_)
        refine zi_goto (pc := 166) 15 hX dX0_lay_166 (by decide) ?_
        refine zi_drop (le_s (le_s (le_n (le_n le_nil)))) ?_; exact ih v24 g23
      · refine zi_iincb1 (pc := 163) hX dX0_lay_163 (kn_1 _) rfl rfl (fun v22 => ?_)
        refine zi_goto (pc := 166) 15 hX dX0_lay_166 (by decide) ?_
        refine zi_drop (le_s (le_s (le_n (le_n le_nil)))) ?_; exact ih v22 g21
theorem zw_Gr_lay {X : et_X} {w : et_W} (hX : et_Gd X w cX0_lay RX0 4 (none) [] rm_Gr_lay) (g : et_G) : et_Z X w 0 et_eU 0 [some (.ref (et_ad w 48)), none, none, none] [] g (fn_Gr_lay g) := by
  unfold fn_Gr_lay
  refine zi_aload0 (pc := 0) hX dX0_lay_0 ?_
  refine zi_getr (q := 52) (pc := 1) hX dX0_lay_1 fl_420 ly_48 rfl ?_
  refine zi_iconst (pc := 4) hX dX0_lay_4 ki_0 ?_
  refine zi_callU (zc_stat (pc := 5) hX dX0_lay_5 tm_578 md_J7_fill_53178 st_J7_fill_53178 (ct_Ja_fill_52 hX.sane (0 : Int32) g) rfl rfl rfl) (fun g2 => ?_)
  refine zi_aload0 (pc := 8) hX dX0_lay_8 ?_
  refine zi_iconst (pc := 9) hX dX0_lay_9 ki_0 ?_
  refine zi_puti (pc := 10) hX dX0_lay_10 fl_428 ly_48 rfl rfl rfl (zi_bg (fun g3 => ?_))
  refine zi_iconst (pc := 13) hX dX0_lay_13 ki_0 ?_
  refine zi_istore1 (pc := 14) hX dX0_lay_14 rfl rfl ?_
  exact zp_Gr_lay_15 hX 1000000 (0 : Int32) g3
theorem ct_Gr_lay {w : et_W} (hw : et_Sane w) (g : et_G) : et_C w yX0_lay (Cond.code yX0_lay cX0_lay 4 (none)) rm_Gr_lay et_eU [.ref (et_ad w 48)] g (fn_Gr_lay g) := et_mk hw (by decide) rfl rfl (fun X hX => zw_Gr_lay hX g)
def rm_Le_every : Room := { frames := 0, cells := 0, slots := 0, locals := 0 }
def fn_Le_every (g : et_G) : Option (Int32 × et_G) :=
  some (((1 : Int32) <<< ((g.1 34 0) &&& 31)) - (1 : Int32), g)
theorem zw_Le_every {X : et_X} {w : et_W} (hX : et_Gd X w cX1_every RX1 1 (some .int) [] rm_Le_every) (g : et_G) : et_Z X w 0 et_eI 0 [some (.ref (et_ad w 34))] [] g (fn_Le_every g) := by
  unfold fn_Le_every
  refine zi_iconst (pc := 0) hX dX1_every_0 ki_1 ?_
  refine zi_aload0 (pc := 1) hX dX1_every_1 ?_
  refine zi_geti (pc := 2) hX dX1_every_2 fl_358 ly_34 rfl ?_
  refine zi_ishl (pc := 5) hX dX1_every_5 ?_
  refine zi_iconst (pc := 6) hX dX1_every_6 ki_1 ?_
  refine zi_isub (pc := 7) hX dX1_every_7 ?_
  exact zi_ret (pc := 8) hX dX1_every_8 rfl rfl rfl rfl
theorem ct_Le_every {w : et_W} (hw : et_Sane w) (g : et_G) : et_C w yX1_every (Cond.code yX1_every cX1_every 1 (some .int)) rm_Le_every et_eI [.ref (et_ad w 34)] g (fn_Le_every g) := et_mk hw (by decide) rfl rfl (fun X hX => zw_Le_every hX g)
def rm_Ja_fill_54 : Room := { frames := 0, cells := 0, slots := 0, locals := 0 }
def fn_Ja_fill_54_5 (x1 : Int32) (x3 : Int32) : Nat → Int32 → et_G → Option (Unit × et_G)
  | 0, _, _ => none
  | n + 1, x2, g =>
    if x3 ≤ x2 then
      some ((), g)
    else
      et_ck (et_ib x2 20) (et_b (et_si g 54 x2.toNatClampNeg x1) (fun g1 =>
      et_b (x2 + (1 : Int32)) (fun v2 =>
      fn_Ja_fill_54_5 x1 x3 n v2 g1)))
def fn_Ja_fill_54 (p1 : Int32) (g : et_G) : Option (Unit × et_G) :=
  fn_Ja_fill_54_5 p1 (20 : Int32) 1000000 (0 : Int32) g
theorem zp_Ja_fill_54_5 {X : et_X} {w : et_W} (hX : et_Gd X w cJ7_fill_53178 RJ7 4 (none) [] rm_Ja_fill_54) (x1 : Int32) (x3 : Int32) : ∀ (n : Nat) (x2 : Int32) (g : et_G), et_Z X w 0 et_eU 5 [some (.ref (et_ad w 54)), some (.int x1), some (.int x2), some (.int x3)] [] g (fn_Ja_fill_54_5 x1 x3 n x2 g) := by
  intro n
  induction n with
  | zero =>
    intro x2 g a g2 h
    cases h
  | succ n ih =>
    intro x2 g
    rw [fn_Ja_fill_54_5]
    refine zi_iload2 (pc := 5) hX dJ7_fill_53178_5 ?_
    refine zi_iload3 (pc := 6) hX dJ7_fill_53178_6 ?_
    refine zi_icmp_ge (pc := 7) 20 hX dJ7_fill_53178_7 (by decide) (fun _ => ?_) (fun _ => ?_)
    · exact zi_vret (pc := 20) hX dJ7_fill_53178_20 rfl rfl rfl
    · refine zi_aload0 (pc := 10) hX dJ7_fill_53178_10 ?_
      refine zi_iload2 (pc := 11) hX dJ7_fill_53178_11 ?_
      refine zi_iload1 (pc := 12) hX dJ7_fill_53178_12 ?_
      refine zi_iast (pc := 13) hX dJ7_fill_53178_13 ly_54 (zi_bg (fun g1 => ?_))
      refine zi_iincb2 (pc := 14) hX dJ7_fill_53178_14 (kn_1 _) rfl rfl (fun v2 => ?_)
      refine zi_goto (pc := 17) 5 hX dJ7_fill_53178_17 (by decide) ?_
      exact ih v2 g1
theorem zw_Ja_fill_54 {X : et_X} {w : et_W} (hX : et_Gd X w cJ7_fill_53178 RJ7 4 (none) [] rm_Ja_fill_54) (p1 : Int32) (g : et_G) : et_Z X w 0 et_eU 0 [some (.ref (et_ad w 54)), some (.int p1), none, none] [] g (fn_Ja_fill_54 p1 g) := by
  unfold fn_Ja_fill_54
  refine zi_iconst (pc := 0) hX dJ7_fill_53178_0 ki_0 ?_
  refine zi_istore2 (pc := 1) hX dJ7_fill_53178_1 rfl rfl ?_
  refine zi_aload0 (pc := 2) hX dJ7_fill_53178_2 ?_
  refine zi_alen (pc := 3) hX dJ7_fill_53178_3 ly_54 0 (et_t0 w) ka_20 ?_
  refine zi_istore3 (pc := 4) hX dJ7_fill_53178_4 rfl rfl ?_
  exact zp_Ja_fill_54_5 hX p1 (20 : Int32) 1000000 (0 : Int32) g
theorem ct_Ja_fill_54 {w : et_W} (hw : et_Sane w) (p1 : Int32) (g : et_G) : et_C w yJ7_fill_53178 (Cond.code yJ7_fill_53178 cJ7_fill_53178 4 (none)) rm_Ja_fill_54 et_eU [.ref (et_ad w 54), .int p1] g (fn_Ja_fill_54 p1 g) := et_mk hw (by decide) rfl rfl (fun X hX => zw_Ja_fill_54 hX p1 g)
def rm_Ja_fill_55 : Room := { frames := 0, cells := 0, slots := 0, locals := 0 }
def fn_Ja_fill_55_5 (x1 : Int32) (x3 : Int32) : Nat → Int32 → et_G → Option (Unit × et_G)
  | 0, _, _ => none
  | n + 1, x2, g =>
    if x3 ≤ x2 then
      some ((), g)
    else
      et_ck (et_ib x2 20) (et_b (et_si g 55 x2.toNatClampNeg x1) (fun g1 =>
      et_b (x2 + (1 : Int32)) (fun v2 =>
      fn_Ja_fill_55_5 x1 x3 n v2 g1)))
def fn_Ja_fill_55 (p1 : Int32) (g : et_G) : Option (Unit × et_G) :=
  fn_Ja_fill_55_5 p1 (20 : Int32) 1000000 (0 : Int32) g
theorem zp_Ja_fill_55_5 {X : et_X} {w : et_W} (hX : et_Gd X w cJ7_fill_53178 RJ7 4 (none) [] rm_Ja_fill_55) (x1 : Int32) (x3 : Int32) : ∀ (n : Nat) (x2 : Int32) (g : et_G), et_Z X w 0 et_eU 5 [some (.ref (et_ad w 55)), some (.int x1), some (.int x2), some (.int x3)] [] g (fn_Ja_fill_55_5 x1 x3 n x2 g) := by
  intro n
  induction n with
  | zero =>
    intro x2 g a g2 h
    cases h
  | succ n ih =>
    intro x2 g
    rw [fn_Ja_fill_55_5]
    refine zi_iload2 (pc := 5) hX dJ7_fill_53178_5 ?_
    refine zi_iload3 (pc := 6) hX dJ7_fill_53178_6 ?_
    refine zi_icmp_ge (pc := 7) 20 hX dJ7_fill_53178_7 (by decide) (fun _ => ?_) (fun _ => ?_)
    · exact zi_vret (pc := 20) hX dJ7_fill_53178_20 rfl rfl rfl
    · refine zi_aload0 (pc := 10) hX dJ7_fill_53178_10 ?_
      refine zi_iload2 (pc := 11) hX dJ7_fill_53178_11 ?_
      refine zi_iload1 (pc := 12) hX dJ7_fill_53178_12 ?_
      refine zi_iast (pc := 13) hX dJ7_fill_53178_13 ly_55 (zi_bg (fun g1 => ?_))
      refine zi_iincb2 (pc := 14) hX dJ7_fill_53178_14 (kn_1 _) rfl rfl (fun v2 => ?_)
      refine zi_goto (pc := 17) 5 hX dJ7_fill_53178_17 (by decide) ?_
      exact ih v2 g1
theorem zw_Ja_fill_55 {X : et_X} {w : et_W} (hX : et_Gd X w cJ7_fill_53178 RJ7 4 (none) [] rm_Ja_fill_55) (p1 : Int32) (g : et_G) : et_Z X w 0 et_eU 0 [some (.ref (et_ad w 55)), some (.int p1), none, none] [] g (fn_Ja_fill_55 p1 g) := by
  unfold fn_Ja_fill_55
  refine zi_iconst (pc := 0) hX dJ7_fill_53178_0 ki_0 ?_
  refine zi_istore2 (pc := 1) hX dJ7_fill_53178_1 rfl rfl ?_
  refine zi_aload0 (pc := 2) hX dJ7_fill_53178_2 ?_
  refine zi_alen (pc := 3) hX dJ7_fill_53178_3 ly_55 0 (et_t0 w) ka_20 ?_
  refine zi_istore3 (pc := 4) hX dJ7_fill_53178_4 rfl rfl ?_
  exact zp_Ja_fill_55_5 hX p1 (20 : Int32) 1000000 (0 : Int32) g
theorem ct_Ja_fill_55 {w : et_W} (hw : et_Sane w) (p1 : Int32) (g : et_G) : et_C w yJ7_fill_53178 (Cond.code yJ7_fill_53178 cJ7_fill_53178 4 (none)) rm_Ja_fill_55 et_eU [.ref (et_ad w 55), .int p1] g (fn_Ja_fill_55 p1 g) := et_mk hw (by decide) rfl rfl (fun X hX => zw_Ja_fill_55 hX p1 g)
def rm_Tw_follows : Room := { frames := 0, cells := 0, slots := 0, locals := 0 }
def fn_Tw_follows (p1 : Int32) (p2 : Int32) (p3 : Int32) (g : et_G) : Option (Int32 × et_G) :=
  et_ck (et_ib p1 6) (
  if (g.1 12 p1.toNatClampNeg) = p2 then
    et_ck (et_ib p1 6) (
    if ((g.1 13 p1.toNatClampNeg) &&& (p3 ^^^ (-1 : Int32))) = 0 then
      some ((1 : Int32), g)
    else
      some ((0 : Int32), g))
  else
    some ((0 : Int32), g))
theorem zw_Tw_follows {X : et_X} {w : et_W} (hX : et_Gd X w cX6_follows RX6 4 (some .boolean) [] rm_Tw_follows) (p1 : Int32) (p2 : Int32) (p3 : Int32) (g : et_G) : et_Z X w 0 et_eI 0 [some (.ref (et_ad w 2)), some (.int p1), some (.int p2), some (.int p3)] [] g (fn_Tw_follows p1 p2 p3 g) := by
  unfold fn_Tw_follows
  refine zi_aload0 (pc := 0) hX dX6_follows_0 ?_
  refine zi_getr (q := 12) (pc := 1) hX dX6_follows_1 fl_223 ly_2 rfl ?_
  refine zi_iload1 (pc := 4) hX dX6_follows_4 ?_
  refine zi_iald (pc := 5) hX dX6_follows_5 ly_12 ?_
  refine zi_iload2 (pc := 6) hX dX6_follows_6 ?_
  refine zi_icmp_ne (pc := 7) 27 hX dX6_follows_7 (by decide) (fun _ => ?_) (fun _ => ?_)
  · refine zi_aload0 (pc := 10) hX dX6_follows_10 ?_
    refine zi_getr (q := 13) (pc := 11) hX dX6_follows_11 fl_225 ly_2 rfl ?_
    refine zi_iload1 (pc := 14) hX dX6_follows_14 ?_
    refine zi_iald (pc := 15) hX dX6_follows_15 ly_13 ?_
    refine zi_iload3 (pc := 16) hX dX6_follows_16 ?_
    refine zi_iconst (pc := 17) hX dX6_follows_17 ki_m1 ?_
    refine zi_ixor (pc := 18) hX dX6_follows_18 ?_
    refine zi_iand (pc := 19) hX dX6_follows_19 ?_
    refine zi_if_ne (pc := 20) 27 hX dX6_follows_20 (by decide) (fun _ => ?_) (fun _ => ?_)
    · refine zi_iconst (pc := 23) hX dX6_follows_23 ki_1 ?_
      refine zi_goto (pc := 24) 28 hX dX6_follows_24 (by decide) ?_
      exact zi_ret (pc := 28) hX dX6_follows_28 et_z1 rfl rfl rfl
    · refine zi_iconst (pc := 27) hX dX6_follows_27 ki_0 ?_
      exact zi_ret (pc := 28) hX dX6_follows_28 et_z0 rfl rfl rfl
  · refine zi_iconst (pc := 27) hX dX6_follows_27 ki_0 ?_
    exact zi_ret (pc := 28) hX dX6_follows_28 et_z0 rfl rfl rfl
theorem ct_Tw_follows {w : et_W} (hw : et_Sane w) (p1 : Int32) (p2 : Int32) (p3 : Int32) (g : et_G) : et_C w yX6_follows (Cond.code yX6_follows cX6_follows 4 (some .boolean)) rm_Tw_follows et_eI [.ref (et_ad w 2), .int p1, .int p2, .int p3] g (fn_Tw_follows p1 p2 p3 g) := et_mk hw (by decide) rfl rfl (fun X hX => zw_Tw_follows hX p1 p2 p3 g)
def rm_Tw_isWorkedOut : Room := { frames := 1, cells := 0, slots := 0, locals := 23 }
def fn_Tw_isWorkedOut_2 (x1 : Int32) (x2 : Int32) : Nat → Int32 → et_G → Option (Int32 × et_G)
  | 0, _, _ => none
  | n + 1, x3, g =>
    if (g.1 2 11) ≤ x3 then
      some ((0 : Int32), g)
    else
      et_bd (fn_Tw_follows x3 x1 x2 g) (fun v1 g2 =>
      if v1 = 0 then
        et_b (x3 + (1 : Int32)) (fun v3 =>
        fn_Tw_isWorkedOut_2 x1 x2 n v3 g2)
      else
        some ((1 : Int32), g2))
def fn_Tw_isWorkedOut (p1 : Int32) (p2 : Int32) (g : et_G) : Option (Int32 × et_G) :=
  fn_Tw_isWorkedOut_2 p1 p2 1000000 (0 : Int32) g
theorem zp_Tw_isWorkedOut_2 {X : et_X} {w : et_W} (hX : et_Gd X w cX6_isWorkedOut RX6 4 (some .boolean) [] rm_Tw_isWorkedOut) (x1 : Int32) (x2 : Int32) : ∀ (n : Nat) (x3 : Int32) (g : et_G), et_Z X w 0 et_eI 2 [some (.ref (et_ad w 2)), some (.int x1), some (.int x2), some (.int x3)] [] g (fn_Tw_isWorkedOut_2 x1 x2 n x3 g) := by
  intro n
  induction n with
  | zero =>
    intro x3 g a g2 h
    cases h
  | succ n ih =>
    intro x3 g
    rw [fn_Tw_isWorkedOut_2]
    refine zi_iload3 (pc := 2) hX dX6_isWorkedOut_2 ?_
    refine zi_aload0 (pc := 3) hX dX6_isWorkedOut_3 ?_
    refine zi_geti (pc := 4) hX dX6_isWorkedOut_4 fl_219 ly_2 rfl ?_
    refine zi_icmp_ge (pc := 7) 28 hX dX6_isWorkedOut_7 (by decide) (fun _ => ?_) (fun _ => ?_)
    · refine zi_iconst (pc := 28) hX dX6_isWorkedOut_28 ki_0 ?_
      exact zi_ret (pc := 29) hX dX6_isWorkedOut_29 et_z0 rfl rfl rfl
    · refine zi_aload0 (pc := 10) hX dX6_isWorkedOut_10 ?_
      refine zi_iload3 (pc := 11) hX dX6_isWorkedOut_11 ?_
      refine zi_iload1 (pc := 12) hX dX6_isWorkedOut_12 ?_
      refine zi_iload2 (pc := 13) hX dX6_isWorkedOut_13 ?_
      refine zi_callI (zc_virt (pc := 14) hX dX6_isWorkedOut_14 tm_643 md_X6_follows mi_X6_follows ly_2 (ct_Tw_follows hX.sane x3 x1 x2 g) rfl rfl rfl) (fun v1 g2 => ?_)
      refine zi_if_eq (pc := 17) 22 hX dX6_isWorkedOut_17 (by decide) (fun _ => ?_) (fun _ => ?_)
      · refine zi_iincb3 (pc := 22) hX dX6_isWorkedOut_22 (kn_1 _) rfl rfl (fun v3 => ?_)
        refine zi_goto (pc := 25) 2 hX dX6_isWorkedOut_25 (by decide) ?_
        exact ih v3 g2
      · refine zi_iconst (pc := 20) hX dX6_isWorkedOut_20 ki_1 ?_
        exact zi_ret (pc := 21) hX dX6_isWorkedOut_21 et_z1 rfl rfl rfl
theorem zw_Tw_isWorkedOut {X : et_X} {w : et_W} (hX : et_Gd X w cX6_isWorkedOut RX6 4 (some .boolean) [] rm_Tw_isWorkedOut) (p1 : Int32) (p2 : Int32) (g : et_G) : et_Z X w 0 et_eI 0 [some (.ref (et_ad w 2)), some (.int p1), some (.int p2), none] [] g (fn_Tw_isWorkedOut p1 p2 g) := by
  unfold fn_Tw_isWorkedOut
  refine zi_iconst (pc := 0) hX dX6_isWorkedOut_0 ki_0 ?_
  refine zi_istore3 (pc := 1) hX dX6_isWorkedOut_1 rfl rfl ?_
  exact zp_Tw_isWorkedOut_2 hX p1 p2 1000000 (0 : Int32) g
theorem ct_Tw_isWorkedOut {w : et_W} (hw : et_Sane w) (p1 : Int32) (p2 : Int32) (g : et_G) : et_C w yX6_isWorkedOut (Cond.code yX6_isWorkedOut cX6_isWorkedOut 4 (some .boolean)) rm_Tw_isWorkedOut et_eI [.ref (et_ad w 2), .int p1, .int p2] g (fn_Tw_isWorkedOut p1 p2 g) := et_mk hw (by decide) rfl rfl (fun X hX => zw_Tw_isWorkedOut hX p1 p2 g)
def rm_Gr_standingHows : Room := { frames := 2, cells := 0, slots := 0, locals := 46 }
def fn_Gr_standingHows_28 (x1 : Int32) (x3 : Int32) (x4 : Int32) (g : et_G) : Option (Int32 × et_G) :=
  et_ck (et_ib x1 20) (
  if (g.1 39 x1.toNatClampNeg) = 0 then
    et_ck (et_ib x1 20) (
    et_bd (fn_Tw_isWorkedOut (g.1 37 x1.toNatClampNeg) x3 g) (fun v2 g3 =>
    if v2 = 0 then
      some (x4, g3)
    else
      et_b (x4 ||| (8 : Int32)) (fun v4 =>
      some (v4, g3))))
  else
    some (x4, g))
def fn_Gr_standingHows (p1 : Int32) (p2 : Int32) (p3 : Int32) (g : et_G) : Option (Int32 × et_G) :=
  et_ck (et_ib p1 20) (
  et_b ((16 : Int32) ||| (g.1 51 p1.toNatClampNeg)) (fun v1 =>
  et_ck (et_ib p1 20) (
  if ((g.1 53 p1.toNatClampNeg) &&& p2) = 0 then
    fn_Gr_standingHows_28 p1 p3 v1 g
  else
    et_b (v1 ||| (4 : Int32)) (fun v5 =>
    fn_Gr_standingHows_28 p1 p3 v5 g))))
theorem zp_Gr_standingHows_28 {X : et_X} {w : et_W} (hX : et_Gd X w cX0_standingHows RX0 5 (some .int) [] rm_Gr_standingHows) (x1 : Int32) (x3 : Int32) (x4 : Int32) (g : et_G) : et_Z X w 0 et_eI 28 [some (.ref (et_ad w 48)), some (.int x1), none, some (.int x3), some (.int x4)] [] g (fn_Gr_standingHows_28 x1 x3 x4 g) := by
  unfold fn_Gr_standingHows_28
  refine zi_aload0 (pc := 28) hX dX0_standingHows_28 ?_
  refine zi_getr (q := 34) (pc := 29) hX dX0_standingHows_29 fl_416 ly_48 rfl ?_
  refine zi_getr (q := 39) (pc := 32) hX dX0_standingHows_32 fl_376 ly_34 rfl ?_
  refine zi_iload1 (pc := 35) hX dX0_standingHows_35 ?_
  refine zi_zald (pc := 36) hX dX0_standingHows_36 ly_39 ?_
  refine zi_if_ne (pc := 37) 67 hX dX0_standingHows_37 (by decide) (fun _ => ?_) (fun _ => ?_)
  · refine zi_aload0 (pc := 40) hX dX0_standingHows_40 ?_
    refine zi_getr (q := 2) (pc := 41) hX dX0_standingHows_41 fl_415 ly_48 rfl ?_
    refine zi_aload0 (pc := 44) hX dX0_standingHows_44 ?_
    refine zi_getr (q := 34) (pc := 45) hX dX0_standingHows_45 fl_416 ly_48 rfl ?_
    refine zi_getr (q := 37) (pc := 48) hX dX0_standingHows_48 fl_369 ly_34 rfl ?_
    refine zi_iload1 (pc := 51) hX dX0_standingHows_51 ?_
    refine zi_iald (pc := 52) hX dX0_standingHows_52 ly_37 ?_
    refine zi_iload3 (pc := 53) hX dX0_standingHows_53 ?_
    refine zi_callI (zc_virt (pc := 54) hX dX0_standingHows_54 tm_639 md_X6_isWorkedOut mi_X6_isWorkedOut ly_2 (ct_Tw_isWorkedOut hX.sane (g.1 37 x1.toNatClampNeg) x3 g) rfl rfl rfl) (fun v2 g3 => ?_)
    refine zi_if_eq (pc := 57) 67 hX dX0_standingHows_57 (by decide) (fun _ => ?_) (fun _ => ?_)
    · refine zi_iload4 (pc := 67) hX dX0_standingHows_67 ?_
      exact zi_ret (pc := 69) hX dX0_standingHows_69 rfl rfl rfl rfl
    · refine zi_iload4 (pc := 60) hX dX0_standingHows_60 ?_
      refine zi_bipush (pc := 62) hX dX0_standingHows_62 kb_8 ?_
      refine zi_ior (pc := 64) hX dX0_standingHows_64 ?_
      refine zi_bi (fun v4 => ?_)
      refine zi_istore4 (pc := 65) hX dX0_standingHows_65 rfl rfl ?_
      refine zi_iload4 (pc := 67) hX dX0_standingHows_67 ?_
      exact zi_ret (pc := 69) hX dX0_standingHows_69 rfl rfl rfl rfl
  · refine zi_iload4 (pc := 67) hX dX0_standingHows_67 ?_
    exact zi_ret (pc := 69) hX dX0_standingHows_69 rfl rfl rfl rfl
theorem zw_Gr_standingHows {X : et_X} {w : et_W} (hX : et_Gd X w cX0_standingHows RX0 5 (some .int) [] rm_Gr_standingHows) (p1 : Int32) (p2 : Int32) (p3 : Int32) (g : et_G) : et_Z X w 0 et_eI 0 [some (.ref (et_ad w 48)), some (.int p1), some (.int p2), some (.int p3), none] [] g (fn_Gr_standingHows p1 p2 p3 g) := by
  unfold fn_Gr_standingHows
  refine zi_bipush (pc := 0) hX dX0_standingHows_0 kb_16 ?_
  refine zi_aload0 (pc := 2) hX dX0_standingHows_2 ?_
  refine zi_getr (q := 51) (pc := 3) hX dX0_standingHows_3 fl_419 ly_48 rfl ?_
  refine zi_iload1 (pc := 6) hX dX0_standingHows_6 ?_
  refine zi_iald (pc := 7) hX dX0_standingHows_7 ly_51 ?_
  refine zi_ior (pc := 8) hX dX0_standingHows_8 ?_
  refine zi_bi (fun v1 => ?_)
  refine zi_istore4 (pc := 9) hX dX0_standingHows_9 rfl rfl ?_
  refine zi_aload0 (pc := 11) hX dX0_standingHows_11 ?_
  refine zi_getr (q := 53) (pc := 12) hX dX0_standingHows_12 fl_421 ly_48 rfl ?_
  refine zi_iload1 (pc := 15) hX dX0_standingHows_15 ?_
  refine zi_iald (pc := 16) hX dX0_standingHows_16 ly_53 ?_
  refine zi_iload2 (pc := 17) hX dX0_standingHows_17 ?_
  refine zi_iand (pc := 18) hX dX0_standingHows_18 ?_
  refine zi_if_eq (pc := 19) 28 hX dX0_standingHows_19 (by decide) (fun _ => ?_) (fun _ => ?_)
  · refine zi_drop (le_s (le_s (le_n (le_s (le_s le_nil))))) ?_; exact zp_Gr_standingHows_28 hX p1 p3 v1 g
  · refine zi_iload4 (pc := 22) hX dX0_standingHows_22 ?_
    refine zi_iconst (pc := 24) hX dX0_standingHows_24 ki_4 ?_
    refine zi_ior (pc := 25) hX dX0_standingHows_25 ?_
    refine zi_bi (fun v5 => ?_)
    refine zi_istore4 (pc := 26) hX dX0_standingHows_26 rfl rfl ?_
    refine zi_drop (le_s (le_s (le_n (le_s (le_s le_nil))))) ?_; exact zp_Gr_standingHows_28 hX p1 p3 v5 g
theorem ct_Gr_standingHows {w : et_W} (hw : et_Sane w) (p1 : Int32) (p2 : Int32) (p3 : Int32) (g : et_G) : et_C w yX0_standingHows (Cond.code yX0_standingHows cX0_standingHows 5 (some .int)) rm_Gr_standingHows et_eI [.ref (et_ad w 48), .int p1, .int p2, .int p3] g (fn_Gr_standingHows p1 p2 p3 g) := et_mk hw (by decide) rfl rfl (fun X hX => zw_Gr_standingHows hX p1 p2 p3 g)
def rm_Gr_firstBit : Room := { frames := 1, cells := 0, slots := 0, locals := 21 }
def fn_Gr_firstBit_2 (x0 : Int32) : Nat → Int32 → et_G → Option (Int32 × et_G)
  | 0, _, _ => none
  | n + 1, x1, g =>
    if (4 : Int32) ≤ x1 then
      some (x1, g)
    else
      et_bd (fn_Et_hasBit x0 x1 g) (fun v1 g2 =>
      if v1 = 0 then
        et_b (x1 + (1 : Int32)) (fun v3 =>
        fn_Gr_firstBit_2 x0 n v3 g2)
      else
        some (x1, g2))
def fn_Gr_firstBit (p0 : Int32) (g : et_G) : Option (Int32 × et_G) :=
  fn_Gr_firstBit_2 p0 1000000 (0 : Int32) g
theorem zp_Gr_firstBit_2 {X : et_X} {w : et_W} (hX : et_Gd X w cX0_firstBit RX0 2 (some .int) [] rm_Gr_firstBit) (x0 : Int32) : ∀ (n : Nat) (x1 : Int32) (g : et_G), et_Z X w 0 et_eI 2 [some (.int x0), some (.int x1)] [] g (fn_Gr_firstBit_2 x0 n x1 g) := by
  intro n
  induction n with
  | zero =>
    intro x1 g a g2 h
    cases h
  | succ n ih =>
    intro x1 g
    rw [fn_Gr_firstBit_2]
    refine zi_iload1 (pc := 2) hX dX0_firstBit_2 ?_
    refine zi_iconst (pc := 3) hX dX0_firstBit_3 ki_4 ?_
    refine zi_icmp_ge (pc := 4) 21 hX dX0_firstBit_4 (by decide) (fun _ => ?_) (fun _ => ?_)
    · refine zi_iload1 (pc := 21) hX dX0_firstBit_21 ?_
      exact zi_ret (pc := 22) hX dX0_firstBit_22 rfl rfl rfl rfl
    · refine zi_iload0 (pc := 7) hX dX0_firstBit_7 ?_
      refine zi_iload1 (pc := 8) hX dX0_firstBit_8 ?_
      refine zi_callI (zc_nest (pc := 9) hX dX0_firstBit_9 nl_634 md_X9_hasBit st_X9_hasBit (ct_Et_hasBit hX.sane x0 x1 g) rfl rfl rfl) (fun v1 g2 => ?_)
      refine zi_if_ne (pc := 12) 21 hX dX0_firstBit_12 (by decide) (fun _ => ?_) (fun _ => ?_)
      · refine zi_iincb1 (pc := 15) hX dX0_firstBit_15 (kn_1 _) rfl rfl (fun v3 => ?_)
        refine zi_goto (pc := 18) 2 hX dX0_firstBit_18 (by decide) ?_
        exact ih v3 g2
      · refine zi_iload1 (pc := 21) hX dX0_firstBit_21 ?_
        exact zi_ret (pc := 22) hX dX0_firstBit_22 rfl rfl rfl rfl
theorem zw_Gr_firstBit {X : et_X} {w : et_W} (hX : et_Gd X w cX0_firstBit RX0 2 (some .int) [] rm_Gr_firstBit) (p0 : Int32) (g : et_G) : et_Z X w 0 et_eI 0 [some (.int p0), none] [] g (fn_Gr_firstBit p0 g) := by
  unfold fn_Gr_firstBit
  refine zi_iconst (pc := 0) hX dX0_firstBit_0 ki_0 ?_
  refine zi_istore1 (pc := 1) hX dX0_firstBit_1 rfl rfl ?_
  exact zp_Gr_firstBit_2 hX p0 1000000 (0 : Int32) g
theorem ct_Gr_firstBit {w : et_W} (hw : et_Sane w) (p0 : Int32) (g : et_G) : et_C w yX0_firstBit (Cond.code yX0_firstBit cX0_firstBit 2 (some .int)) rm_Gr_firstBit et_eI [.int p0] g (fn_Gr_firstBit p0 g) := et_mk hw (by decide) rfl rfl (fun X hX => zw_Gr_firstBit hX p0 g)
def rm_Gr_rising : Room := { frames := 3, cells := 0, slots := 0, locals := 70 }
def fn_Gr_rising_103 (r6 : Int32 → Int32 → et_G → Option (Int32 × et_G)) (x1 : Int32) (x2 : Int32) (x3 : Int32) (x4 : Int32) (x5 : Int32) (x7 : Int32) (g : et_G) : Option (Int32 × et_G) :=
  et_b (x4 ||| ((1 : Int32) <<< (x5 &&& 31))) (fun v10 =>
  et_ck (et_ib x5 20) (et_b (et_si g 55 x5.toNatClampNeg x3) (fun g11 =>
  et_ck (et_ib x5 20) (et_b (et_si g11 56 x5.toNatClampNeg x7) (fun g12 =>
  et_b (x5 + (1 : Int32)) (fun v13 =>
  r6 v10 v13 g12))))))
def fn_Gr_rising_76 (r6 : Int32 → Int32 → et_G → Option (Int32 × et_G)) (x1 : Int32) (x2 : Int32) (x3 : Int32) (x4 : Int32) (x5 : Int32) (x6 : Int32) (s0 : Int32) (g : et_G) : Option (Int32 × et_G) :=
  et_bd (fn_Et_hasBit x6 s0 g) (fun v7 g8 =>
  if v7 = 0 then
    et_b (x5 + (1 : Int32)) (fun v9 =>
    r6 x4 v9 g8)
  else
    if s0 = (4 : Int32) then
      et_bd (fn_Et_hasBit x1 x5 g8) (fun v14 g15 =>
      if v14 = 0 then
        fn_Gr_rising_103 r6 x1 x2 x3 x4 x5 s0 g15
      else
        et_b (x5 + (1 : Int32)) (fun v16 =>
        r6 x4 v16 g15))
    else
      fn_Gr_rising_103 r6 x1 x2 x3 x4 x5 s0 g8)
def fn_Gr_rising_6 (x1 : Int32) (x2 : Int32) (x3 : Int32) : Nat → Int32 → Int32 → et_G → Option (Int32 × et_G)
  | 0, _, _, _ => none
  | n + 1, x4, x5, g =>
    if (g.1 34 0) ≤ x5 then
      some (x4, g)
    else
      et_bd (fn_Et_hasBit x2 x5 g) (fun v1 g2 =>
      if v1 = 0 then
        et_b (x5 + (1 : Int32)) (fun v19 =>
        fn_Gr_rising_6 x1 x2 x3 n x4 v19 g2)
      else
        et_ck (et_ib x5 20) (
        et_bd (fn_Gr_standingHows x5 (g2.1 48 14) (g2.1 54 x5.toNatClampNeg) g2) (fun v3 g4 =>
        et_bd (fn_Et_hasBit x1 x5 g4) (fun v5 g6 =>
        if v5 = 0 then
          et_ck (et_ib x5 20) (
          fn_Gr_rising_76 (fun z4 z5 g => fn_Gr_rising_6 x1 x2 x3 n z4 z5 g) x1 x2 x3 x4 x5 v3 (g6.1 38 x5.toNatClampNeg) g6)
        else
          et_bd (fn_Gr_firstBit v3 g6) (fun v17 g18 =>
          fn_Gr_rising_76 (fun z4 z5 g => fn_Gr_rising_6 x1 x2 x3 n z4 z5 g) x1 x2 x3 x4 x5 v3 v17 g18)))))
def fn_Gr_rising (p1 : Int32) (p2 : Int32) (p3 : Int32) (g : et_G) : Option (Int32 × et_G) :=
  fn_Gr_rising_6 p1 p2 p3 1000000 (0 : Int32) (0 : Int32) g
theorem zp_Gr_rising_103 {X : et_X} {w : et_W} (hX : et_Gd X w cX0_rising RX0 8 (some .int) [] rm_Gr_rising) (r6 : Int32 → Int32 → et_G → Option (Int32 × et_G)) (x1 : Int32) (x2 : Int32) (x3 : Int32) (x4 : Int32) (x5 : Int32) (x7 : Int32) (hr6 : ∀ (y4 : Int32) (y5 : Int32) (g : et_G), et_Z X w 0 et_eI 6 [some (.ref (et_ad w 48)), some (.int x1), some (.int x2), some (.int x3), some (.int y4), some (.int y5), none, none] [] g (r6 y4 y5 g)) (g : et_G) : et_Z X w 0 et_eI 103 [some (.ref (et_ad w 48)), some (.int x1), some (.int x2), some (.int x3), some (.int x4), some (.int x5), none, some (.int x7)] [] g (fn_Gr_rising_103 r6 x1 x2 x3 x4 x5 x7 g) := by
  unfold fn_Gr_rising_103
  refine zi_iload4 (pc := 103) hX dX0_rising_103 ?_
  refine zi_iconst (pc := 105) hX dX0_rising_105 ki_1 ?_
  refine zi_iload5 (pc := 106) hX dX0_rising_106 ?_
  refine zi_ishl (pc := 108) hX dX0_rising_108 ?_
  refine zi_ior (pc := 109) hX dX0_rising_109 ?_
  refine zi_bi (fun v10 => ?_)
  refine zi_istore4 (pc := 110) hX dX0_rising_110 rfl rfl ?_
  refine zi_aload0 (pc := 112) hX dX0_rising_112 ?_
  refine zi_getr (q := 55) (pc := 113) hX dX0_rising_113 fl_423 ly_48 rfl ?_
  refine zi_iload5 (pc := 116) hX dX0_rising_116 ?_
  refine zi_iload3 (pc := 118) hX dX0_rising_118 ?_
  refine zi_iast (pc := 119) hX dX0_rising_119 ly_55 (zi_bg (fun g11 => ?_))
  refine zi_aload0 (pc := 120) hX dX0_rising_120 ?_
  refine zi_getr (q := 56) (pc := 121) hX dX0_rising_121 fl_424 ly_48 rfl ?_
  refine zi_iload5 (pc := 124) hX dX0_rising_124 ?_
  refine zi_iload7 (pc := 126) hX dX0_rising_126 ?_
  refine zi_iast (pc := 128) hX dX0_rising_128 ly_56 (zi_bg (fun g12 => ?_))
  refine zi_iincb5 (pc := 129) hX dX0_rising_129 (kn_1 _) rfl rfl (fun v13 => ?_)
  refine zi_goto (pc := 132) 6 hX dX0_rising_132 (by decide) ?_
  refine zi_drop (le_s (le_s (le_s (le_s (le_s (le_s (le_s (le_n le_nil)))))))) ?_; exact hr6 v10 v13 g12
theorem zp_Gr_rising_76 {X : et_X} {w : et_W} (hX : et_Gd X w cX0_rising RX0 8 (some .int) [] rm_Gr_rising) (r6 : Int32 → Int32 → et_G → Option (Int32 × et_G)) (x1 : Int32) (x2 : Int32) (x3 : Int32) (x4 : Int32) (x5 : Int32) (x6 : Int32) (s0 : Int32) (hr6 : ∀ (y4 : Int32) (y5 : Int32) (g : et_G), et_Z X w 0 et_eI 6 [some (.ref (et_ad w 48)), some (.int x1), some (.int x2), some (.int x3), some (.int y4), some (.int y5), none, none] [] g (r6 y4 y5 g)) (g : et_G) : et_Z X w 0 et_eI 76 [some (.ref (et_ad w 48)), some (.int x1), some (.int x2), some (.int x3), some (.int x4), some (.int x5), some (.int x6), none] [.int s0] g (fn_Gr_rising_76 r6 x1 x2 x3 x4 x5 x6 s0 g) := by
  unfold fn_Gr_rising_76
  refine zi_istore7 (pc := 76) hX dX0_rising_76 rfl rfl ?_
  refine zi_iload6 (pc := 78) hX dX0_rising_78 ?_
  refine zi_iload7 (pc := 80) hX dX0_rising_80 ?_
  refine zi_callI (zc_nest (pc := 82) hX dX0_rising_82 nl_634 md_X9_hasBit st_X9_hasBit (ct_Et_hasBit hX.sane x6 s0 g) rfl rfl rfl) (fun v7 g8 => ?_)
  refine zi_if_eq (pc := 85) 129 hX dX0_rising_85 (by decide) (fun _ => ?_) (fun _ => ?_)
  · refine zi_iincb5 (pc := 129) hX dX0_rising_129 (kn_1 _) rfl rfl (fun v9 => ?_)
    refine zi_goto (pc := 132) 6 hX dX0_rising_132 (by decide) ?_
    refine zi_drop (le_s (le_s (le_s (le_s (le_s (le_s (le_n (le_n le_nil)))))))) ?_; exact hr6 x4 v9 g8
  · refine zi_iload7 (pc := 88) hX dX0_rising_88 ?_
    refine zi_iconst (pc := 90) hX dX0_rising_90 ki_4 ?_
    refine zi_icmp_ne (pc := 91) 103 hX dX0_rising_91 (by decide) (fun _ => ?_) (fun _ => ?_)
    · refine zi_iload1 (pc := 94) hX dX0_rising_94 ?_
      refine zi_iload5 (pc := 95) hX dX0_rising_95 ?_
      refine zi_callI (zc_nest (pc := 97) hX dX0_rising_97 nl_634 md_X9_hasBit st_X9_hasBit (ct_Et_hasBit hX.sane x1 x5 g8) rfl rfl rfl) (fun v14 g15 => ?_)
      refine zi_if_ne (pc := 100) 129 hX dX0_rising_100 (by decide) (fun _ => ?_) (fun _ => ?_)
      · refine zi_drop (le_s (le_s (le_s (le_s (le_s (le_s (le_n (le_s le_nil)))))))) ?_; exact zp_Gr_rising_103 hX r6 x1 x2 x3 x4 x5 s0 hr6 g15
      · refine zi_iincb5 (pc := 129) hX dX0_rising_129 (kn_1 _) rfl rfl (fun v16 => ?_)
        refine zi_goto (pc := 132) 6 hX dX0_rising_132 (by decide) ?_
        refine zi_drop (le_s (le_s (le_s (le_s (le_s (le_s (le_n (le_n le_nil)))))))) ?_; exact hr6 x4 v16 g15
    · refine zi_drop (le_s (le_s (le_s (le_s (le_s (le_s (le_n (le_s le_nil)))))))) ?_; exact zp_Gr_rising_103 hX r6 x1 x2 x3 x4 x5 s0 hr6 g8
theorem zp_Gr_rising_6 {X : et_X} {w : et_W} (hX : et_Gd X w cX0_rising RX0 8 (some .int) [] rm_Gr_rising) (x1 : Int32) (x2 : Int32) (x3 : Int32) : ∀ (n : Nat) (x4 : Int32) (x5 : Int32) (g : et_G), et_Z X w 0 et_eI 6 [some (.ref (et_ad w 48)), some (.int x1), some (.int x2), some (.int x3), some (.int x4), some (.int x5), none, none] [] g (fn_Gr_rising_6 x1 x2 x3 n x4 x5 g) := by
  intro n
  induction n with
  | zero =>
    intro x4 x5 g a g2 h
    cases h
  | succ n ih =>
    intro x4 x5 g
    rw [fn_Gr_rising_6]
    refine zi_iload5 (pc := 6) hX dX0_rising_6 ?_
    refine zi_aload0 (pc := 8) hX dX0_rising_8 ?_
    refine zi_getr (q := 34) (pc := 9) hX dX0_rising_9 fl_416 ly_48 rfl ?_
    refine zi_geti (pc := 12) hX dX0_rising_12 fl_361 ly_34 rfl ?_
    refine zi_icmp_ge (pc := 15) 135 hX dX0_rising_15 (by decide) (fun _ => ?_) (fun _ => ?_)
    · refine zi_iload4 (pc := 135) hX dX0_rising_135 ?_
      exact zi_ret (pc := 137) hX dX0_rising_137 rfl rfl rfl rfl
    · refine zi_iload2 (pc := 18) hX dX0_rising_18 ?_
      refine zi_iload5 (pc := 19) hX dX0_rising_19 ?_
      refine zi_callI (zc_nest (pc := 21) hX dX0_rising_21 nl_634 md_X9_hasBit st_X9_hasBit (ct_Et_hasBit hX.sane x2 x5 g) rfl rfl rfl) (fun v1 g2 => ?_)
      refine zi_if_ne (pc := 24) 30 hX dX0_rising_24 (by decide) (fun _ => ?_) (fun _ => ?_)
      · refine zi_goto (pc := 27) 129 hX dX0_rising_27 (by decide) ?_
        refine zi_iincb5 (pc := 129) hX dX0_rising_129 (kn_1 _) rfl rfl (fun v19 => ?_)
        refine zi_goto (pc := 132) 6 hX dX0_rising_132 (by decide) ?_
        exact ih x4 v19 g2
      · refine zi_aload0 (pc := 30) hX dX0_rising_30 ?_
        refine zi_iload5 (pc := 31) hX dX0_rising_31 ?_
        refine zi_aload0 (pc := 33) hX dX0_rising_33 ?_
        refine zi_geti (pc := 34) hX dX0_rising_34 fl_432 ly_48 rfl ?_
        refine zi_aload0 (pc := 37) hX dX0_rising_37 ?_
        refine zi_getr (q := 54) (pc := 38) hX dX0_rising_38 fl_422 ly_48 rfl ?_
        refine zi_iload5 (pc := 41) hX dX0_rising_41 ?_
        refine zi_iald (pc := 43) hX dX0_rising_43 ly_54 ?_
        refine zi_callI (zc_virt (pc := 44) hX dX0_rising_44 tm_635 md_X0_standingHows mi_X0_standingHows ly_48 (ct_Gr_standingHows hX.sane x5 (g2.1 48 14) (g2.1 54 x5.toNatClampNeg) g2) rfl rfl rfl) (fun v3 g4 => ?_)
        refine zi_istore6 (pc := 47) hX dX0_rising_47 rfl rfl ?_
        refine zi_iload1 (pc := 49) hX dX0_rising_49 ?_
        refine zi_iload5 (pc := 50) hX dX0_rising_50 ?_
        refine zi_callI (zc_nest (pc := 52) hX dX0_rising_52 nl_634 md_X9_hasBit st_X9_hasBit (ct_Et_hasBit hX.sane x1 x5 g4) rfl rfl rfl) (fun v5 g6 => ?_)
        refine zi_if_eq (pc := 55) 66 hX dX0_rising_55 (by decide) (fun _ => ?_) (fun _ => ?_)
        · refine zi_aload0 (pc := 66) hX dX0_rising_66 ?_
          refine zi_getr (q := 34) (pc := 67) hX dX0_rising_67 fl_416 ly_48 rfl ?_
          refine zi_getr (q := 38) (pc := 70) hX dX0_rising_70 fl_373 ly_34 rfl ?_
          refine zi_iload5 (pc := 73) hX dX0_rising_73 ?_
          refine zi_iald (pc := 75) hX dX0_rising_75 ly_38 ?_
          exact zp_Gr_rising_76 hX (fun z4 z5 g => fn_Gr_rising_6 x1 x2 x3 n z4 z5 g) x1 x2 x3 x4 x5 v3 (g6.1 38 x5.toNatClampNeg) (fun z4 z5 g => ih z4 z5 g) g6
        · refine zi_iload6 (pc := 58) hX dX0_rising_58 ?_
          refine zi_callI (zc_stat (pc := 60) hX dX0_rising_60 tm_647 md_X0_firstBit st_X0_firstBit (ct_Gr_firstBit hX.sane v3 g6) rfl rfl rfl) (fun v17 g18 => ?_)
          refine zi_goto (pc := 63) 76 hX dX0_rising_63 (by decide) ?_
          exact zp_Gr_rising_76 hX (fun z4 z5 g => fn_Gr_rising_6 x1 x2 x3 n z4 z5 g) x1 x2 x3 x4 x5 v3 v17 (fun z4 z5 g => ih z4 z5 g) g18
theorem zw_Gr_rising {X : et_X} {w : et_W} (hX : et_Gd X w cX0_rising RX0 8 (some .int) [] rm_Gr_rising) (p1 : Int32) (p2 : Int32) (p3 : Int32) (g : et_G) : et_Z X w 0 et_eI 0 [some (.ref (et_ad w 48)), some (.int p1), some (.int p2), some (.int p3), none, none, none, none] [] g (fn_Gr_rising p1 p2 p3 g) := by
  unfold fn_Gr_rising
  refine zi_iconst (pc := 0) hX dX0_rising_0 ki_0 ?_
  refine zi_istore4 (pc := 1) hX dX0_rising_1 rfl rfl ?_
  refine zi_iconst (pc := 3) hX dX0_rising_3 ki_0 ?_
  refine zi_istore5 (pc := 4) hX dX0_rising_4 rfl rfl ?_
  exact zp_Gr_rising_6 hX p1 p2 p3 1000000 (0 : Int32) (0 : Int32) g
theorem ct_Gr_rising {w : et_W} (hw : et_Sane w) (p1 : Int32) (p2 : Int32) (p3 : Int32) (g : et_G) : et_C w yX0_rising (Cond.code yX0_rising cX0_rising 8 (some .int)) rm_Gr_rising et_eI [.ref (et_ad w 48), .int p1, .int p2, .int p3] g (fn_Gr_rising p1 p2 p3 g) := et_mk hw (by decide) rfl rfl (fun X hX => zw_Gr_rising hX p1 p2 p3 g)
def rm_Tw_followers : Room := { frames := 0, cells := 0, slots := 0, locals := 0 }
def fn_Tw_followers_4 (x1 : Int32) : Nat → Int32 → Int32 → et_G → Option (Int32 × et_G)
  | 0, _, _, _ => none
  | n + 1, x2, x3, g =>
    if (g.1 2 11) ≤ x3 then
      some (x2, g)
    else
      et_ck (et_ib x3 6) (
      if ((g.1 13 x3.toNatClampNeg) &&& (x1 ^^^ (-1 : Int32))) = 0 then
        et_ck (et_ib x3 6) (
        et_b (x2 ||| ((1 : Int32) <<< ((g.1 12 x3.toNatClampNeg) &&& 31))) (fun v2 =>
        et_b (x3 + (1 : Int32)) (fun v3 =>
        fn_Tw_followers_4 x1 n v2 v3 g)))
      else
        et_b (x3 + (1 : Int32)) (fun v1 =>
        fn_Tw_followers_4 x1 n x2 v1 g))
def fn_Tw_followers (p1 : Int32) (g : et_G) : Option (Int32 × et_G) :=
  fn_Tw_followers_4 p1 1000000 (0 : Int32) (0 : Int32) g
theorem zp_Tw_followers_4 {X : et_X} {w : et_W} (hX : et_Gd X w cX6_followers RX6 4 (some .int) [] rm_Tw_followers) (x1 : Int32) : ∀ (n : Nat) (x2 : Int32) (x3 : Int32) (g : et_G), et_Z X w 0 et_eI 4 [some (.ref (et_ad w 2)), some (.int x1), some (.int x2), some (.int x3)] [] g (fn_Tw_followers_4 x1 n x2 x3 g) := by
  intro n
  induction n with
  | zero =>
    intro x2 x3 g a g2 h
    cases h
  | succ n ih =>
    intro x2 x3 g
    rw [fn_Tw_followers_4]
    refine zi_iload3 (pc := 4) hX dX6_followers_4 ?_
    refine zi_aload0 (pc := 5) hX dX6_followers_5 ?_
    refine zi_geti (pc := 6) hX dX6_followers_6 fl_219 ly_2 rfl ?_
    refine zi_icmp_ge (pc := 9) 42 hX dX6_followers_9 (by decide) (fun _ => ?_) (fun _ => ?_)
    · refine zi_iload2 (pc := 42) hX dX6_followers_42 ?_
      exact zi_ret (pc := 43) hX dX6_followers_43 rfl rfl rfl rfl
    · refine zi_aload0 (pc := 12) hX dX6_followers_12 ?_
      refine zi_getr (q := 13) (pc := 13) hX dX6_followers_13 fl_225 ly_2 rfl ?_
      refine zi_iload3 (pc := 16) hX dX6_followers_16 ?_
      refine zi_iald (pc := 17) hX dX6_followers_17 ly_13 ?_
      refine zi_iload1 (pc := 18) hX dX6_followers_18 ?_
      refine zi_iconst (pc := 19) hX dX6_followers_19 ki_m1 ?_
      refine zi_ixor (pc := 20) hX dX6_followers_20 ?_
      refine zi_iand (pc := 21) hX dX6_followers_21 ?_
      refine zi_if_ne (pc := 22) 36 hX dX6_followers_22 (by decide) (fun _ => ?_) (fun _ => ?_)
      · refine zi_iload2 (pc := 25) hX dX6_followers_25 ?_
        refine zi_iconst (pc := 26) hX dX6_followers_26 ki_1 ?_
        refine zi_aload0 (pc := 27) hX dX6_followers_27 ?_
        refine zi_getr (q := 12) (pc := 28) hX dX6_followers_28 fl_223 ly_2 rfl ?_
        refine zi_iload3 (pc := 31) hX dX6_followers_31 ?_
        refine zi_iald (pc := 32) hX dX6_followers_32 ly_12 ?_
        refine zi_ishl (pc := 33) hX dX6_followers_33 ?_
        refine zi_ior (pc := 34) hX dX6_followers_34 ?_
        refine zi_bi (fun v2 => ?_)
        refine zi_istore2 (pc := 35) hX dX6_followers_35 rfl rfl ?_
        refine zi_iincb3 (pc := 36) hX dX6_followers_36 (kn_1 _) rfl rfl (fun v3 => ?_)
        refine zi_goto (pc := 39) 4 hX dX6_followers_39 (by decide) ?_
        exact ih v2 v3 g
      · refine zi_iincb3 (pc := 36) hX dX6_followers_36 (kn_1 _) rfl rfl (fun v1 => ?_)
        refine zi_goto (pc := 39) 4 hX dX6_followers_39 (by decide) ?_
        exact ih x2 v1 g
theorem zw_Tw_followers {X : et_X} {w : et_W} (hX : et_Gd X w cX6_followers RX6 4 (some .int) [] rm_Tw_followers) (p1 : Int32) (g : et_G) : et_Z X w 0 et_eI 0 [some (.ref (et_ad w 2)), some (.int p1), none, none] [] g (fn_Tw_followers p1 g) := by
  unfold fn_Tw_followers
  refine zi_iconst (pc := 0) hX dX6_followers_0 ki_0 ?_
  refine zi_istore2 (pc := 1) hX dX6_followers_1 rfl rfl ?_
  refine zi_iconst (pc := 2) hX dX6_followers_2 ki_0 ?_
  refine zi_istore3 (pc := 3) hX dX6_followers_3 rfl rfl ?_
  exact zp_Tw_followers_4 hX p1 1000000 (0 : Int32) (0 : Int32) g
theorem ct_Tw_followers {w : et_W} (hw : et_Sane w) (p1 : Int32) (g : et_G) : et_C w yX6_followers (Cond.code yX6_followers cX6_followers 4 (some .int)) rm_Tw_followers et_eI [.ref (et_ad w 2), .int p1] g (fn_Tw_followers p1 g) := et_mk hw (by decide) rfl rfl (fun X hX => zw_Tw_followers hX p1 g)
def rm_Gr_widened : Room := { frames := 1, cells := 0, slots := 0, locals := 23 }
def fn_Gr_widened_17 (x2 : Int32) : Nat → Int32 → Int32 → et_G → Option (Int32 × et_G)
  | 0, _, _, _ => none
  | n + 1, x4, x5, g =>
    if x2 = 0 then
      some (x4, g)
    else
      if (g.1 2 5) ≤ x5 then
        some (x4, g)
      else
        et_bd (fn_Gr_aboutRow x5 (0 : Int32) g) (fun v4 g5 =>
        et_ck (et_ib v4 16) (
        if ((g5.1 52 v4.toNatClampNeg) &&& x2) = 0 then
          et_b (x5 + (1 : Int32)) (fun v6 =>
          fn_Gr_widened_17 x2 n x4 v6 g5)
        else
          et_b (x4 ||| ((1 : Int32) <<< (x5 &&& 31))) (fun v7 =>
          et_b (x5 + (1 : Int32)) (fun v8 =>
          fn_Gr_widened_17 x2 n v7 v8 g5))))
def fn_Gr_widened (p1 : Int32) (p2 : Int32) (p3 : Int32) (g : et_G) : Option (Int32 × et_G) :=
  et_bd (fn_Tw_followers p1 g) (fun v1 g2 =>
  et_b ((p1 ||| p3) ||| v1) (fun v3 =>
  fn_Gr_widened_17 p2 1000000 v3 (0 : Int32) g2))
theorem zp_Gr_widened_17 {X : et_X} {w : et_W} (hX : et_Gd X w cX0_widened RX0 6 (some .int) [] rm_Gr_widened) (x2 : Int32) : ∀ (n : Nat) (x4 : Int32) (x5 : Int32) (g : et_G), et_Z X w 0 et_eI 17 [some (.ref (et_ad w 48)), none, some (.int x2), none, some (.int x4), some (.int x5)] [] g (fn_Gr_widened_17 x2 n x4 x5 g) := by
  intro n
  induction n with
  | zero =>
    intro x4 x5 g a g2 h
    cases h
  | succ n ih =>
    intro x4 x5 g
    rw [fn_Gr_widened_17]
    refine zi_iload2 (pc := 17) hX dX0_widened_17 ?_
    refine zi_if_eq (pc := 18) 64 hX dX0_widened_18 (by decide) (fun _ => ?_) (fun _ => ?_)
    · refine zi_iload4 (pc := 64) hX dX0_widened_64 ?_
      exact zi_ret (pc := 66) hX dX0_widened_66 rfl rfl rfl rfl
    · refine zi_iload5 (pc := 21) hX dX0_widened_21 ?_
      refine zi_aload0 (pc := 23) hX dX0_widened_23 ?_
      refine zi_getr (q := 2) (pc := 24) hX dX0_widened_24 fl_415 ly_48 rfl ?_
      refine zi_geti (pc := 27) hX dX0_widened_27 fl_201 ly_2 rfl ?_
      refine zi_icmp_ge (pc := 30) 64 hX dX0_widened_30 (by decide) (fun _ => ?_) (fun _ => ?_)
      · refine zi_iload4 (pc := 64) hX dX0_widened_64 ?_
        exact zi_ret (pc := 66) hX dX0_widened_66 rfl rfl rfl rfl
      · refine zi_aload0 (pc := 33) hX dX0_widened_33 ?_
        refine zi_getr (q := 52) (pc := 34) hX dX0_widened_34 fl_420 ly_48 rfl ?_
        refine zi_iload5 (pc := 37) hX dX0_widened_37 ?_
        refine zi_iconst (pc := 39) hX dX0_widened_39 ki_0 ?_
        refine zi_callI (zc_stat (pc := 40) hX dX0_widened_40 tm_614 md_X0_aboutRow st_X0_aboutRow (ct_Gr_aboutRow hX.sane x5 (0 : Int32) g) rfl rfl rfl) (fun v4 g5 => ?_)
        refine zi_iald (pc := 43) hX dX0_widened_43 ly_52 ?_
        refine zi_iload2 (pc := 44) hX dX0_widened_44 ?_
        refine zi_iand (pc := 45) hX dX0_widened_45 ?_
        refine zi_if_eq (pc := 46) 58 hX dX0_widened_46 (by decide) (fun _ => ?_) (fun _ => ?_)
        · refine zi_iincb5 (pc := 58) hX dX0_widened_58 (kn_1 _) rfl rfl (fun v6 => ?_)
          refine zi_goto (pc := 61) 17 hX dX0_widened_61 (by decide) ?_
          exact ih x4 v6 g5
        · refine zi_iload4 (pc := 49) hX dX0_widened_49 ?_
          refine zi_iconst (pc := 51) hX dX0_widened_51 ki_1 ?_
          refine zi_iload5 (pc := 52) hX dX0_widened_52 ?_
          refine zi_ishl (pc := 54) hX dX0_widened_54 ?_
          refine zi_ior (pc := 55) hX dX0_widened_55 ?_
          refine zi_bi (fun v7 => ?_)
          refine zi_istore4 (pc := 56) hX dX0_widened_56 rfl rfl ?_
          refine zi_iincb5 (pc := 58) hX dX0_widened_58 (kn_1 _) rfl rfl (fun v8 => ?_)
          refine zi_goto (pc := 61) 17 hX dX0_widened_61 (by decide) ?_
          exact ih v7 v8 g5
theorem zw_Gr_widened {X : et_X} {w : et_W} (hX : et_Gd X w cX0_widened RX0 6 (some .int) [] rm_Gr_widened) (p1 : Int32) (p2 : Int32) (p3 : Int32) (g : et_G) : et_Z X w 0 et_eI 0 [some (.ref (et_ad w 48)), some (.int p1), some (.int p2), some (.int p3), none, none] [] g (fn_Gr_widened p1 p2 p3 g) := by
  unfold fn_Gr_widened
  refine zi_iload1 (pc := 0) hX dX0_widened_0 ?_
  refine zi_iload3 (pc := 1) hX dX0_widened_1 ?_
  refine zi_ior (pc := 2) hX dX0_widened_2 ?_
  refine zi_aload0 (pc := 3) hX dX0_widened_3 ?_
  refine zi_getr (q := 2) (pc := 4) hX dX0_widened_4 fl_415 ly_48 rfl ?_
  refine zi_iload1 (pc := 7) hX dX0_widened_7 ?_
  refine zi_callI (zc_virt (pc := 8) hX dX0_widened_8 tm_658 md_X6_followers mi_X6_followers ly_2 (ct_Tw_followers hX.sane p1 g) rfl rfl rfl) (fun v1 g2 => ?_)
  refine zi_ior (pc := 11) hX dX0_widened_11 ?_
  refine zi_bi (fun v3 => ?_)
  refine zi_istore4 (pc := 12) hX dX0_widened_12 rfl rfl ?_
  refine zi_iconst (pc := 14) hX dX0_widened_14 ki_0 ?_
  refine zi_istore5 (pc := 15) hX dX0_widened_15 rfl rfl ?_
  refine zi_drop (le_s (le_n (le_s (le_n (le_s (le_s le_nil)))))) ?_; exact zp_Gr_widened_17 hX p2 1000000 v3 (0 : Int32) g2
theorem ct_Gr_widened {w : et_W} (hw : et_Sane w) (p1 : Int32) (p2 : Int32) (p3 : Int32) (g : et_G) : et_C w yX0_widened (Cond.code yX0_widened cX0_widened 6 (some .int)) rm_Gr_widened et_eI [.ref (et_ad w 48), .int p1, .int p2, .int p3] g (fn_Gr_widened p1 p2 p3 g) := et_mk hw (by decide) rfl rfl (fun X hX => zw_Gr_widened hX p1 p2 p3 g)
