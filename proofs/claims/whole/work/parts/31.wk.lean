def rm_Mi_knowing : Room := { frames := 3, cells := 0, slots := 0, locals := 67 }
def fn_Mi_knowing_12 (x2 : Int32) (x3 : Int32) : Nat → Int32 → Int32 → et_G → Option (Int32 × et_G)
  | 0, _, _, _ => none
  | n + 1, x4, x5, g =>
    if (16 : Int32) ≤ x5 then
      some (x4, g)
    else
      et_bd (fn_Et_hasBit (g.1 46 2) x5 g) (fun v3 g4 =>
      if v3 = 0 then
        et_b (x5 + (1 : Int32)) (fun v5 =>
        fn_Mi_knowing_12 x2 x3 n x4 v5 g4)
      else
        et_bd (fn_Mi_alike x5 x3 g4) (fun v6 g7 =>
        if (v6 &&& (x2 ^^^ (-1 : Int32))) = 0 then
          et_b (x4 ||| ((1 : Int32) <<< (x5 &&& 31))) (fun v9 =>
          et_b (x5 + (1 : Int32)) (fun v10 =>
          fn_Mi_knowing_12 x2 x3 n v9 v10 g7))
        else
          et_b (x5 + (1 : Int32)) (fun v8 =>
          fn_Mi_knowing_12 x2 x3 n x4 v8 g7)))
def fn_Mi_knowing (p1 : Int32) (p2 : Int32) (g : et_G) : Option (Int32 × et_G) :=
  et_bd (fn_Mi_distinguished p1 g) (fun v1 g2 =>
  fn_Mi_knowing_12 p2 v1 1000000 (0 : Int32) (0 : Int32) g2)
theorem zp_Mi_knowing_12 {X : et_X} {w : et_W} (hX : et_Gd X w cX3_knowing RX3 6 (some .int) [] rm_Mi_knowing) (x2 : Int32) (x3 : Int32) : ∀ (n : Nat) (x4 : Int32) (x5 : Int32) (g : et_G), et_Z X w 0 et_eI 12 [some (.ref (et_ad w 46)), none, some (.int x2), some (.int x3), some (.int x4), some (.int x5)] [] g (fn_Mi_knowing_12 x2 x3 n x4 x5 g) := by
  intro n
  induction n with
  | zero =>
    intro x4 x5 g a g2 h
    cases h
  | succ n ih =>
    intro x4 x5 g
    rw [fn_Mi_knowing_12]
    refine zi_iload5 (pc := 12) hX dX3_knowing_12 ?_
    refine zi_bipush (pc := 14) hX dX3_knowing_14 kb_16 ?_
    refine zi_icmp_ge (pc := 16) 60 hX dX3_knowing_16 (by decide) (fun _ => ?_) (fun _ => ?_)
    · refine zi_iload4 (pc := 60) hX dX3_knowing_60 ?_
      exact zi_ret (pc := 62) hX dX3_knowing_62 rfl rfl rfl rfl
    · refine zi_aload0 (pc := 19) hX dX3_knowing_19 ?_
      refine zi_geti (pc := 20) hX dX3_knowing_20 fl_400 ly_46 rfl ?_
      refine zi_iload5 (pc := 23) hX dX3_knowing_23 ?_
      refine zi_callI (zc_nest (pc := 25) hX dX3_knowing_25 nl_1301 md_X9_hasBit st_X9_hasBit (ct_Et_hasBit hX.sane (g.1 46 2) x5 g) rfl rfl rfl) (fun v3 g4 => ?_)
      refine zi_if_eq (pc := 28) 54 hX dX3_knowing_28 (by decide) (fun _ => ?_) (fun _ => ?_)
      · refine zi_iincb5 (pc := 54) hX dX3_knowing_54 (kn_1 _) rfl rfl (fun v5 => ?_)
        refine zi_goto (pc := 57) 12 hX dX3_knowing_57 (by decide) ?_
        exact ih x4 v5 g4
      · refine zi_aload0 (pc := 31) hX dX3_knowing_31 ?_
        refine zi_iload5 (pc := 32) hX dX3_knowing_32 ?_
        refine zi_iload3 (pc := 34) hX dX3_knowing_34 ?_
        refine zi_callI (zc_virt (pc := 35) hX dX3_knowing_35 tm_1319 md_X3_alike mi_X3_alike ly_46 (ct_Mi_alike hX.sane x5 x3 g4) rfl rfl rfl) (fun v6 g7 => ?_)
        refine zi_iload2 (pc := 38) hX dX3_knowing_38 ?_
        refine zi_iconst (pc := 39) hX dX3_knowing_39 ki_m1 ?_
        refine zi_ixor (pc := 40) hX dX3_knowing_40 ?_
        refine zi_iand (pc := 41) hX dX3_knowing_41 ?_
        refine zi_if_ne (pc := 42) 54 hX dX3_knowing_42 (by decide) (fun _ => ?_) (fun _ => ?_)
        · refine zi_iload4 (pc := 45) hX dX3_knowing_45 ?_
          refine zi_iconst (pc := 47) hX dX3_knowing_47 ki_1 ?_
          refine zi_iload5 (pc := 48) hX dX3_knowing_48 ?_
          refine zi_ishl (pc := 50) hX dX3_knowing_50 ?_
          refine zi_ior (pc := 51) hX dX3_knowing_51 ?_
          refine zi_bi (fun v9 => ?_)
          refine zi_istore4 (pc := 52) hX dX3_knowing_52 rfl rfl ?_
          refine zi_iincb5 (pc := 54) hX dX3_knowing_54 (kn_1 _) rfl rfl (fun v10 => ?_)
          refine zi_goto (pc := 57) 12 hX dX3_knowing_57 (by decide) ?_
          exact ih v9 v10 g7
        · refine zi_iincb5 (pc := 54) hX dX3_knowing_54 (kn_1 _) rfl rfl (fun v8 => ?_)
          refine zi_goto (pc := 57) 12 hX dX3_knowing_57 (by decide) ?_
          exact ih x4 v8 g7
theorem zw_Mi_knowing {X : et_X} {w : et_W} (hX : et_Gd X w cX3_knowing RX3 6 (some .int) [] rm_Mi_knowing) (p1 : Int32) (p2 : Int32) (g : et_G) : et_Z X w 0 et_eI 0 [some (.ref (et_ad w 46)), some (.int p1), some (.int p2), none, none, none] [] g (fn_Mi_knowing p1 p2 g) := by
  unfold fn_Mi_knowing
  refine zi_aload0 (pc := 0) hX dX3_knowing_0 ?_
  refine zi_iload1 (pc := 1) hX dX3_knowing_1 ?_
  refine zi_callI (zc_virt (pc := 2) hX dX3_knowing_2 tm_1314 md_X3_distinguished mi_X3_distinguished ly_46 (ct_Mi_distinguished hX.sane p1 g) rfl rfl rfl) (fun v1 g2 => ?_)
  refine zi_istore3 (pc := 5) hX dX3_knowing_5 rfl rfl ?_
  refine zi_iconst (pc := 6) hX dX3_knowing_6 ki_0 ?_
  refine zi_istore4 (pc := 7) hX dX3_knowing_7 rfl rfl ?_
  refine zi_iconst (pc := 9) hX dX3_knowing_9 ki_0 ?_
  refine zi_istore5 (pc := 10) hX dX3_knowing_10 rfl rfl ?_
  refine zi_drop (le_s (le_n (le_s (le_s (le_s (le_s le_nil)))))) ?_; exact zp_Mi_knowing_12 hX p2 v1 1000000 (0 : Int32) (0 : Int32) g2
theorem ct_Mi_knowing {w : et_W} (hw : et_Sane w) (p1 : Int32) (p2 : Int32) (g : et_G) : et_C w yX3_knowing (Cond.code yX3_knowing cX3_knowing 6 (some .int)) rm_Mi_knowing et_eI [.ref (et_ad w 46), .int p1, .int p2] g (fn_Mi_knowing p1 p2 g) := et_mk hw (by decide) rfl rfl (fun X hX => zw_Mi_knowing hX p1 p2 g)
def rm_Mi_isKnown : Room := { frames := 4, cells := 0, slots := 0, locals := 92 }
def fn_Mi_isKnown_52 (x5 : Int32) (g : et_G) : Option (Int32 × et_G) :=
  et_bd (fn_Mi_realWorld g) (fun v6 g7 =>
  et_bd (fn_Et_hasBit x5 v6 g7) (fun v8 g9 =>
  some (v8 &&& 1, g9)))
def fn_Mi_isKnown_27 (x1 : Int32) : Nat → Int32 → Int32 → et_G → Option (Int32 × et_G)
  | 0, _, _, _ => none
  | n + 1, x5, x6, g =>
    if x6 < 0 then
      fn_Mi_isKnown_52 x5 g
    else
      et_bd (fn_Mi_figure x1 x6 g) (fun v10 g11 =>
      et_bd (fn_Mi_knowing v10 x5 g11) (fun v12 g13 =>
      et_b (x6 + (-1 : Int32)) (fun v14 =>
      fn_Mi_isKnown_27 x1 n v12 v14 g13)))
def fn_Mi_isKnown (p1 : Int32) (p2 : Int32) (p3 : Int32) (p4 : Int32) (g : et_G) : Option (Int32 × et_G) :=
  et_bd (fn_Et_hasBit (g.1 46 1) p3 g) (fun v1 g2 =>
  if v1 = 0 then
    some ((0 : Int32), g2)
  else
    et_bd (fn_Mi_worldsWith p3 p4 g2) (fun v3 g4 =>
    et_b (p2 - (1 : Int32)) (fun v5 =>
    fn_Mi_isKnown_27 p1 1000000 v3 v5 g4)))
theorem zp_Mi_isKnown_52 {X : et_X} {w : et_W} (hX : et_Gd X w cX3_isKnown RX3 7 (some .boolean) [] rm_Mi_isKnown) (x5 : Int32) (g : et_G) : et_Z X w 0 et_eI 52 [some (.ref (et_ad w 46)), none, none, none, none, some (.int x5), none] [] g (fn_Mi_isKnown_52 x5 g) := by
  unfold fn_Mi_isKnown_52
  refine zi_iload5 (pc := 52) hX dX3_isKnown_52 ?_
  refine zi_aload0 (pc := 54) hX dX3_isKnown_54 ?_
  refine zi_callI (zc_virt (pc := 55) hX dX3_isKnown_55 tm_1323 md_X3_realWorld mi_X3_realWorld ly_46 (ct_Mi_realWorld hX.sane g) rfl rfl rfl) (fun v6 g7 => ?_)
  refine zi_callI (zc_nest (pc := 58) hX dX3_isKnown_58 nl_1301 md_X9_hasBit st_X9_hasBit (ct_Et_hasBit hX.sane x5 v6 g7) rfl rfl rfl) (fun v8 g9 => ?_)
  exact zi_ret (pc := 61) hX dX3_isKnown_61 rfl rfl rfl rfl
theorem zp_Mi_isKnown_27 {X : et_X} {w : et_W} (hX : et_Gd X w cX3_isKnown RX3 7 (some .boolean) [] rm_Mi_isKnown) (x1 : Int32) : ∀ (n : Nat) (x5 : Int32) (x6 : Int32) (g : et_G), et_Z X w 0 et_eI 27 [some (.ref (et_ad w 46)), some (.int x1), none, none, none, some (.int x5), some (.int x6)] [] g (fn_Mi_isKnown_27 x1 n x5 x6 g) := by
  intro n
  induction n with
  | zero =>
    intro x5 x6 g a g2 h
    cases h
  | succ n ih =>
    intro x5 x6 g
    rw [fn_Mi_isKnown_27]
    refine zi_iload6 (pc := 27) hX dX3_isKnown_27 ?_
    refine zi_if_lt (pc := 29) 52 hX dX3_isKnown_29 (by decide) (fun _ => ?_) (fun _ => ?_)
    · refine zi_drop (le_s (le_n (le_s (le_s (le_s (le_s (le_n le_nil))))))) ?_; exact zp_Mi_isKnown_52 hX x5 g
    · refine zi_aload0 (pc := 32) hX dX3_isKnown_32 ?_
      refine zi_iload1 (pc := 33) hX dX3_isKnown_33 ?_
      refine zi_iload6 (pc := 34) hX dX3_isKnown_34 ?_
      refine zi_callI (zc_stat (pc := 36) hX dX3_isKnown_36 tm_1341 md_X3_figure st_X3_figure (ct_Mi_figure hX.sane x1 x6 g) rfl rfl rfl) (fun v10 g11 => ?_)
      refine zi_iload5 (pc := 39) hX dX3_isKnown_39 ?_
      refine zi_callI (zc_virt (pc := 41) hX dX3_isKnown_41 tm_1310 md_X3_knowing mi_X3_knowing ly_46 (ct_Mi_knowing hX.sane v10 x5 g11) rfl rfl rfl) (fun v12 g13 => ?_)
      refine zi_istore5 (pc := 44) hX dX3_isKnown_44 rfl rfl ?_
      refine zi_iincb6 (pc := 46) hX dX3_isKnown_46 (kn_m1 _) rfl rfl (fun v14 => ?_)
      refine zi_goto (pc := 49) 27 hX dX3_isKnown_49 (by decide) ?_
      exact ih v12 v14 g13
theorem zw_Mi_isKnown {X : et_X} {w : et_W} (hX : et_Gd X w cX3_isKnown RX3 7 (some .boolean) [] rm_Mi_isKnown) (p1 : Int32) (p2 : Int32) (p3 : Int32) (p4 : Int32) (g : et_G) : et_Z X w 0 et_eI 0 [some (.ref (et_ad w 46)), some (.int p1), some (.int p2), some (.int p3), some (.int p4), none, none] [] g (fn_Mi_isKnown p1 p2 p3 p4 g) := by
  unfold fn_Mi_isKnown
  refine zi_aload0 (pc := 0) hX dX3_isKnown_0 ?_
  refine zi_geti (pc := 1) hX dX3_isKnown_1 fl_399 ly_46 rfl ?_
  refine zi_iload3 (pc := 4) hX dX3_isKnown_4 ?_
  refine zi_callI (zc_nest (pc := 5) hX dX3_isKnown_5 nl_1301 md_X9_hasBit st_X9_hasBit (ct_Et_hasBit hX.sane (g.1 46 1) p3 g) rfl rfl rfl) (fun v1 g2 => ?_)
  refine zi_if_ne (pc := 8) 13 hX dX3_isKnown_8 (by decide) (fun _ => ?_) (fun _ => ?_)
  · refine zi_iconst (pc := 11) hX dX3_isKnown_11 ki_0 ?_
    exact zi_ret (pc := 12) hX dX3_isKnown_12 et_z0 rfl rfl rfl
  · refine zi_aload0 (pc := 13) hX dX3_isKnown_13 ?_
    refine zi_iload3 (pc := 14) hX dX3_isKnown_14 ?_
    refine zi_iload4 (pc := 15) hX dX3_isKnown_15 ?_
    refine zi_callI (zc_virt (pc := 17) hX dX3_isKnown_17 tm_1302 md_X3_worldsWith mi_X3_worldsWith ly_46 (ct_Mi_worldsWith hX.sane p3 p4 g2) rfl rfl rfl) (fun v3 g4 => ?_)
    refine zi_istore5 (pc := 20) hX dX3_isKnown_20 rfl rfl ?_
    refine zi_iload2 (pc := 22) hX dX3_isKnown_22 ?_
    refine zi_iconst (pc := 23) hX dX3_isKnown_23 ki_1 ?_
    refine zi_isub (pc := 24) hX dX3_isKnown_24 ?_
    refine zi_bi (fun v5 => ?_)
    refine zi_istore6 (pc := 25) hX dX3_isKnown_25 rfl rfl ?_
    refine zi_drop (le_s (le_s (le_n (le_n (le_n (le_s (le_s le_nil))))))) ?_; exact zp_Mi_isKnown_27 hX p1 1000000 v3 v5 g4
theorem ct_Mi_isKnown {w : et_W} (hw : et_Sane w) (p1 : Int32) (p2 : Int32) (p3 : Int32) (p4 : Int32) (g : et_G) : et_C w yX3_isKnown (Cond.code yX3_isKnown cX3_isKnown 7 (some .boolean)) rm_Mi_isKnown et_eI [.ref (et_ad w 46), .int p1, .int p2, .int p3, .int p4] g (fn_Mi_isKnown p1 p2 p3 p4 g) := et_mk hw (by decide) rfl rfl (fun X hX => zw_Mi_isKnown hX p1 p2 p3 p4 g)
def rm_Et_known : Room := { frames := 7, cells := 2, slots := 12, locals := 118 }
def fn_Et_known_62 (x1 : Int32) (x2 : Int32) (x3 : Int32) (x4 : Int32) (g : et_G) : Option ((Nat ⊕ Int32) × et_G) :=
  et_bd (fn_Mi_isKnown x1 x2 x3 x4 g) (fun v3 g4 =>
  some (.inr (v3 &&& 1), g4))
def fn_Et_known_26 (x1 : Int32) (x2 : Int32) (x3 : Int32) (x4 : Int32) : Nat → Int32 → et_G → Option ((Nat ⊕ Int32) × et_G)
  | 0, _, _ => none
  | n + 1, x5, g =>
    if x2 ≤ x5 then
      fn_Et_known_62 x1 x2 x3 x4 g
    else
      et_bd (fn_Mi_figure x1 x5 g) (fun v5 g6 =>
      et_bd (fn_Tw_hasPerson v5 g6) (fun v7 g8 =>
      if v7 = 0 then
        some (.inl 1, g8)
      else
        et_b (x5 + (1 : Int32)) (fun v9 =>
        fn_Et_known_26 x1 x2 x3 x4 n v9 g8)))
def fn_Et_known (p1 : Int32) (p2 : Int32) (p3 : Int32) (p4 : Int32) (g : et_G) : Option ((Nat ⊕ Int32) × et_G) :=
  et_bt (fn_Et_needThing p3 g) (fun _ g2 =>
  if p2 < (1 : Int32) then
    some (.inl 1, g2)
  else
    if p2 ≤ (4 : Int32) then
      fn_Et_known_26 p1 p2 p3 p4 1000000 (0 : Int32) g2
    else
      some (.inl 1, g2))
theorem zp_Et_known_62 {X : et_X} {w : et_W} (hX : et_Gd X w cX9_known RX9 6 (some .boolean) [] rm_Et_known) (x1 : Int32) (x2 : Int32) (x3 : Int32) (x4 : Int32) (g : et_G) : et_Z X w 1 et_tI 62 [some (.ref (et_ad w 0)), some (.int x1), some (.int x2), some (.int x3), some (.int x4), none] [] g (fn_Et_known_62 x1 x2 x3 x4 g) := by
  unfold fn_Et_known_62
  refine zi_aload0 (pc := 62) hX dX9_known_62 ?_
  refine zi_getr (q := 46) (pc := 63) hX dX9_known_63 fl_500 ly_0 rfl ?_
  refine zi_iload1 (pc := 66) hX dX9_known_66 ?_
  refine zi_iload2 (pc := 67) hX dX9_known_67 ?_
  refine zi_iload3 (pc := 68) hX dX9_known_68 ?_
  refine zi_iload4 (pc := 69) hX dX9_known_69 ?_
  refine zi_callI (zc_virt (pc := 71) hX dX9_known_71 tm_1337 md_X3_isKnown mi_X3_isKnown ly_46 (ct_Mi_isKnown hX.sane x1 x2 x3 x4 g) rfl rfl rfl) (fun v3 g4 => ?_)
  exact zi_ret (pc := 74) hX dX9_known_74 rfl rfl rfl rfl
theorem zp_Et_known_26 {X : et_X} {w : et_W} (hX : et_Gd X w cX9_known RX9 6 (some .boolean) [] rm_Et_known) (x1 : Int32) (x2 : Int32) (x3 : Int32) (x4 : Int32) : ∀ (n : Nat) (x5 : Int32) (g : et_G), et_Z X w 1 et_tI 26 [some (.ref (et_ad w 0)), some (.int x1), some (.int x2), some (.int x3), some (.int x4), some (.int x5)] [] g (fn_Et_known_26 x1 x2 x3 x4 n x5 g) := by
  intro n
  induction n with
  | zero =>
    intro x5 g a g2 h
    cases h
  | succ n ih =>
    intro x5 g
    rw [fn_Et_known_26]
    refine zi_iload5 (pc := 26) hX dX9_known_26 ?_
    refine zi_iload2 (pc := 28) hX dX9_known_28 ?_
    refine zi_icmp_ge (pc := 29) 62 hX dX9_known_29 (by decide) (fun _ => ?_) (fun _ => ?_)
    · refine zi_drop (le_s (le_s (le_s (le_s (le_s (le_n le_nil)))))) ?_; exact zp_Et_known_62 hX x1 x2 x3 x4 g
    · refine zi_aload0 (pc := 32) hX dX9_known_32 ?_
      refine zi_getr (q := 2) (pc := 33) hX dX9_known_33 fl_493 ly_0 rfl ?_
      refine zi_iload1 (pc := 36) hX dX9_known_36 ?_
      refine zi_iload5 (pc := 37) hX dX9_known_37 ?_
      refine zi_callI (zc_stat (pc := 39) hX dX9_known_39 tm_1334 md_X3_figure st_X3_figure (ct_Mi_figure hX.sane x1 x5 g) rfl rfl rfl) (fun v5 g6 => ?_)
      refine zi_callI (zc_virt (pc := 42) hX dX9_known_42 tm_1035 md_X6_hasPerson mi_X6_hasPerson ly_2 (ct_Tw_hasPerson hX.sane v5 g6) rfl rfl rfl) (fun v7 g8 => ?_)
      refine zi_if_ne (pc := 45) 56 hX dX9_known_45 (by decide) (fun _ => ?_) (fun _ => ?_)
      · exact zi_thr (pc := 48) hX dX9_known_48 dX9_known_51 dX9_known_52 dX9_known_55 th_1 rfl rfl rfl rfl rfl
      · refine zi_iincb5 (pc := 56) hX dX9_known_56 (kn_1 _) rfl rfl (fun v9 => ?_)
        refine zi_goto (pc := 59) 26 hX dX9_known_59 (by decide) ?_
        exact ih v9 g8
theorem zw_Et_known {X : et_X} {w : et_W} (hX : et_Gd X w cX9_known RX9 6 (some .boolean) [] rm_Et_known) (p1 : Int32) (p2 : Int32) (p3 : Int32) (p4 : Int32) (g : et_G) : et_Z X w 0 et_tI 0 [some (.ref (et_ad w 0)), some (.int p1), some (.int p2), some (.int p3), some (.int p4), none] [] g (fn_Et_known p1 p2 p3 p4 g) := by
  unfold fn_Et_known
  refine zi_aload0 (pc := 0) hX dX9_known_0 ?_
  refine zi_iload3 (pc := 1) hX dX9_known_1 ?_
  refine zi_callTU hX (fun _ => rfl) rfl rfl (zc_virt (pc := 2) hX dX9_known_2 tm_1054 md_X9_needThing mi_X9_needThing ly_0 (ct_Et_needThing hX.sane p3 g) rfl rfl rfl) (fun g2 => ?_)
  refine zi_iload2 (pc := 5) hX dX9_known_5 ?_
  refine zi_iconst (pc := 6) hX dX9_known_6 ki_1 ?_
  refine zi_icmp_lt (pc := 7) 15 hX dX9_known_7 (by decide) (fun _ => ?_) (fun _ => ?_)
  · exact zi_thr (pc := 15) hX dX9_known_15 dX9_known_18 dX9_known_19 dX9_known_22 th_1 rfl rfl rfl rfl rfl
  · refine zi_iload2 (pc := 10) hX dX9_known_10 ?_
    refine zi_iconst (pc := 11) hX dX9_known_11 ki_4 ?_
    refine zi_icmp_le (pc := 12) 23 hX dX9_known_12 (by decide) (fun _ => ?_) (fun _ => ?_)
    · refine zi_iconst (pc := 23) hX dX9_known_23 ki_0 ?_
      refine zi_istore5 (pc := 24) hX dX9_known_24 rfl rfl ?_
      exact zp_Et_known_26 hX p1 p2 p3 p4 1000000 (0 : Int32) g2
    · exact zi_thr (pc := 15) hX dX9_known_15 dX9_known_18 dX9_known_19 dX9_known_22 th_1 rfl rfl rfl rfl rfl
theorem ct_Et_known {w : et_W} (hw : et_Sane w) (p1 : Int32) (p2 : Int32) (p3 : Int32) (p4 : Int32) (g : et_G) : et_C w yX9_known (Cond.code yX9_known cX9_known 6 (some .boolean)) rm_Et_known et_tI [.ref (et_ad w 0), .int p1, .int p2, .int p3, .int p4] g (fn_Et_known p1 p2 p3 p4 g) := et_mk hw (by decide) rfl rfl (fun X hX => zw_Et_known hX p1 p2 p3 p4 g)
def rm_Tw_weighed : Room := { frames := 0, cells := 0, slots := 0, locals := 0 }
def fn_Tw_weighed_14 (x1 : Int32) (x2 : Int32) (x3 : Int32) (s0 : Int64) (g : et_G) : Option (Int32 × et_G) :=
  et_ck (et_ib ((2 : Int32) * x2) 10) (
  et_b (s0 * ((g.1 14 ((2 : Int32) * x2).toNatClampNeg).toInt64)) (fun v1 =>
  et_ck (et_ib (((2 : Int32) * x2) + (1 : Int32)) 10) (
  et_b (v1 + (((1000000 : Int64) - s0) * ((g.1 14 (((2 : Int32) * x2) + (1 : Int32)).toNatClampNeg).toInt64))) (fun v2 =>
  if (lg_cmp v2 (0 : Int64)) = 0 then
    some (x1, g)
  else
    et_ck (!decide (v2 = 0)) (
    et_b (((v1 * (1000000 : Int64)) / v2).toInt32) (fun v3 =>
    if x3 = 0 then
      some (v3, g)
    else
      some ((1000000 : Int32) - v3, g)))))))
def fn_Tw_weighed (p1 : Int32) (p2 : Int32) (p3 : Int32) (g : et_G) : Option (Int32 × et_G) :=
  if p3 = 0 then
    fn_Tw_weighed_14 p1 p2 p3 (p1.toInt64) g
  else
    fn_Tw_weighed_14 p1 p2 p3 (((1000000 : Int32) - p1).toInt64) g
theorem zp_Tw_weighed_14 {X : et_X} {w : et_W} (hX : et_Gd X w cX6_weighed RX6 11 (some .int) [] rm_Tw_weighed) (x1 : Int32) (x2 : Int32) (x3 : Int32) (s0 : Int64) (g : et_G) : et_Z X w 0 et_eI 14 [some (.ref (et_ad w 2)), some (.int x1), some (.int x2), some (.int x3), none, none, none, none, none, none, none] [.long s0] g (fn_Tw_weighed_14 x1 x2 x3 s0 g) := by
  unfold fn_Tw_weighed_14
  refine zi_lstore4 (pc := 14) hX dX6_weighed_14 rfl rfl ?_
  refine zi_lload4 (pc := 16) hX dX6_weighed_16 ?_
  refine zi_aload0 (pc := 18) hX dX6_weighed_18 ?_
  refine zi_getr (q := 14) (pc := 19) hX dX6_weighed_19 fl_228 ly_2 rfl ?_
  refine zi_iconst (pc := 22) hX dX6_weighed_22 ki_2 ?_
  refine zi_iload2 (pc := 23) hX dX6_weighed_23 ?_
  refine zi_imul (pc := 24) hX dX6_weighed_24 ?_
  refine zi_iald (pc := 25) hX dX6_weighed_25 ly_14 ?_
  refine zi_i2l (pc := 26) hX dX6_weighed_26 ?_
  refine zi_lmul (pc := 27) hX dX6_weighed_27 ?_
  refine zi_bl (fun v1 => ?_)
  refine zi_lstore6 (pc := 28) hX dX6_weighed_28 rfl rfl ?_
  refine zi_lload6 (pc := 30) hX dX6_weighed_30 ?_
  refine zi_ldc2 (pc := 32) hX dX6_weighed_32 tm_1277 ?_
  refine zi_lload4 (pc := 35) hX dX6_weighed_35 ?_
  refine zi_lsub (pc := 37) hX dX6_weighed_37 ?_
  refine zi_aload0 (pc := 38) hX dX6_weighed_38 ?_
  refine zi_getr (q := 14) (pc := 39) hX dX6_weighed_39 fl_228 ly_2 rfl ?_
  refine zi_iconst (pc := 42) hX dX6_weighed_42 ki_2 ?_
  refine zi_iload2 (pc := 43) hX dX6_weighed_43 ?_
  refine zi_imul (pc := 44) hX dX6_weighed_44 ?_
  refine zi_iconst (pc := 45) hX dX6_weighed_45 ki_1 ?_
  refine zi_iadd (pc := 46) hX dX6_weighed_46 ?_
  refine zi_iald (pc := 47) hX dX6_weighed_47 ly_14 ?_
  refine zi_i2l (pc := 48) hX dX6_weighed_48 ?_
  refine zi_lmul (pc := 49) hX dX6_weighed_49 ?_
  refine zi_ladd (pc := 50) hX dX6_weighed_50 ?_
  refine zi_bl (fun v2 => ?_)
  refine zi_lstore8 (pc := 51) hX dX6_weighed_51 rfl rfl ?_
  refine zi_lload8 (pc := 53) hX dX6_weighed_53 ?_
  refine zi_lconst (pc := 55) hX dX6_weighed_55 kl_0 ?_
  refine zi_lcmp (pc := 56) hX dX6_weighed_56 ?_
  refine zi_if_ne (pc := 57) 62 hX dX6_weighed_57 (by decide) (fun _ => ?_) (fun _ => ?_)
  · refine zi_iload1 (pc := 60) hX dX6_weighed_60 ?_
    exact zi_ret (pc := 61) hX dX6_weighed_61 rfl rfl rfl rfl
  · refine zi_lload6 (pc := 62) hX dX6_weighed_62 ?_
    refine zi_ldc2 (pc := 64) hX dX6_weighed_64 tm_1277 ?_
    refine zi_lmul (pc := 67) hX dX6_weighed_67 ?_
    refine zi_lload8 (pc := 68) hX dX6_weighed_68 ?_
    refine zi_ldivc (pc := 70) hX dX6_weighed_70 ?_
    refine zi_l2i (pc := 71) hX dX6_weighed_71 ?_
    refine zi_bi (fun v3 => ?_)
    refine zi_istore10 (pc := 72) hX dX6_weighed_72 rfl rfl ?_
    refine zi_iload3 (pc := 74) hX dX6_weighed_74 ?_
    refine zi_if_eq (pc := 75) 86 hX dX6_weighed_75 (by decide) (fun _ => ?_) (fun _ => ?_)
    · refine zi_iload10 (pc := 86) hX dX6_weighed_86 ?_
      exact zi_ret (pc := 88) hX dX6_weighed_88 rfl rfl rfl rfl
    · refine zi_ldc (pc := 78) hX dX6_weighed_78 tm_1276 ?_
      refine zi_iload10 (pc := 80) hX dX6_weighed_80 ?_
      refine zi_isub (pc := 82) hX dX6_weighed_82 ?_
      refine zi_goto (pc := 83) 88 hX dX6_weighed_83 (by decide) ?_
      exact zi_ret (pc := 88) hX dX6_weighed_88 rfl rfl rfl rfl
theorem zw_Tw_weighed {X : et_X} {w : et_W} (hX : et_Gd X w cX6_weighed RX6 11 (some .int) [] rm_Tw_weighed) (p1 : Int32) (p2 : Int32) (p3 : Int32) (g : et_G) : et_Z X w 0 et_eI 0 [some (.ref (et_ad w 2)), some (.int p1), some (.int p2), some (.int p3), none, none, none, none, none, none, none] [] g (fn_Tw_weighed p1 p2 p3 g) := by
  unfold fn_Tw_weighed
  refine zi_iload3 (pc := 0) hX dX6_weighed_0 ?_
  refine zi_if_eq (pc := 1) 12 hX dX6_weighed_1 (by decide) (fun _ => ?_) (fun _ => ?_)
  · refine zi_iload1 (pc := 12) hX dX6_weighed_12 ?_
    refine zi_i2l (pc := 13) hX dX6_weighed_13 ?_
    exact zp_Tw_weighed_14 hX p1 p2 p3 (p1.toInt64) g
  · refine zi_ldc (pc := 4) hX dX6_weighed_4 tm_1276 ?_
    refine zi_iload1 (pc := 6) hX dX6_weighed_6 ?_
    refine zi_isub (pc := 7) hX dX6_weighed_7 ?_
    refine zi_i2l (pc := 8) hX dX6_weighed_8 ?_
    refine zi_goto (pc := 9) 14 hX dX6_weighed_9 (by decide) ?_
    exact zp_Tw_weighed_14 hX p1 p2 p3 (((1000000 : Int32) - p1).toInt64) g
theorem ct_Tw_weighed {w : et_W} (hw : et_Sane w) (p1 : Int32) (p2 : Int32) (p3 : Int32) (g : et_G) : et_C w yX6_weighed (Cond.code yX6_weighed cX6_weighed 11 (some .int)) rm_Tw_weighed et_eI [.ref (et_ad w 2), .int p1, .int p2, .int p3] g (fn_Tw_weighed p1 p2 p3 g) := et_mk hw (by decide) rfl rfl (fun X hX => zw_Tw_weighed hX p1 p2 p3 g)
def rm_Et_likely : Room := { frames := 7, cells := 2, slots := 12, locals := 102 }
def fn_Et_likely_17 (x1 : Int32) (x2 : Int32) : Nat → Int32 → Int32 → et_G → Option ((Nat ⊕ Int32) × et_G)
  | 0, _, _, _ => none
  | n + 1, x3, x4, g =>
    if (g.1 34 0) ≤ x4 then
      some (.inr (x3), g)
    else
      et_ck (et_ib x4 20) (
      if (g.1 37 x4.toNatClampNeg) = x2 then
        et_bd (fn_Le_isHeardBy x4 x1 g) (fun v6 g7 =>
        if v6 = 0 then
          et_b (x4 + (1 : Int32)) (fun v8 =>
          fn_Et_likely_17 x1 x2 n x3 v8 g7)
        else
          et_ck (et_ib x4 20) (
          et_ck (et_ib x4 20) (
          et_bd (fn_Tw_weighed x3 (g7.1 38 x4.toNatClampNeg) (g7.1 39 x4.toNatClampNeg) g7) (fun v9 g10 =>
          et_b (x4 + (1 : Int32)) (fun v11 =>
          fn_Et_likely_17 x1 x2 n v9 v11 g10)))))
      else
        et_b (x4 + (1 : Int32)) (fun v5 =>
        fn_Et_likely_17 x1 x2 n x3 v5 g))
def fn_Et_likely (p1 : Int32) (p2 : Int32) (g : et_G) : Option ((Nat ⊕ Int32) × et_G) :=
  et_bt (fn_Et_needPerson p1 g) (fun _ g2 =>
  et_bt (fn_Et_needThing p2 g2) (fun _ g4 =>
  fn_Et_likely_17 p1 p2 1000000 (500000 : Int32) (0 : Int32) g4))
theorem zp_Et_likely_17 {X : et_X} {w : et_W} (hX : et_Gd X w cX9_likely RX9 5 (some .int) [] rm_Et_likely) (x1 : Int32) (x2 : Int32) : ∀ (n : Nat) (x3 : Int32) (x4 : Int32) (g : et_G), et_Z X w 2 et_tI 17 [some (.ref (et_ad w 0)), some (.int x1), some (.int x2), some (.int x3), some (.int x4)] [] g (fn_Et_likely_17 x1 x2 n x3 x4 g) := by
  intro n
  induction n with
  | zero =>
    intro x3 x4 g a g2 h
    cases h
  | succ n ih =>
    intro x3 x4 g
    rw [fn_Et_likely_17]
    refine zi_iload4 (pc := 17) hX dX9_likely_17 ?_
    refine zi_aload0 (pc := 19) hX dX9_likely_19 ?_
    refine zi_getr (q := 34) (pc := 20) hX dX9_likely_20 fl_498 ly_0 rfl ?_
    refine zi_geti (pc := 23) hX dX9_likely_23 fl_360 ly_34 rfl ?_
    refine zi_icmp_ge (pc := 26) 95 hX dX9_likely_26 (by decide) (fun _ => ?_) (fun _ => ?_)
    · refine zi_iload3 (pc := 95) hX dX9_likely_95 ?_
      exact zi_ret (pc := 96) hX dX9_likely_96 rfl rfl rfl rfl
    · refine zi_aload0 (pc := 29) hX dX9_likely_29 ?_
      refine zi_getr (q := 34) (pc := 30) hX dX9_likely_30 fl_498 ly_0 rfl ?_
      refine zi_getr (q := 37) (pc := 33) hX dX9_likely_33 fl_370 ly_34 rfl ?_
      refine zi_iload4 (pc := 36) hX dX9_likely_36 ?_
      refine zi_iald (pc := 38) hX dX9_likely_38 ly_37 ?_
      refine zi_iload2 (pc := 39) hX dX9_likely_39 ?_
      refine zi_icmp_ne (pc := 40) 89 hX dX9_likely_40 (by decide) (fun _ => ?_) (fun _ => ?_)
      · refine zi_aload0 (pc := 43) hX dX9_likely_43 ?_
        refine zi_getr (q := 34) (pc := 44) hX dX9_likely_44 fl_498 ly_0 rfl ?_
        refine zi_iload4 (pc := 47) hX dX9_likely_47 ?_
        refine zi_iload1 (pc := 49) hX dX9_likely_49 ?_
        refine zi_aload0 (pc := 50) hX dX9_likely_50 ?_
        refine zi_getr (q := 2) (pc := 51) hX dX9_likely_51 fl_493 ly_0 rfl ?_
        refine zi_callI (zc_virt (pc := 54) hX dX9_likely_54 tm_1271 md_X1_isHeardBy mi_X1_isHeardBy ly_34 (ct_Le_isHeardBy hX.sane x4 x1 g) rfl rfl rfl) (fun v6 g7 => ?_)
        refine zi_if_eq (pc := 57) 89 hX dX9_likely_57 (by decide) (fun _ => ?_) (fun _ => ?_)
        · refine zi_iincb4 (pc := 89) hX dX9_likely_89 (kn_1 _) rfl rfl (fun v8 => ?_)
          refine zi_goto (pc := 92) 17 hX dX9_likely_92 (by decide) ?_
          exact ih x3 v8 g7
        · refine zi_aload0 (pc := 60) hX dX9_likely_60 ?_
          refine zi_getr (q := 2) (pc := 61) hX dX9_likely_61 fl_493 ly_0 rfl ?_
          refine zi_iload3 (pc := 64) hX dX9_likely_64 ?_
          refine zi_aload0 (pc := 65) hX dX9_likely_65 ?_
          refine zi_getr (q := 34) (pc := 66) hX dX9_likely_66 fl_498 ly_0 rfl ?_
          refine zi_getr (q := 38) (pc := 69) hX dX9_likely_69 fl_374 ly_34 rfl ?_
          refine zi_iload4 (pc := 72) hX dX9_likely_72 ?_
          refine zi_iald (pc := 74) hX dX9_likely_74 ly_38 ?_
          refine zi_aload0 (pc := 75) hX dX9_likely_75 ?_
          refine zi_getr (q := 34) (pc := 76) hX dX9_likely_76 fl_498 ly_0 rfl ?_
          refine zi_getr (q := 39) (pc := 79) hX dX9_likely_79 fl_377 ly_34 rfl ?_
          refine zi_iload4 (pc := 82) hX dX9_likely_82 ?_
          refine zi_zald (pc := 84) hX dX9_likely_84 ly_39 ?_
          refine zi_callI (zc_virt (pc := 85) hX dX9_likely_85 tm_1272 md_X6_weighed mi_X6_weighed ly_2 (ct_Tw_weighed hX.sane x3 (g7.1 38 x4.toNatClampNeg) (g7.1 39 x4.toNatClampNeg) g7) rfl rfl rfl) (fun v9 g10 => ?_)
          refine zi_istore3 (pc := 88) hX dX9_likely_88 rfl rfl ?_
          refine zi_iincb4 (pc := 89) hX dX9_likely_89 (kn_1 _) rfl rfl (fun v11 => ?_)
          refine zi_goto (pc := 92) 17 hX dX9_likely_92 (by decide) ?_
          exact ih v9 v11 g10
      · refine zi_iincb4 (pc := 89) hX dX9_likely_89 (kn_1 _) rfl rfl (fun v5 => ?_)
        refine zi_goto (pc := 92) 17 hX dX9_likely_92 (by decide) ?_
        exact ih x3 v5 g
theorem zw_Et_likely {X : et_X} {w : et_W} (hX : et_Gd X w cX9_likely RX9 5 (some .int) [] rm_Et_likely) (p1 : Int32) (p2 : Int32) (g : et_G) : et_Z X w 0 et_tI 0 [some (.ref (et_ad w 0)), some (.int p1), some (.int p2), none, none] [] g (fn_Et_likely p1 p2 g) := by
  unfold fn_Et_likely
  refine zi_aload0 (pc := 0) hX dX9_likely_0 ?_
  refine zi_iload1 (pc := 1) hX dX9_likely_1 ?_
  refine zi_callTU hX (fun _ => rfl) rfl rfl (zc_virt (pc := 2) hX dX9_likely_2 tm_1031 md_X9_needPerson mi_X9_needPerson ly_0 (ct_Et_needPerson hX.sane p1 g) rfl rfl rfl) (fun g2 => ?_)
  refine zi_aload0 (pc := 5) hX dX9_likely_5 ?_
  refine zi_iload2 (pc := 6) hX dX9_likely_6 ?_
  refine zi_callTU hX (fun _ => rfl) rfl rfl (zc_virt (pc := 7) hX dX9_likely_7 tm_1054 md_X9_needThing mi_X9_needThing ly_0 (ct_Et_needThing hX.sane p2 g2) rfl rfl rfl) (fun g4 => ?_)
  refine zi_ldcw (pc := 10) hX dX9_likely_10 tm_1270 ?_
  refine zi_istore3 (pc := 13) hX dX9_likely_13 rfl rfl ?_
  refine zi_iconst (pc := 14) hX dX9_likely_14 ki_0 ?_
  refine zi_istore4 (pc := 15) hX dX9_likely_15 rfl rfl ?_
  exact zp_Et_likely_17 hX p1 p2 1000000 (500000 : Int32) (0 : Int32) g4
theorem ct_Et_likely {w : et_W} (hw : et_Sane w) (p1 : Int32) (p2 : Int32) (g : et_G) : et_C w yX9_likely (Cond.code yX9_likely cX9_likely 5 (some .int)) rm_Et_likely et_tI [.ref (et_ad w 0), .int p1, .int p2] g (fn_Et_likely p1 p2 g) := et_mk hw (by decide) rfl rfl (fun X hX => zw_Et_likely hX p1 p2 g)
def rm_Gr_forget : Room := { frames := 0, cells := 0, slots := 0, locals := 0 }
def fn_Gr_forget (g : et_G) : Option (Unit × et_G) :=
  et_b (et_si g 48 15 (0 : Int32)) (fun g1 =>
  some ((), g1))
theorem zw_Gr_forget {X : et_X} {w : et_W} (hX : et_Gd X w cX0_forget RX0 1 (none) [] rm_Gr_forget) (g : et_G) : et_Z X w 0 et_eU 0 [some (.ref (et_ad w 48))] [] g (fn_Gr_forget g) := by
  unfold fn_Gr_forget
  refine zi_aload0 (pc := 0) hX dX0_forget_0 ?_
  refine zi_iconst (pc := 1) hX dX0_forget_1 ki_0 ?_
  refine zi_puti (pc := 2) hX dX0_forget_2 fl_433 ly_48 rfl et_z0 et_f0 (zi_bg (fun g1 => ?_))
  exact zi_vret (pc := 5) hX dX0_forget_5 rfl rfl rfl
theorem ct_Gr_forget {w : et_W} (hw : et_Sane w) (g : et_G) : et_C w yX0_forget (Cond.code yX0_forget cX0_forget 1 (none)) rm_Gr_forget et_eU [.ref (et_ad w 48)] g (fn_Gr_forget g) := et_mk hw (by decide) rfl rfl (fun X hX => zw_Gr_forget hX g)
def rm_Gr_standing : Room := { frames := 3, cells := 0, slots := 0, locals := 73 }
def fn_Gr_standing_67 (r5 : Int32 → Int32 → et_G → Option (Int32 × et_G)) (x1 : Int32) (x2 : Int32) (x3 : Int32) (x4 : Int32) (s0 : Int32) (g : et_G) : Option (Int32 × et_G) :=
  et_bd (fn_Gr_standingHows x4 x2 s0 g) (fun v3 g4 =>
  et_ck (et_ib x4 20) (
  et_bd (fn_Et_hasBit v3 (g4.1 38 x4.toNatClampNeg) g4) (fun v5 g6 =>
  if v5 = 0 then
    et_b (x4 + (1 : Int32)) (fun v7 =>
    r5 x3 v7 g6)
  else
    et_b (x3 ||| ((1 : Int32) <<< (x4 &&& 31))) (fun v8 =>
    et_b (x4 + (1 : Int32)) (fun v9 =>
    r5 v8 v9 g6)))))
def fn_Gr_standing_5 (x1 : Int32) (x2 : Int32) : Nat → Int32 → Int32 → et_G → Option (Int32 × et_G)
  | 0, _, _, _ => none
  | n + 1, x3, x4, g =>
    if (g.1 34 0) ≤ x4 then
      some (x3, g)
    else
      et_bd (fn_Et_hasBit x1 x4 g) (fun v1 g2 =>
      if v1 = 0 then
        et_b (x4 + (1 : Int32)) (fun v12 =>
        fn_Gr_standing_5 x1 x2 n x3 v12 g2)
      else
        et_ck (et_ib x4 20) (
        if (g2.1 38 x4.toNatClampNeg) = (3 : Int32) then
          et_ck (et_ib x4 20) (
          et_ck (et_ib x4 20) (
          et_bd (fn_Gr_widest ((g2.1 49 x4.toNatClampNeg) &&& x2) (g2.1 50 x4.toNatClampNeg) g2) (fun v10 g11 =>
          fn_Gr_standing_67 (fun z3 z4 g => fn_Gr_standing_5 x1 x2 n z3 z4 g) x1 x2 x3 x4 v10 g11)))
        else
          fn_Gr_standing_67 (fun z3 z4 g => fn_Gr_standing_5 x1 x2 n z3 z4 g) x1 x2 x3 x4 (0 : Int32) g2))
def fn_Gr_standing (p1 : Int32) (p2 : Int32) (g : et_G) : Option (Int32 × et_G) :=
  fn_Gr_standing_5 p1 p2 1000000 (0 : Int32) (0 : Int32) g
theorem zp_Gr_standing_67 {X : et_X} {w : et_W} (hX : et_Gd X w cX0_standing RX0 6 (some .int) [] rm_Gr_standing) (r5 : Int32 → Int32 → et_G → Option (Int32 × et_G)) (x1 : Int32) (x2 : Int32) (x3 : Int32) (x4 : Int32) (s0 : Int32) (hr5 : ∀ (y3 : Int32) (y4 : Int32) (g : et_G), et_Z X w 0 et_eI 5 [some (.ref (et_ad w 48)), some (.int x1), some (.int x2), some (.int y3), some (.int y4), none] [] g (r5 y3 y4 g)) (g : et_G) : et_Z X w 0 et_eI 67 [some (.ref (et_ad w 48)), some (.int x1), some (.int x2), some (.int x3), some (.int x4), none] [.int s0] g (fn_Gr_standing_67 r5 x1 x2 x3 x4 s0 g) := by
  unfold fn_Gr_standing_67
  refine zi_istore5 (pc := 67) hX dX0_standing_67 rfl rfl ?_
  refine zi_aload0 (pc := 69) hX dX0_standing_69 ?_
  refine zi_iload4 (pc := 70) hX dX0_standing_70 ?_
  refine zi_iload2 (pc := 72) hX dX0_standing_72 ?_
  refine zi_iload5 (pc := 73) hX dX0_standing_73 ?_
  refine zi_callI (zc_virt (pc := 75) hX dX0_standing_75 tm_635 md_X0_standingHows mi_X0_standingHows ly_48 (ct_Gr_standingHows hX.sane x4 x2 s0 g) rfl rfl rfl) (fun v3 g4 => ?_)
  refine zi_aload0 (pc := 78) hX dX0_standing_78 ?_
  refine zi_getr (q := 34) (pc := 79) hX dX0_standing_79 fl_416 ly_48 rfl ?_
  refine zi_getr (q := 38) (pc := 82) hX dX0_standing_82 fl_373 ly_34 rfl ?_
  refine zi_iload4 (pc := 85) hX dX0_standing_85 ?_
  refine zi_iald (pc := 87) hX dX0_standing_87 ly_38 ?_
  refine zi_callI (zc_nest (pc := 88) hX dX0_standing_88 nl_634 md_X9_hasBit st_X9_hasBit (ct_Et_hasBit hX.sane v3 (g4.1 38 x4.toNatClampNeg) g4) rfl rfl rfl) (fun v5 g6 => ?_)
  refine zi_if_eq (pc := 91) 101 hX dX0_standing_91 (by decide) (fun _ => ?_) (fun _ => ?_)
  · refine zi_iincb4 (pc := 101) hX dX0_standing_101 (kn_1 _) rfl rfl (fun v7 => ?_)
    refine zi_goto (pc := 104) 5 hX dX0_standing_104 (by decide) ?_
    refine zi_drop (le_s (le_s (le_s (le_s (le_s (le_n le_nil)))))) ?_; exact hr5 x3 v7 g6
  · refine zi_iload3 (pc := 94) hX dX0_standing_94 ?_
    refine zi_iconst (pc := 95) hX dX0_standing_95 ki_1 ?_
    refine zi_iload4 (pc := 96) hX dX0_standing_96 ?_
    refine zi_ishl (pc := 98) hX dX0_standing_98 ?_
    refine zi_ior (pc := 99) hX dX0_standing_99 ?_
    refine zi_bi (fun v8 => ?_)
    refine zi_istore3 (pc := 100) hX dX0_standing_100 rfl rfl ?_
    refine zi_iincb4 (pc := 101) hX dX0_standing_101 (kn_1 _) rfl rfl (fun v9 => ?_)
    refine zi_goto (pc := 104) 5 hX dX0_standing_104 (by decide) ?_
    refine zi_drop (le_s (le_s (le_s (le_s (le_s (le_n le_nil)))))) ?_; exact hr5 v8 v9 g6
theorem zp_Gr_standing_5 {X : et_X} {w : et_W} (hX : et_Gd X w cX0_standing RX0 6 (some .int) [] rm_Gr_standing) (x1 : Int32) (x2 : Int32) : ∀ (n : Nat) (x3 : Int32) (x4 : Int32) (g : et_G), et_Z X w 0 et_eI 5 [some (.ref (et_ad w 48)), some (.int x1), some (.int x2), some (.int x3), some (.int x4), none] [] g (fn_Gr_standing_5 x1 x2 n x3 x4 g) := by
  intro n
  induction n with
  | zero =>
    intro x3 x4 g a g2 h
    cases h
  | succ n ih =>
    intro x3 x4 g
    rw [fn_Gr_standing_5]
    refine zi_iload4 (pc := 5) hX dX0_standing_5 ?_
    refine zi_aload0 (pc := 7) hX dX0_standing_7 ?_
    refine zi_getr (q := 34) (pc := 8) hX dX0_standing_8 fl_416 ly_48 rfl ?_
    refine zi_geti (pc := 11) hX dX0_standing_11 fl_361 ly_34 rfl ?_
    refine zi_icmp_ge (pc := 14) 107 hX dX0_standing_14 (by decide) (fun _ => ?_) (fun _ => ?_)
    · refine zi_iload3 (pc := 107) hX dX0_standing_107 ?_
      exact zi_ret (pc := 108) hX dX0_standing_108 rfl rfl rfl rfl
    · refine zi_iload1 (pc := 17) hX dX0_standing_17 ?_
      refine zi_iload4 (pc := 18) hX dX0_standing_18 ?_
      refine zi_callI (zc_nest (pc := 20) hX dX0_standing_20 nl_634 md_X9_hasBit st_X9_hasBit (ct_Et_hasBit hX.sane x1 x4 g) rfl rfl rfl) (fun v1 g2 => ?_)
      refine zi_if_ne (pc := 23) 29 hX dX0_standing_23 (by decide) (fun _ => ?_) (fun _ => ?_)
      · refine zi_goto (pc := 26) 101 hX dX0_standing_26 (by decide) ?_
        refine zi_iincb4 (pc := 101) hX dX0_standing_101 (kn_1 _) rfl rfl (fun v12 => ?_)
        refine zi_goto (pc := 104) 5 hX dX0_standing_104 (by decide) ?_
        exact ih x3 v12 g2
      · refine zi_aload0 (pc := 29) hX dX0_standing_29 ?_
        refine zi_getr (q := 34) (pc := 30) hX dX0_standing_30 fl_416 ly_48 rfl ?_
        refine zi_getr (q := 38) (pc := 33) hX dX0_standing_33 fl_373 ly_34 rfl ?_
        refine zi_iload4 (pc := 36) hX dX0_standing_36 ?_
        refine zi_iald (pc := 38) hX dX0_standing_38 ly_38 ?_
        refine zi_iconst (pc := 39) hX dX0_standing_39 ki_3 ?_
        refine zi_icmp_ne (pc := 40) 66 hX dX0_standing_40 (by decide) (fun _ => ?_) (fun _ => ?_)
        · refine zi_aload0 (pc := 43) hX dX0_standing_43 ?_
          refine zi_aload0 (pc := 44) hX dX0_standing_44 ?_
          refine zi_getr (q := 49) (pc := 45) hX dX0_standing_45 fl_417 ly_48 rfl ?_
          refine zi_iload4 (pc := 48) hX dX0_standing_48 ?_
          refine zi_iald (pc := 50) hX dX0_standing_50 ly_49 ?_
          refine zi_iload2 (pc := 51) hX dX0_standing_51 ?_
          refine zi_iand (pc := 52) hX dX0_standing_52 ?_
          refine zi_aload0 (pc := 53) hX dX0_standing_53 ?_
          refine zi_getr (q := 50) (pc := 54) hX dX0_standing_54 fl_418 ly_48 rfl ?_
          refine zi_iload4 (pc := 57) hX dX0_standing_57 ?_
          refine zi_iald (pc := 59) hX dX0_standing_59 ly_50 ?_
          refine zi_callI (zc_virt (pc := 60) hX dX0_standing_60 tm_666 md_X0_widest mi_X0_widest ly_48 (ct_Gr_widest hX.sane ((g2.1 49 x4.toNatClampNeg) &&& x2) (g2.1 50 x4.toNatClampNeg) g2) rfl rfl rfl) (fun v10 g11 => ?_)
          refine zi_goto (pc := 63) 67 hX dX0_standing_63 (by decide) ?_
          exact zp_Gr_standing_67 hX (fun z3 z4 g => fn_Gr_standing_5 x1 x2 n z3 z4 g) x1 x2 x3 x4 v10 (fun z3 z4 g => ih z3 z4 g) g11
        · refine zi_iconst (pc := 66) hX dX0_standing_66 ki_0 ?_
          exact zp_Gr_standing_67 hX (fun z3 z4 g => fn_Gr_standing_5 x1 x2 n z3 z4 g) x1 x2 x3 x4 (0 : Int32) (fun z3 z4 g => ih z3 z4 g) g2
theorem zw_Gr_standing {X : et_X} {w : et_W} (hX : et_Gd X w cX0_standing RX0 6 (some .int) [] rm_Gr_standing) (p1 : Int32) (p2 : Int32) (g : et_G) : et_Z X w 0 et_eI 0 [some (.ref (et_ad w 48)), some (.int p1), some (.int p2), none, none, none] [] g (fn_Gr_standing p1 p2 g) := by
  unfold fn_Gr_standing
  refine zi_iconst (pc := 0) hX dX0_standing_0 ki_0 ?_
  refine zi_istore3 (pc := 1) hX dX0_standing_1 rfl rfl ?_
  refine zi_iconst (pc := 2) hX dX0_standing_2 ki_0 ?_
  refine zi_istore4 (pc := 3) hX dX0_standing_3 rfl rfl ?_
  exact zp_Gr_standing_5 hX p1 p2 1000000 (0 : Int32) (0 : Int32) g
theorem ct_Gr_standing {w : et_W} (hw : et_Sane w) (p1 : Int32) (p2 : Int32) (g : et_G) : et_C w yX0_standing (Cond.code yX0_standing cX0_standing 6 (some .int)) rm_Gr_standing et_eI [.ref (et_ad w 48), .int p1, .int p2] g (fn_Gr_standing p1 p2 g) := et_mk hw (by decide) rfl rfl (fun X hX => zw_Gr_standing hX p1 p2 g)
def rm_Me_fewest : Room := { frames := 5, cells := 0, slots := 0, locals := 123 }
def fn_Me_fewest_142 (r77 : Int32 → et_G → Option (Int32 × et_G)) (r90 : Int32 → Int32 → et_G → Option (Int32 × et_G)) (x1 : Int32) (x3 : Int32) (x4 : Int32) (x5 : Int32) (x6 : Int32) (x7 : Int32) (x8 : Int32) (g : et_G) : Option (Int32 × et_G) :=
  et_b ((x7 - x4) &&& x4) (fun v18 =>
  et_b (x8 + (1 : Int32)) (fun v19 =>
  r90 v18 v19 g))
def fn_Me_fewest_90 (r77 : Int32 → et_G → Option (Int32 × et_G)) (x1 : Int32) (x3 : Int32) (x4 : Int32) (x5 : Int32) (x6 : Int32) : Nat → Int32 → Int32 → et_G → Option (Int32 × et_G)
  | 0, _, _, _ => none
  | n + 1, x7, x8, g =>
    if ((1 : Int32) <<< (x5 &&& 31)) ≤ x8 then
      et_b (x6 + (1 : Int32)) (fun v14 =>
      r77 v14 g)
    else
      et_b (x3 ||| x7) (fun v15 =>
      et_bd (fn_Ji_bitCount x7 g) (fun v16 g17 =>
      if v16 = x6 then
        et_bd (fn_Gr_rise v15 x1 g17) (fun _ g21 =>
        if ((g21.1 48 13) ||| v15) = x1 then
          some (v15, g21)
        else
          fn_Me_fewest_142 r77 (fun z7 z8 g => fn_Me_fewest_90 r77 x1 x3 x4 x5 x6 n z7 z8 g) x1 x3 x4 x5 x6 x7 x8 g21)
      else
        fn_Me_fewest_142 r77 (fun z7 z8 g => fn_Me_fewest_90 r77 x1 x3 x4 x5 x6 n z7 z8 g) x1 x3 x4 x5 x6 x7 x8 g17))
def fn_Me_fewest_77 (x1 : Int32) (x3 : Int32) (x4 : Int32) (x5 : Int32) : Nat → Int32 → et_G → Option (Int32 × et_G)
  | 0, _, _ => none
  | n + 1, x6, g =>
    if x5 ≤ x6 then
      some (x3 ||| x4, g)
    else
      fn_Me_fewest_90 (fun z6 g => fn_Me_fewest_77 x1 x3 x4 x5 n z6 g) x1 x3 x4 x5 x6 1000000 (0 : Int32) (0 : Int32) g
def fn_Me_fewest (g : et_G) : Option (Int32 × et_G) :=
  et_bd (fn_Le_every g) (fun v1 g2 =>
  et_bd (fn_Gr_rise v1 v1 g2) (fun _ g4 =>
  et_b (g4.1 48 13) (fun v5 =>
  et_bd (fn_Gr_standing v1 v5 g4) (fun v6 g7 =>
  et_b (v1 &&& (v6 ^^^ (-1 : Int32))) (fun v8 =>
  et_bd (fn_Gr_rise v8 v1 g7) (fun _ g10 =>
  et_b (((v1 &&& (v8 ^^^ (-1 : Int32))) &&& v5) &&& ((g10.1 48 14) ^^^ (-1 : Int32))) (fun v11 =>
  et_bd (fn_Ji_bitCount v11 g10) (fun v12 g13 =>
  fn_Me_fewest_77 v1 v8 v11 v12 1000000 (0 : Int32) g13))))))))
theorem zp_Me_fewest_142 {X : et_X} {w : et_W} (hX : et_Gd X w cX2_fewest RX2 10 (some .int) [] rm_Me_fewest) (r77 : Int32 → et_G → Option (Int32 × et_G)) (r90 : Int32 → Int32 → et_G → Option (Int32 × et_G)) (x1 : Int32) (x3 : Int32) (x4 : Int32) (x5 : Int32) (x6 : Int32) (x7 : Int32) (x8 : Int32) (hr77 : ∀ (y6 : Int32) (g : et_G), et_Z X w 0 et_eI 77 [some (.ref (et_ad w 59)), some (.int x1), none, some (.int x3), some (.int x4), some (.int x5), some (.int y6), none, none, none] [] g (r77 y6 g)) (hr90 : ∀ (y7 : Int32) (y8 : Int32) (g : et_G), et_Z X w 0 et_eI 90 [some (.ref (et_ad w 59)), some (.int x1), none, some (.int x3), some (.int x4), some (.int x5), some (.int x6), some (.int y7), some (.int y8), none] [] g (r90 y7 y8 g)) (g : et_G) : et_Z X w 0 et_eI 142 [some (.ref (et_ad w 59)), some (.int x1), none, some (.int x3), some (.int x4), some (.int x5), some (.int x6), some (.int x7), some (.int x8), none] [] g (fn_Me_fewest_142 r77 r90 x1 x3 x4 x5 x6 x7 x8 g) := by
  unfold fn_Me_fewest_142
  refine zi_iload7 (pc := 142) hX dX2_fewest_142 ?_
  refine zi_iload4 (pc := 144) hX dX2_fewest_144 ?_
  refine zi_isub (pc := 146) hX dX2_fewest_146 ?_
  refine zi_iload4 (pc := 147) hX dX2_fewest_147 ?_
  refine zi_iand (pc := 149) hX dX2_fewest_149 ?_
  refine zi_bi (fun v18 => ?_)
  refine zi_istore7 (pc := 150) hX dX2_fewest_150 rfl rfl ?_
  refine zi_iincb8 (pc := 152) hX dX2_fewest_152 (kn_1 _) rfl rfl (fun v19 => ?_)
  refine zi_goto (pc := 155) 90 hX dX2_fewest_155 (by decide) ?_
  exact hr90 v18 v19 g
theorem zp_Me_fewest_90 {X : et_X} {w : et_W} (hX : et_Gd X w cX2_fewest RX2 10 (some .int) [] rm_Me_fewest) (r77 : Int32 → et_G → Option (Int32 × et_G)) (x1 : Int32) (x3 : Int32) (x4 : Int32) (x5 : Int32) (x6 : Int32) (hr77 : ∀ (y6 : Int32) (g : et_G), et_Z X w 0 et_eI 77 [some (.ref (et_ad w 59)), some (.int x1), none, some (.int x3), some (.int x4), some (.int x5), some (.int y6), none, none, none] [] g (r77 y6 g)) : ∀ (n : Nat) (x7 : Int32) (x8 : Int32) (g : et_G), et_Z X w 0 et_eI 90 [some (.ref (et_ad w 59)), some (.int x1), none, some (.int x3), some (.int x4), some (.int x5), some (.int x6), some (.int x7), some (.int x8), none] [] g (fn_Me_fewest_90 r77 x1 x3 x4 x5 x6 n x7 x8 g) := by
  intro n
  induction n with
  | zero =>
    intro x7 x8 g a g2 h
    cases h
  | succ n ih =>
    intro x7 x8 g
    rw [fn_Me_fewest_90]
    refine zi_iload8 (pc := 90) hX dX2_fewest_90 ?_
    refine zi_iconst (pc := 92) hX dX2_fewest_92 ki_1 ?_
    refine zi_iload5 (pc := 93) hX dX2_fewest_93 ?_
    refine zi_ishl (pc := 95) hX dX2_fewest_95 ?_
    refine zi_icmp_ge (pc := 96) 158 hX dX2_fewest_96 (by decide) (fun _ => ?_) (fun _ => ?_)
    · refine zi_iincb6 (pc := 158) hX dX2_fewest_158 (kn_1 _) rfl rfl (fun v14 => ?_)
      refine zi_goto (pc := 161) 77 hX dX2_fewest_161 (by decide) ?_
      refine zi_drop (le_s (le_s (le_s (le_s (le_s (le_s (le_s (le_n (le_n (le_s le_nil)))))))))) ?_; exact hr77 v14 g
    · refine zi_iload3 (pc := 99) hX dX2_fewest_99 ?_
      refine zi_iload7 (pc := 100) hX dX2_fewest_100 ?_
      refine zi_ior (pc := 102) hX dX2_fewest_102 ?_
      refine zi_bi (fun v15 => ?_)
      refine zi_istore9 (pc := 103) hX dX2_fewest_103 rfl rfl ?_
      refine zi_iload7 (pc := 105) hX dX2_fewest_105 ?_
      refine zi_callI (zc_stat (pc := 107) hX dX2_fewest_107 tm_670 md_J6_bitCount_0f7a4 st_J6_bitCount_0f7a4 (ct_Ji_bitCount hX.sane x7 g) rfl rfl rfl) (fun v16 g17 => ?_)
      refine zi_iload6 (pc := 110) hX dX2_fewest_110 ?_
      refine zi_icmp_ne (pc := 112) 142 hX dX2_fewest_112 (by decide) (fun _ => ?_) (fun _ => ?_)
      · refine zi_aload0 (pc := 115) hX dX2_fewest_115 ?_
        refine zi_getr (q := 48) (pc := 116) hX dX2_fewest_116 fl_476 ly_59 rfl ?_
        refine zi_iload9 (pc := 119) hX dX2_fewest_119 ?_
        refine zi_iload1 (pc := 121) hX dX2_fewest_121 ?_
        refine zi_callU (zc_virt (pc := 122) hX dX2_fewest_122 tm_626 md_X0_rise mi_X0_rise ly_48 (ct_Gr_rise hX.sane v15 x1 g17) rfl rfl rfl) (fun g21 => ?_)
        refine zi_aload0 (pc := 125) hX dX2_fewest_125 ?_
        refine zi_getr (q := 48) (pc := 126) hX dX2_fewest_126 fl_476 ly_59 rfl ?_
        refine zi_geti (pc := 129) hX dX2_fewest_129 fl_429 ly_48 rfl ?_
        refine zi_iload9 (pc := 132) hX dX2_fewest_132 ?_
        refine zi_ior (pc := 134) hX dX2_fewest_134 ?_
        refine zi_iload1 (pc := 135) hX dX2_fewest_135 ?_
        refine zi_icmp_ne (pc := 136) 142 hX dX2_fewest_136 (by decide) (fun _ => ?_) (fun _ => ?_)
        · refine zi_iload9 (pc := 139) hX dX2_fewest_139 ?_
          exact zi_ret (pc := 141) hX dX2_fewest_141 rfl rfl rfl rfl
        · refine zi_drop (le_s (le_s (le_s (le_s (le_s (le_s (le_s (le_s (le_s (le_n le_nil)))))))))) ?_; exact zp_Me_fewest_142 hX r77 (fun z7 z8 g => fn_Me_fewest_90 r77 x1 x3 x4 x5 x6 n z7 z8 g) x1 x3 x4 x5 x6 x7 x8 hr77 (fun z7 z8 g => ih z7 z8 g) g21
      · refine zi_drop (le_s (le_s (le_s (le_s (le_s (le_s (le_s (le_s (le_s (le_n le_nil)))))))))) ?_; exact zp_Me_fewest_142 hX r77 (fun z7 z8 g => fn_Me_fewest_90 r77 x1 x3 x4 x5 x6 n z7 z8 g) x1 x3 x4 x5 x6 x7 x8 hr77 (fun z7 z8 g => ih z7 z8 g) g17
theorem zp_Me_fewest_77 {X : et_X} {w : et_W} (hX : et_Gd X w cX2_fewest RX2 10 (some .int) [] rm_Me_fewest) (x1 : Int32) (x3 : Int32) (x4 : Int32) (x5 : Int32) : ∀ (n : Nat) (x6 : Int32) (g : et_G), et_Z X w 0 et_eI 77 [some (.ref (et_ad w 59)), some (.int x1), none, some (.int x3), some (.int x4), some (.int x5), some (.int x6), none, none, none] [] g (fn_Me_fewest_77 x1 x3 x4 x5 n x6 g) := by
  intro n
  induction n with
  | zero =>
    intro x6 g a g2 h
    cases h
  | succ n ih =>
    intro x6 g
    rw [fn_Me_fewest_77]
    refine zi_iload6 (pc := 77) hX dX2_fewest_77 ?_
    refine zi_iload5 (pc := 79) hX dX2_fewest_79 ?_
    refine zi_icmp_ge (pc := 81) 164 hX dX2_fewest_81 (by decide) (fun _ => ?_) (fun _ => ?_)
    · refine zi_iload3 (pc := 164) hX dX2_fewest_164 ?_
      refine zi_iload4 (pc := 165) hX dX2_fewest_165 ?_
      refine zi_ior (pc := 167) hX dX2_fewest_167 ?_
      exact zi_ret (pc := 168) hX dX2_fewest_168 rfl rfl rfl rfl
    · refine zi_iconst (pc := 84) hX dX2_fewest_84 ki_0 ?_
      refine zi_istore7 (pc := 85) hX dX2_fewest_85 rfl rfl ?_
      refine zi_iconst (pc := 87) hX dX2_fewest_87 ki_0 ?_
      refine zi_istore8 (pc := 88) hX dX2_fewest_88 rfl rfl ?_
      exact zp_Me_fewest_90 hX (fun z6 g => fn_Me_fewest_77 x1 x3 x4 x5 n z6 g) x1 x3 x4 x5 x6 (fun z6 g => ih z6 g) 1000000 (0 : Int32) (0 : Int32) g
theorem zw_Me_fewest {X : et_X} {w : et_W} (hX : et_Gd X w cX2_fewest RX2 10 (some .int) [] rm_Me_fewest) (g : et_G) : et_Z X w 0 et_eI 0 [some (.ref (et_ad w 59)), none, none, none, none, none, none, none, none, none] [] g (fn_Me_fewest g) := by
  unfold fn_Me_fewest
  refine zi_aload0 (pc := 0) hX dX2_fewest_0 ?_
  refine zi_getr (q := 34) (pc := 1) hX dX2_fewest_1 fl_477 ly_59 rfl ?_
  refine zi_callI (zc_virt (pc := 4) hX dX2_fewest_4 tm_622 md_X1_every mi_X1_every ly_34 (ct_Le_every hX.sane g) rfl rfl rfl) (fun v1 g2 => ?_)
  refine zi_istore1 (pc := 7) hX dX2_fewest_7 rfl rfl ?_
  refine zi_aload0 (pc := 8) hX dX2_fewest_8 ?_
  refine zi_getr (q := 48) (pc := 9) hX dX2_fewest_9 fl_476 ly_59 rfl ?_
  refine zi_iload1 (pc := 12) hX dX2_fewest_12 ?_
  refine zi_iload1 (pc := 13) hX dX2_fewest_13 ?_
  refine zi_callU (zc_virt (pc := 14) hX dX2_fewest_14 tm_626 md_X0_rise mi_X0_rise ly_48 (ct_Gr_rise hX.sane v1 v1 g2) rfl rfl rfl) (fun g4 => ?_)
  refine zi_aload0 (pc := 17) hX dX2_fewest_17 ?_
  refine zi_getr (q := 48) (pc := 18) hX dX2_fewest_18 fl_476 ly_59 rfl ?_
  refine zi_geti (pc := 21) hX dX2_fewest_21 fl_429 ly_48 rfl ?_
  refine zi_bi (fun v5 => ?_)
  refine zi_istore2 (pc := 24) hX dX2_fewest_24 rfl rfl ?_
  refine zi_iload1 (pc := 25) hX dX2_fewest_25 ?_
  refine zi_aload0 (pc := 26) hX dX2_fewest_26 ?_
  refine zi_getr (q := 48) (pc := 27) hX dX2_fewest_27 fl_476 ly_59 rfl ?_
  refine zi_iload1 (pc := 30) hX dX2_fewest_30 ?_
  refine zi_iload2 (pc := 31) hX dX2_fewest_31 ?_
  refine zi_callI (zc_virt (pc := 32) hX dX2_fewest_32 tm_662 md_X0_standing mi_X0_standing ly_48 (ct_Gr_standing hX.sane v1 v5 g4) rfl rfl rfl) (fun v6 g7 => ?_)
  refine zi_iconst (pc := 35) hX dX2_fewest_35 ki_m1 ?_
  refine zi_ixor (pc := 36) hX dX2_fewest_36 ?_
  refine zi_iand (pc := 37) hX dX2_fewest_37 ?_
  refine zi_bi (fun v8 => ?_)
  refine zi_istore3 (pc := 38) hX dX2_fewest_38 rfl rfl ?_
  refine zi_aload0 (pc := 39) hX dX2_fewest_39 ?_
  refine zi_getr (q := 48) (pc := 40) hX dX2_fewest_40 fl_476 ly_59 rfl ?_
  refine zi_iload3 (pc := 43) hX dX2_fewest_43 ?_
  refine zi_iload1 (pc := 44) hX dX2_fewest_44 ?_
  refine zi_callU (zc_virt (pc := 45) hX dX2_fewest_45 tm_626 md_X0_rise mi_X0_rise ly_48 (ct_Gr_rise hX.sane v8 v1 g7) rfl rfl rfl) (fun g10 => ?_)
  refine zi_iload1 (pc := 48) hX dX2_fewest_48 ?_
  refine zi_iload3 (pc := 49) hX dX2_fewest_49 ?_
  refine zi_iconst (pc := 50) hX dX2_fewest_50 ki_m1 ?_
  refine zi_ixor (pc := 51) hX dX2_fewest_51 ?_
  refine zi_iand (pc := 52) hX dX2_fewest_52 ?_
  refine zi_iload2 (pc := 53) hX dX2_fewest_53 ?_
  refine zi_iand (pc := 54) hX dX2_fewest_54 ?_
  refine zi_aload0 (pc := 55) hX dX2_fewest_55 ?_
  refine zi_getr (q := 48) (pc := 56) hX dX2_fewest_56 fl_476 ly_59 rfl ?_
  refine zi_geti (pc := 59) hX dX2_fewest_59 fl_431 ly_48 rfl ?_
  refine zi_iconst (pc := 62) hX dX2_fewest_62 ki_m1 ?_
  refine zi_ixor (pc := 63) hX dX2_fewest_63 ?_
  refine zi_iand (pc := 64) hX dX2_fewest_64 ?_
  refine zi_bi (fun v11 => ?_)
  refine zi_istore4 (pc := 65) hX dX2_fewest_65 rfl rfl ?_
  refine zi_iload4 (pc := 67) hX dX2_fewest_67 ?_
  refine zi_callI (zc_stat (pc := 69) hX dX2_fewest_69 tm_670 md_J6_bitCount_0f7a4 st_J6_bitCount_0f7a4 (ct_Ji_bitCount hX.sane v11 g10) rfl rfl rfl) (fun v12 g13 => ?_)
  refine zi_istore5 (pc := 72) hX dX2_fewest_72 rfl rfl ?_
  refine zi_iconst (pc := 74) hX dX2_fewest_74 ki_0 ?_
  refine zi_istore6 (pc := 75) hX dX2_fewest_75 rfl rfl ?_
  refine zi_drop (le_s (le_s (le_n (le_s (le_s (le_s (le_s (le_s (le_s (le_s le_nil)))))))))) ?_; exact zp_Me_fewest_77 hX v1 v8 v11 v12 1000000 (0 : Int32) g13
theorem ct_Me_fewest {w : et_W} (hw : et_Sane w) (g : et_G) : et_C w yX2_fewest (Cond.code yX2_fewest cX2_fewest 10 (some .int)) rm_Me_fewest et_eI [.ref (et_ad w 59)] g (fn_Me_fewest g) := et_mk hw (by decide) rfl rfl (fun X hX => zw_Me_fewest hX g)
def rm_Me_keepFewest : Room := { frames := 6, cells := 0, slots := 0, locals := 152 }
def fn_Me_keepFewest_125 (x1 : Int32) (g : et_G) : Option (Int32 × et_G) :=
  et_bd (fn_Ji_bitCount x1 g) (fun v12 g13 =>
  some (v12, g13))
def fn_Me_keepFewest_52 (x1 : Int32) : Nat → Int32 → et_G → Option (Int32 × et_G)
  | 0, _, _ => none
  | n + 1, x2, g =>
    if (g.1 59 3) ≤ x2 then
      fn_Me_keepFewest_125 x1 g
    else
      et_bd (fn_Et_hasBit x1 x2 g) (fun v14 g15 =>
      if v14 = 0 then
        et_ck (et_ib x2 20) (
        et_ck (et_ib x2 12) (et_b (et_si g15 60 x2.toNatClampNeg (g15.1 38 x2.toNatClampNeg)) (fun g22 =>
        et_b (x2 + (1 : Int32)) (fun v23 =>
        fn_Me_keepFewest_52 x1 n v23 g22))))
      else
        et_bd (fn_Et_hasBit (g15.1 48 13) x2 g15) (fun v16 g17 =>
        if v16 = 0 then
          et_ck (et_ib x2 12) (et_b (et_si g17 60 x2.toNatClampNeg (4 : Int32)) (fun g18 =>
          et_b (x2 + (1 : Int32)) (fun v19 =>
          fn_Me_keepFewest_52 x1 n v19 g18)))
        else
          et_ck (et_ib x2 20) (
          et_ck (et_ib x2 12) (et_b (et_si g17 60 x2.toNatClampNeg (g17.1 56 x2.toNatClampNeg)) (fun g20 =>
          et_b (x2 + (1 : Int32)) (fun v21 =>
          fn_Me_keepFewest_52 x1 n v21 g20))))))
def fn_Me_keepFewest (g : et_G) : Option (Int32 × et_G) :=
  et_bd (fn_Gr_lay g) (fun _ g2 =>
  et_bd (fn_Gr_forget g2) (fun _ g4 =>
  et_bd (fn_Me_fewest g4) (fun v5 g6 =>
  et_bd (fn_Le_every g6) (fun v7 g8 =>
  et_bd (fn_Gr_rise v5 v7 g8) (fun _ g10 =>
  et_b (et_si g10 59 3 (if (12 : Int32) < (g10.1 34 0) then (12 : Int32) else (g10.1 34 0))) (fun g11 =>
  fn_Me_keepFewest_52 v5 1000000 (0 : Int32) g11))))))
theorem zp_Me_keepFewest_125 {X : et_X} {w : et_W} (hX : et_Gd X w cX2_keepFewest RX2 3 (some .int) [] rm_Me_keepFewest) (x1 : Int32) (g : et_G) : et_Z X w 0 et_eI 125 [none, some (.int x1), none] [] g (fn_Me_keepFewest_125 x1 g) := by
  unfold fn_Me_keepFewest_125
  refine zi_iload1 (pc := 125) hX dX2_keepFewest_125 ?_
  refine zi_callI (zc_stat (pc := 126) hX dX2_keepFewest_126 tm_670 md_J6_bitCount_0f7a4 st_J6_bitCount_0f7a4 (ct_Ji_bitCount hX.sane x1 g) rfl rfl rfl) (fun v12 g13 => ?_)
  exact zi_ret (pc := 129) hX dX2_keepFewest_129 rfl rfl rfl rfl
theorem zp_Me_keepFewest_52 {X : et_X} {w : et_W} (hX : et_Gd X w cX2_keepFewest RX2 3 (some .int) [] rm_Me_keepFewest) (x1 : Int32) : ∀ (n : Nat) (x2 : Int32) (g : et_G), et_Z X w 0 et_eI 52 [some (.ref (et_ad w 59)), some (.int x1), some (.int x2)] [] g (fn_Me_keepFewest_52 x1 n x2 g) := by
  intro n
  induction n with
  | zero =>
    intro x2 g a g2 h
    cases h
  | succ n ih =>
    intro x2 g
    rw [fn_Me_keepFewest_52]
    refine zi_iload2 (pc := 52) hX dX2_keepFewest_52 ?_
    refine zi_aload0 (pc := 53) hX dX2_keepFewest_53 ?_
    refine zi_geti (pc := 54) hX dX2_keepFewest_54 fl_480 ly_59 rfl ?_
    refine zi_icmp_ge (pc := 57) 125 hX dX2_keepFewest_57 (by decide) (fun _ => ?_) (fun _ => ?_)
    · refine zi_drop (le_n (le_s (le_n le_nil))) ?_; exact zp_Me_keepFewest_125 hX x1 g
    · refine zi_iload1 (pc := 60) hX dX2_keepFewest_60 ?_
      refine zi_iload2 (pc := 61) hX dX2_keepFewest_61 ?_
      refine zi_callI (zc_nest (pc := 62) hX dX2_keepFewest_62 nl_679 md_X9_hasBit st_X9_hasBit (ct_Et_hasBit hX.sane x1 x2 g) rfl rfl rfl) (fun v14 g15 => ?_)
      refine zi_if_ne (pc := 65) 86 hX dX2_keepFewest_65 (by decide) (fun _ => ?_) (fun _ => ?_)
      · refine zi_aload0 (pc := 68) hX dX2_keepFewest_68 ?_
        refine zi_getr (q := 60) (pc := 69) hX dX2_keepFewest_69 fl_478 ly_59 rfl ?_
        refine zi_iload2 (pc := 72) hX dX2_keepFewest_72 ?_
        refine zi_aload0 (pc := 73) hX dX2_keepFewest_73 ?_
        refine zi_getr (q := 34) (pc := 74) hX dX2_keepFewest_74 fl_477 ly_59 rfl ?_
        refine zi_getr (q := 38) (pc := 77) hX dX2_keepFewest_77 fl_372 ly_34 rfl ?_
        refine zi_iload2 (pc := 80) hX dX2_keepFewest_80 ?_
        refine zi_iald (pc := 81) hX dX2_keepFewest_81 ly_38 ?_
        refine zi_iast (pc := 82) hX dX2_keepFewest_82 ly_60 (zi_bg (fun g22 => ?_))
        refine zi_goto (pc := 83) 119 hX dX2_keepFewest_83 (by decide) ?_
        refine zi_iincb2 (pc := 119) hX dX2_keepFewest_119 (kn_1 _) rfl rfl (fun v23 => ?_)
        refine zi_goto (pc := 122) 52 hX dX2_keepFewest_122 (by decide) ?_
        exact ih v23 g22
      · refine zi_aload0 (pc := 86) hX dX2_keepFewest_86 ?_
        refine zi_getr (q := 60) (pc := 87) hX dX2_keepFewest_87 fl_478 ly_59 rfl ?_
        refine zi_iload2 (pc := 90) hX dX2_keepFewest_90 ?_
        refine zi_aload0 (pc := 91) hX dX2_keepFewest_91 ?_
        refine zi_getr (q := 48) (pc := 92) hX dX2_keepFewest_92 fl_476 ly_59 rfl ?_
        refine zi_geti (pc := 95) hX dX2_keepFewest_95 fl_429 ly_48 rfl ?_
        refine zi_iload2 (pc := 98) hX dX2_keepFewest_98 ?_
        refine zi_callI (zc_nest (pc := 99) hX dX2_keepFewest_99 nl_679 md_X9_hasBit st_X9_hasBit (ct_Et_hasBit hX.sane (g15.1 48 13) x2 g15) rfl rfl rfl) (fun v16 g17 => ?_)
        refine zi_if_eq (pc := 102) 117 hX dX2_keepFewest_102 (by decide) (fun _ => ?_) (fun _ => ?_)
        · refine zi_iconst (pc := 117) hX dX2_keepFewest_117 ki_4 ?_
          refine zi_iast (pc := 118) hX dX2_keepFewest_118 ly_60 (zi_bg (fun g18 => ?_))
          refine zi_iincb2 (pc := 119) hX dX2_keepFewest_119 (kn_1 _) rfl rfl (fun v19 => ?_)
          refine zi_goto (pc := 122) 52 hX dX2_keepFewest_122 (by decide) ?_
          exact ih v19 g18
        · refine zi_aload0 (pc := 105) hX dX2_keepFewest_105 ?_
          refine zi_getr (q := 48) (pc := 106) hX dX2_keepFewest_106 fl_476 ly_59 rfl ?_
          refine zi_getr (q := 56) (pc := 109) hX dX2_keepFewest_109 fl_425 ly_48 rfl ?_
          refine zi_iload2 (pc := 112) hX dX2_keepFewest_112 ?_
          refine zi_iald (pc := 113) hX dX2_keepFewest_113 ly_56 ?_
          refine zi_goto (pc := 114) 118 hX dX2_keepFewest_114 (by decide) ?_
          refine zi_iast (pc := 118) hX dX2_keepFewest_118 ly_60 (zi_bg (fun g20 => ?_))
          refine zi_iincb2 (pc := 119) hX dX2_keepFewest_119 (kn_1 _) rfl rfl (fun v21 => ?_)
          refine zi_goto (pc := 122) 52 hX dX2_keepFewest_122 (by decide) ?_
          exact ih v21 g20
theorem zw_Me_keepFewest {X : et_X} {w : et_W} (hX : et_Gd X w cX2_keepFewest RX2 3 (some .int) [] rm_Me_keepFewest) (g : et_G) : et_Z X w 0 et_eI 0 [some (.ref (et_ad w 59)), none, none] [] g (fn_Me_keepFewest g) := by
  unfold fn_Me_keepFewest
  refine zi_aload0 (pc := 0) hX dX2_keepFewest_0 ?_
  refine zi_getr (q := 48) (pc := 1) hX dX2_keepFewest_1 fl_476 ly_59 rfl ?_
  refine zi_callU (zc_virt (pc := 4) hX dX2_keepFewest_4 tm_574 md_X0_lay mi_X0_lay ly_48 (ct_Gr_lay hX.sane g) rfl rfl rfl) (fun g2 => ?_)
  refine zi_aload0 (pc := 7) hX dX2_keepFewest_7 ?_
  refine zi_getr (q := 48) (pc := 8) hX dX2_keepFewest_8 fl_476 ly_59 rfl ?_
  refine zi_callU (zc_virt (pc := 11) hX dX2_keepFewest_11 tm_617 md_X0_forget mi_X0_forget ly_48 (ct_Gr_forget hX.sane g2) rfl rfl rfl) (fun g4 => ?_)
  refine zi_aload0 (pc := 14) hX dX2_keepFewest_14 ?_
  refine zi_callI (zc_virt (pc := 15) hX dX2_keepFewest_15 tm_618 md_X2_fewest mi_X2_fewest ly_59 (ct_Me_fewest hX.sane g4) rfl rfl rfl) (fun v5 g6 => ?_)
  refine zi_istore1 (pc := 18) hX dX2_keepFewest_18 rfl rfl ?_
  refine zi_aload0 (pc := 19) hX dX2_keepFewest_19 ?_
  refine zi_getr (q := 48) (pc := 20) hX dX2_keepFewest_20 fl_476 ly_59 rfl ?_
  refine zi_iload1 (pc := 23) hX dX2_keepFewest_23 ?_
  refine zi_aload0 (pc := 24) hX dX2_keepFewest_24 ?_
  refine zi_getr (q := 34) (pc := 25) hX dX2_keepFewest_25 fl_477 ly_59 rfl ?_
  refine zi_callI (zc_virt (pc := 28) hX dX2_keepFewest_28 tm_622 md_X1_every mi_X1_every ly_34 (ct_Le_every hX.sane g6) rfl rfl rfl) (fun v7 g8 => ?_)
  refine zi_callU (zc_virt (pc := 31) hX dX2_keepFewest_31 tm_626 md_X0_rise mi_X0_rise ly_48 (ct_Gr_rise hX.sane v5 v7 g8) rfl rfl rfl) (fun g10 => ?_)
  refine zi_aload0 (pc := 34) hX dX2_keepFewest_34 ?_
  refine zi_aload0 (pc := 35) hX dX2_keepFewest_35 ?_
  refine zi_getr (q := 34) (pc := 36) hX dX2_keepFewest_36 fl_477 ly_59 rfl ?_
  refine zi_geti (pc := 39) hX dX2_keepFewest_39 fl_359 ly_34 rfl ?_
  refine zi_bipush (pc := 42) hX dX2_keepFewest_42 kb_12 ?_
  refine zi_min (pc := 44) hX dX2_keepFewest_44 tm_676 rfl rfl rfl rfl ?_
  refine zi_puti (pc := 47) hX dX2_keepFewest_47 fl_480 ly_59 rfl rfl rfl (zi_bg (fun g11 => ?_))
  refine zi_iconst (pc := 50) hX dX2_keepFewest_50 ki_0 ?_
  refine zi_istore2 (pc := 51) hX dX2_keepFewest_51 rfl rfl ?_
  exact zp_Me_keepFewest_52 hX v5 1000000 (0 : Int32) g11
theorem ct_Me_keepFewest {w : et_W} (hw : et_Sane w) (g : et_G) : et_C w yX2_keepFewest (Cond.code yX2_keepFewest cX2_keepFewest 3 (some .int)) rm_Me_keepFewest et_eI [.ref (et_ad w 59)] g (fn_Me_keepFewest g) := et_mk hw (by decide) rfl rfl (fun X hX => zw_Me_keepFewest hX g)
def rm_Et_mend : Room := { frames := 7, cells := 0, slots := 0, locals := 174 }
def fn_Et_mend (g : et_G) : Option (Int32 × et_G) :=
  if (g.1 34 0) ≤ (12 : Int32) then
    et_bd (fn_Me_keepFewest g) (fun v1 g2 =>
    some (v1, g2))
  else
    some ((-1 : Int32), g)
theorem zw_Et_mend {X : et_X} {w : et_W} (hX : et_Gd X w cX9_mend RX9 1 (some .int) [] rm_Et_mend) (g : et_G) : et_Z X w 0 et_eI 0 [some (.ref (et_ad w 0))] [] g (fn_Et_mend g) := by
  unfold fn_Et_mend
  refine zi_aload0 (pc := 0) hX dX9_mend_0 ?_
  refine zi_getr (q := 34) (pc := 1) hX dX9_mend_1 fl_498 ly_0 rfl ?_
  refine zi_geti (pc := 4) hX dX9_mend_4 fl_360 ly_34 rfl ?_
  refine zi_bipush (pc := 7) hX dX9_mend_7 kb_12 ?_
  refine zi_icmp_le (pc := 9) 14 hX dX9_mend_9 (by decide) (fun _ => ?_) (fun _ => ?_)
  · refine zi_aload0 (pc := 14) hX dX9_mend_14 ?_
    refine zi_getr (q := 59) (pc := 15) hX dX9_mend_15 fl_504 ly_0 rfl ?_
    refine zi_callI (zc_virt (pc := 18) hX dX9_mend_18 tm_570 md_X2_keepFewest mi_X2_keepFewest ly_59 (ct_Me_keepFewest hX.sane g) rfl rfl rfl) (fun v1 g2 => ?_)
    exact zi_ret (pc := 21) hX dX9_mend_21 rfl rfl rfl rfl
  · refine zi_iconst (pc := 12) hX dX9_mend_12 ki_m1 ?_
    exact zi_ret (pc := 13) hX dX9_mend_13 rfl rfl rfl rfl
theorem ct_Et_mend {w : et_W} (hw : et_Sane w) (g : et_G) : et_C w yX9_mend (Cond.code yX9_mend cX9_mend 1 (some .int)) rm_Et_mend et_eI [.ref (et_ad w 0)] g (fn_Et_mend g) := et_mk hw (by decide) rfl rfl (fun X hX => zw_Et_mend hX g)
def rm_Et_mended : Room := { frames := 6, cells := 1, slots := 6, locals := 81 }
def fn_Et_mended (p1 : Int32) (g : et_G) : Option ((Nat ⊕ Int32) × et_G) :=
  if p1 < 0 then
    some (.inl 0, g)
  else
    if p1 < (g.1 59 3) then
      et_ck (et_ib p1 12) (
      some (.inr (g.1 60 p1.toNatClampNeg), g))
    else
      some (.inl 0, g)
theorem zw_Et_mended {X : et_X} {w : et_W} (hX : et_Gd X w cX9_mended RX9 2 (some .int) [] rm_Et_mended) (p1 : Int32) (g : et_G) : et_Z X w 0 et_tI 0 [some (.ref (et_ad w 0)), some (.int p1)] [] g (fn_Et_mended p1 g) := by
  unfold fn_Et_mended
  refine zi_iload1 (pc := 0) hX dX9_mended_0 ?_
  refine zi_if_lt (pc := 1) 15 hX dX9_mended_1 (by decide) (fun _ => ?_) (fun _ => ?_)
  · exact zi_thr (pc := 15) hX dX9_mended_15 dX9_mended_18 dX9_mended_19 dX9_mended_22 th_0 rfl rfl rfl rfl rfl
  · refine zi_iload1 (pc := 4) hX dX9_mended_4 ?_
    refine zi_aload0 (pc := 5) hX dX9_mended_5 ?_
    refine zi_getr (q := 59) (pc := 6) hX dX9_mended_6 fl_504 ly_0 rfl ?_
    refine zi_geti (pc := 9) hX dX9_mended_9 fl_481 ly_59 rfl ?_
    refine zi_icmp_lt (pc := 12) 23 hX dX9_mended_12 (by decide) (fun _ => ?_) (fun _ => ?_)
    · refine zi_aload0 (pc := 23) hX dX9_mended_23 ?_
      refine zi_getr (q := 59) (pc := 24) hX dX9_mended_24 fl_504 ly_0 rfl ?_
      refine zi_getr (q := 60) (pc := 27) hX dX9_mended_27 fl_479 ly_59 rfl ?_
      refine zi_iload1 (pc := 30) hX dX9_mended_30 ?_
      refine zi_iald (pc := 31) hX dX9_mended_31 ly_60 ?_
      exact zi_ret (pc := 32) hX dX9_mended_32 rfl rfl rfl rfl
    · exact zi_thr (pc := 15) hX dX9_mended_15 dX9_mended_18 dX9_mended_19 dX9_mended_22 th_0 rfl rfl rfl rfl rfl
theorem ct_Et_mended {w : et_W} (hw : et_Sane w) (p1 : Int32) (g : et_G) : et_C w yX9_mended (Cond.code yX9_mended cX9_mended 2 (some .int)) rm_Et_mended et_tI [.ref (et_ad w 0), .int p1] g (fn_Et_mended p1 g) := et_mk hw (by decide) rfl rfl (fun X hX => zw_Et_mended hX p1 g)
def rm_Le_copyFrom_40b : Room := { frames := 1, cells := 0, slots := 0, locals := 18 }
def fn_Le_copyFrom_40b_82 : Nat → Int32 → et_G → Option (Unit × et_G)
  | 0, _, _ => none
  | n + 1, x2, g =>
    if (20 : Int32) ≤ x2 then
      some ((), g)
    else
      et_ck (et_ib x2 20) (
      et_ck (et_ib x2 20) (et_b (et_si g 39 x2.toNatClampNeg (vp_nar .boolean (g.1 45 x2.toNatClampNeg))) (fun g6 =>
      et_b (x2 + (1 : Int32)) (fun v7 =>
      fn_Le_copyFrom_40b_82 n v7 g6))))
def fn_Le_copyFrom_40b (g : et_G) : Option (Unit × et_G) :=
  et_b (et_si g 34 0 (g.1 40 0)) (fun g1 =>
  et_ck (et_cc (0 : Int32) (0 : Int32) (20 : Int32) 20 20) (et_b (et_cp g1 41 35 (0 : Int32).toNatClampNeg (0 : Int32).toNatClampNeg (20 : Int32).toNatClampNeg) (fun g2 =>
  et_ck (et_cc (0 : Int32) (0 : Int32) (20 : Int32) 20 20) (et_b (et_cp g2 42 36 (0 : Int32).toNatClampNeg (0 : Int32).toNatClampNeg (20 : Int32).toNatClampNeg) (fun g3 =>
  et_ck (et_cc (0 : Int32) (0 : Int32) (20 : Int32) 20 20) (et_b (et_cp g3 43 37 (0 : Int32).toNatClampNeg (0 : Int32).toNatClampNeg (20 : Int32).toNatClampNeg) (fun g4 =>
  et_ck (et_cc (0 : Int32) (0 : Int32) (20 : Int32) 20 20) (et_b (et_cp g4 44 38 (0 : Int32).toNatClampNeg (0 : Int32).toNatClampNeg (20 : Int32).toNatClampNeg) (fun g5 =>
  fn_Le_copyFrom_40b_82 1000000 (0 : Int32) g5)))))))))
theorem zp_Le_copyFrom_40b_82 {X : et_X} {w : et_W} (hX : et_Gd X w cX1_copyFrom RX1 3 (none) [] rm_Le_copyFrom_40b) : ∀ (n : Nat) (x2 : Int32) (g : et_G), et_Z X w 0 et_eU 82 [some (.ref (et_ad w 34)), some (.ref (et_ad w 40)), some (.int x2)] [] g (fn_Le_copyFrom_40b_82 n x2 g) := by
  intro n
  induction n with
  | zero =>
    intro x2 g a g2 h
    cases h
  | succ n ih =>
    intro x2 g
    rw [fn_Le_copyFrom_40b_82]
    refine zi_iload2 (pc := 82) hX dX1_copyFrom_82 ?_
    refine zi_aload0 (pc := 83) hX dX1_copyFrom_83 ?_
    refine zi_getr (q := 39) (pc := 84) hX dX1_copyFrom_84 fl_375 ly_34 rfl ?_
    refine zi_alen (pc := 87) hX dX1_copyFrom_87 ly_39 2 (et_t2 w) ka_20 ?_
    refine zi_icmp_ge (pc := 88) 109 hX dX1_copyFrom_88 (by decide) (fun _ => ?_) (fun _ => ?_)
    · exact zi_vret (pc := 109) hX dX1_copyFrom_109 rfl rfl rfl
    · refine zi_aload0 (pc := 91) hX dX1_copyFrom_91 ?_
      refine zi_getr (q := 39) (pc := 92) hX dX1_copyFrom_92 fl_375 ly_34 rfl ?_
      refine zi_iload2 (pc := 95) hX dX1_copyFrom_95 ?_
      refine zi_aload1 (pc := 96) hX dX1_copyFrom_96 ?_
      refine zi_getr (q := 45) (pc := 97) hX dX1_copyFrom_97 fl_375 ly_40 rfl ?_
      refine zi_iload2 (pc := 100) hX dX1_copyFrom_100 ?_
      refine zi_zald (pc := 101) hX dX1_copyFrom_101 ly_45 ?_
      refine zi_zast (pc := 102) hX dX1_copyFrom_102 ly_39 (zi_bg (fun g6 => ?_))
      refine zi_iincb2 (pc := 103) hX dX1_copyFrom_103 (kn_1 _) rfl rfl (fun v7 => ?_)
      refine zi_goto (pc := 106) 82 hX dX1_copyFrom_106 (by decide) ?_
      exact ih v7 g6
theorem zw_Le_copyFrom_40b {X : et_X} {w : et_W} (hX : et_Gd X w cX1_copyFrom RX1 3 (none) [] rm_Le_copyFrom_40b) (g : et_G) : et_Z X w 0 et_eU 0 [some (.ref (et_ad w 34)), some (.ref (et_ad w 40)), none] [] g (fn_Le_copyFrom_40b g) := by
  unfold fn_Le_copyFrom_40b
  refine zi_aload0 (pc := 0) hX dX1_copyFrom_0 ?_
  refine zi_aload1 (pc := 1) hX dX1_copyFrom_1 ?_
  refine zi_geti (pc := 2) hX dX1_copyFrom_2 fl_358 ly_40 rfl ?_
  refine zi_puti (pc := 5) hX dX1_copyFrom_5 fl_358 ly_34 rfl rfl rfl (zi_bg (fun g1 => ?_))
  refine zi_aload1 (pc := 8) hX dX1_copyFrom_8 ?_
  refine zi_getr (q := 41) (pc := 9) hX dX1_copyFrom_9 fl_362 ly_40 rfl ?_
  refine zi_iconst (pc := 12) hX dX1_copyFrom_12 ki_0 ?_
  refine zi_aload0 (pc := 13) hX dX1_copyFrom_13 ?_
  refine zi_getr (q := 35) (pc := 14) hX dX1_copyFrom_14 fl_362 ly_34 rfl ?_
  refine zi_iconst (pc := 17) hX dX1_copyFrom_17 ki_0 ?_
  refine zi_aload0 (pc := 18) hX dX1_copyFrom_18 ?_
  refine zi_getr (q := 35) (pc := 19) hX dX1_copyFrom_19 fl_362 ly_34 rfl ?_
  refine zi_alen (pc := 22) hX dX1_copyFrom_22 ly_35 0 (et_t0 w) ka_20 ?_
  refine zi_cpi (pc := 23) hX dX1_copyFrom_23 tm_688 ly_41 ly_35 rfl rfl (zi_bg (fun g2 => ?_))
  refine zi_aload1 (pc := 26) hX dX1_copyFrom_26 ?_
  refine zi_getr (q := 42) (pc := 27) hX dX1_copyFrom_27 fl_365 ly_40 rfl ?_
  refine zi_iconst (pc := 30) hX dX1_copyFrom_30 ki_0 ?_
  refine zi_aload0 (pc := 31) hX dX1_copyFrom_31 ?_
  refine zi_getr (q := 36) (pc := 32) hX dX1_copyFrom_32 fl_365 ly_34 rfl ?_
  refine zi_iconst (pc := 35) hX dX1_copyFrom_35 ki_0 ?_
  refine zi_aload0 (pc := 36) hX dX1_copyFrom_36 ?_
  refine zi_getr (q := 36) (pc := 37) hX dX1_copyFrom_37 fl_365 ly_34 rfl ?_
  refine zi_alen (pc := 40) hX dX1_copyFrom_40 ly_36 0 (et_t0 w) ka_20 ?_
  refine zi_cpi (pc := 41) hX dX1_copyFrom_41 tm_688 ly_42 ly_36 rfl rfl (zi_bg (fun g3 => ?_))
  refine zi_aload1 (pc := 44) hX dX1_copyFrom_44 ?_
  refine zi_getr (q := 43) (pc := 45) hX dX1_copyFrom_45 fl_368 ly_40 rfl ?_
  refine zi_iconst (pc := 48) hX dX1_copyFrom_48 ki_0 ?_
  refine zi_aload0 (pc := 49) hX dX1_copyFrom_49 ?_
  refine zi_getr (q := 37) (pc := 50) hX dX1_copyFrom_50 fl_368 ly_34 rfl ?_
  refine zi_iconst (pc := 53) hX dX1_copyFrom_53 ki_0 ?_
  refine zi_aload0 (pc := 54) hX dX1_copyFrom_54 ?_
  refine zi_getr (q := 37) (pc := 55) hX dX1_copyFrom_55 fl_368 ly_34 rfl ?_
  refine zi_alen (pc := 58) hX dX1_copyFrom_58 ly_37 0 (et_t0 w) ka_20 ?_
  refine zi_cpi (pc := 59) hX dX1_copyFrom_59 tm_688 ly_43 ly_37 rfl rfl (zi_bg (fun g4 => ?_))
  refine zi_aload1 (pc := 62) hX dX1_copyFrom_62 ?_
  refine zi_getr (q := 44) (pc := 63) hX dX1_copyFrom_63 fl_371 ly_40 rfl ?_
  refine zi_iconst (pc := 66) hX dX1_copyFrom_66 ki_0 ?_
  refine zi_aload0 (pc := 67) hX dX1_copyFrom_67 ?_
  refine zi_getr (q := 38) (pc := 68) hX dX1_copyFrom_68 fl_371 ly_34 rfl ?_
  refine zi_iconst (pc := 71) hX dX1_copyFrom_71 ki_0 ?_
  refine zi_aload0 (pc := 72) hX dX1_copyFrom_72 ?_
  refine zi_getr (q := 38) (pc := 73) hX dX1_copyFrom_73 fl_371 ly_34 rfl ?_
  refine zi_alen (pc := 76) hX dX1_copyFrom_76 ly_38 0 (et_t0 w) ka_20 ?_
  refine zi_cpi (pc := 77) hX dX1_copyFrom_77 tm_688 ly_44 ly_38 rfl rfl (zi_bg (fun g5 => ?_))
  refine zi_iconst (pc := 80) hX dX1_copyFrom_80 ki_0 ?_
  refine zi_istore2 (pc := 81) hX dX1_copyFrom_81 rfl rfl ?_
  exact zp_Le_copyFrom_40b_82 hX 1000000 (0 : Int32) g5
theorem ct_Le_copyFrom_40b {w : et_W} (hw : et_Sane w) (g : et_G) : et_C w yX1_copyFrom (Cond.code yX1_copyFrom cX1_copyFrom 3 (none)) rm_Le_copyFrom_40b et_eU [.ref (et_ad w 34), .ref (et_ad w 40)] g (fn_Le_copyFrom_40b g) := et_mk hw (by decide) rfl rfl (fun X hX => zw_Le_copyFrom_40b hX g)
def rm_Mi_copyFrom_47b : Room := { frames := 0, cells := 0, slots := 0, locals := 0 }
def fn_Mi_copyFrom_47b (g : et_G) : Option (Unit × et_G) :=
  et_b (et_si g 46 1 (g.1 47 1)) (fun g1 =>
  et_b (et_si g1 46 2 (g1.1 47 2)) (fun g2 =>
  some ((), g2)))
theorem zw_Mi_copyFrom_47b {X : et_X} {w : et_W} (hX : et_Gd X w cX3_copyFrom RX3 2 (none) [] rm_Mi_copyFrom_47b) (g : et_G) : et_Z X w 0 et_eU 0 [some (.ref (et_ad w 46)), some (.ref (et_ad w 47))] [] g (fn_Mi_copyFrom_47b g) := by
  unfold fn_Mi_copyFrom_47b
  refine zi_aload0 (pc := 0) hX dX3_copyFrom_0 ?_
  refine zi_aload1 (pc := 1) hX dX3_copyFrom_1 ?_
  refine zi_geti (pc := 2) hX dX3_copyFrom_2 fl_399 ly_47 rfl ?_
  refine zi_puti (pc := 5) hX dX3_copyFrom_5 fl_399 ly_46 rfl rfl rfl (zi_bg (fun g1 => ?_))
  refine zi_aload0 (pc := 8) hX dX3_copyFrom_8 ?_
  refine zi_aload1 (pc := 9) hX dX3_copyFrom_9 ?_
  refine zi_geti (pc := 10) hX dX3_copyFrom_10 fl_400 ly_47 rfl ?_
  refine zi_puti (pc := 13) hX dX3_copyFrom_13 fl_400 ly_46 rfl rfl rfl (zi_bg (fun g2 => ?_))
  exact zi_vret (pc := 16) hX dX3_copyFrom_16 rfl rfl rfl
theorem ct_Mi_copyFrom_47b {w : et_W} (hw : et_Sane w) (g : et_G) : et_C w yX3_copyFrom (Cond.code yX3_copyFrom cX3_copyFrom 2 (none)) rm_Mi_copyFrom_47b et_eU [.ref (et_ad w 46), .ref (et_ad w 47)] g (fn_Mi_copyFrom_47b g) := et_mk hw (by decide) rfl rfl (fun X hX => zw_Mi_copyFrom_47b hX g)
def rm_Et_restore : Room := { frames := 2, cells := 0, slots := 0, locals := 40 }
def fn_Et_restore (g : et_G) : Option (Int32 × et_G) :=
  if (g.1 0 11) = 0 then
    some ((0 : Int32), g)
  else
    et_bd (fn_Le_copyFrom_40b g) (fun _ g2 =>
    et_bd (fn_Mi_copyFrom_47b g2) (fun _ g4 =>
    et_bd (fn_Gr_forget g4) (fun _ g6 =>
    some ((1 : Int32), g6))))
theorem zw_Et_restore {X : et_X} {w : et_W} (hX : et_Gd X w cX9_restore RX9 1 (some .boolean) [] rm_Et_restore) (g : et_G) : et_Z X w 0 et_eI 0 [some (.ref (et_ad w 0))] [] g (fn_Et_restore g) := by
  unfold fn_Et_restore
  refine zi_aload0 (pc := 0) hX dX9_restore_0 ?_
  refine zi_geti (pc := 1) hX dX9_restore_1 fl_502 ly_0 rfl ?_
  refine zi_if_ne (pc := 4) 9 hX dX9_restore_4 (by decide) (fun _ => ?_) (fun _ => ?_)
  · refine zi_iconst (pc := 7) hX dX9_restore_7 ki_0 ?_
    exact zi_ret (pc := 8) hX dX9_restore_8 et_z0 rfl rfl rfl
  · refine zi_aload0 (pc := 9) hX dX9_restore_9 ?_
    refine zi_getr (q := 34) (pc := 10) hX dX9_restore_10 fl_498 ly_0 rfl ?_
    refine zi_aload0 (pc := 13) hX dX9_restore_13 ?_
    refine zi_getr (q := 40) (pc := 14) hX dX9_restore_14 fl_499 ly_0 rfl ?_
    refine zi_callU (zc_virt (pc := 17) hX dX9_restore_17 tm_684 md_X1_copyFrom mi_X1_copyFrom ly_34 (ct_Le_copyFrom_40b hX.sane g) rfl rfl rfl) (fun g2 => ?_)
    refine zi_aload0 (pc := 20) hX dX9_restore_20 ?_
    refine zi_getr (q := 46) (pc := 21) hX dX9_restore_21 fl_500 ly_0 rfl ?_
    refine zi_aload0 (pc := 24) hX dX9_restore_24 ?_
    refine zi_getr (q := 47) (pc := 25) hX dX9_restore_25 fl_501 ly_0 rfl ?_
    refine zi_callU (zc_virt (pc := 28) hX dX9_restore_28 tm_691 md_X3_copyFrom mi_X3_copyFrom ly_46 (ct_Mi_copyFrom_47b hX.sane g2) rfl rfl rfl) (fun g4 => ?_)
    refine zi_aload0 (pc := 31) hX dX9_restore_31 ?_
    refine zi_getr (q := 48) (pc := 32) hX dX9_restore_32 fl_503 ly_0 rfl ?_
    refine zi_callU (zc_virt (pc := 35) hX dX9_restore_35 tm_562 md_X0_forget mi_X0_forget ly_48 (ct_Gr_forget hX.sane g4) rfl rfl rfl) (fun g6 => ?_)
    refine zi_iconst (pc := 38) hX dX9_restore_38 ki_1 ?_
    exact zi_ret (pc := 39) hX dX9_restore_39 et_z1 rfl rfl rfl
theorem ct_Et_restore {w : et_W} (hw : et_Sane w) (g : et_G) : et_C w yX9_restore (Cond.code yX9_restore cX9_restore 1 (some .boolean)) rm_Et_restore et_eI [.ref (et_ad w 0)] g (fn_Et_restore g) := et_mk hw (by decide) rfl rfl (fun X hX => zw_Et_restore hX g)
def rm_Le_add : Room := { frames := 0, cells := 0, slots := 0, locals := 0 }
def fn_Le_add (p1 : Int32) (p2 : Int32) (p3 : Int32) (p4 : Int32) (p5 : Int32) (g : et_G) : Option (Int32 × et_G) :=
  if (g.1 34 0) < (20 : Int32) then
    et_ck (et_ib (g.1 34 0) 20) (et_b (et_si g 35 (g.1 34 0).toNatClampNeg p1) (fun g1 =>
    et_ck (et_ib (g1.1 34 0) 20) (et_b (et_si g1 36 (g1.1 34 0).toNatClampNeg p2) (fun g2 =>
    et_ck (et_ib (g2.1 34 0) 20) (et_b (et_si g2 37 (g2.1 34 0).toNatClampNeg p3) (fun g3 =>
    et_ck (et_ib (g3.1 34 0) 20) (et_b (et_si g3 38 (g3.1 34 0).toNatClampNeg p4) (fun g4 =>
    et_ck (et_ib (g4.1 34 0) 20) (et_b (et_si g4 39 (g4.1 34 0).toNatClampNeg (vp_nar .boolean p5)) (fun g5 =>
    et_b (et_si g5 34 0 ((g5.1 34 0) + (1 : Int32))) (fun g6 =>
    some ((1 : Int32), g6))))))))))))
  else
    some ((0 : Int32), g)
theorem zw_Le_add {X : et_X} {w : et_W} (hX : et_Gd X w cX1_add RX1 6 (some .boolean) [] rm_Le_add) (p1 : Int32) (p2 : Int32) (p3 : Int32) (p4 : Int32) (p5 : Int32) (g : et_G) : et_Z X w 0 et_eI 0 [some (.ref (et_ad w 34)), some (.int p1), some (.int p2), some (.int p3), some (.int p4), some (.int p5)] [] g (fn_Le_add p1 p2 p3 p4 p5 g) := by
  unfold fn_Le_add
  refine zi_aload0 (pc := 0) hX dX1_add_0 ?_
  refine zi_geti (pc := 1) hX dX1_add_1 fl_358 ly_34 rfl ?_
  refine zi_bipush (pc := 4) hX dX1_add_4 kb_20 ?_
  refine zi_icmp_lt (pc := 6) 11 hX dX1_add_6 (by decide) (fun _ => ?_) (fun _ => ?_)
  · refine zi_aload0 (pc := 11) hX dX1_add_11 ?_
    refine zi_getr (q := 35) (pc := 12) hX dX1_add_12 fl_362 ly_34 rfl ?_
    refine zi_aload0 (pc := 15) hX dX1_add_15 ?_
    refine zi_geti (pc := 16) hX dX1_add_16 fl_358 ly_34 rfl ?_
    refine zi_iload1 (pc := 19) hX dX1_add_19 ?_
    refine zi_iast (pc := 20) hX dX1_add_20 ly_35 (zi_bg (fun g1 => ?_))
    refine zi_aload0 (pc := 21) hX dX1_add_21 ?_
    refine zi_getr (q := 36) (pc := 22) hX dX1_add_22 fl_365 ly_34 rfl ?_
    refine zi_aload0 (pc := 25) hX dX1_add_25 ?_
    refine zi_geti (pc := 26) hX dX1_add_26 fl_358 ly_34 rfl ?_
    refine zi_iload2 (pc := 29) hX dX1_add_29 ?_
    refine zi_iast (pc := 30) hX dX1_add_30 ly_36 (zi_bg (fun g2 => ?_))
    refine zi_aload0 (pc := 31) hX dX1_add_31 ?_
    refine zi_getr (q := 37) (pc := 32) hX dX1_add_32 fl_368 ly_34 rfl ?_
    refine zi_aload0 (pc := 35) hX dX1_add_35 ?_
    refine zi_geti (pc := 36) hX dX1_add_36 fl_358 ly_34 rfl ?_
    refine zi_iload3 (pc := 39) hX dX1_add_39 ?_
    refine zi_iast (pc := 40) hX dX1_add_40 ly_37 (zi_bg (fun g3 => ?_))
    refine zi_aload0 (pc := 41) hX dX1_add_41 ?_
    refine zi_getr (q := 38) (pc := 42) hX dX1_add_42 fl_371 ly_34 rfl ?_
    refine zi_aload0 (pc := 45) hX dX1_add_45 ?_
    refine zi_geti (pc := 46) hX dX1_add_46 fl_358 ly_34 rfl ?_
    refine zi_iload4 (pc := 49) hX dX1_add_49 ?_
    refine zi_iast (pc := 51) hX dX1_add_51 ly_38 (zi_bg (fun g4 => ?_))
    refine zi_aload0 (pc := 52) hX dX1_add_52 ?_
    refine zi_getr (q := 39) (pc := 53) hX dX1_add_53 fl_375 ly_34 rfl ?_
    refine zi_aload0 (pc := 56) hX dX1_add_56 ?_
    refine zi_geti (pc := 57) hX dX1_add_57 fl_358 ly_34 rfl ?_
    refine zi_iload5 (pc := 60) hX dX1_add_60 ?_
    refine zi_zast (pc := 62) hX dX1_add_62 ly_39 (zi_bg (fun g5 => ?_))
    refine zi_aload0 (pc := 63) hX dX1_add_63 ?_
    refine zi_dup (pc := 64) hX dX1_add_64 rfl ?_
    refine zi_geti (pc := 65) hX dX1_add_65 fl_358 ly_34 rfl ?_
    refine zi_iconst (pc := 68) hX dX1_add_68 ki_1 ?_
    refine zi_iadd (pc := 69) hX dX1_add_69 ?_
    refine zi_puti (pc := 70) hX dX1_add_70 fl_358 ly_34 rfl rfl rfl (zi_bg (fun g6 => ?_))
    refine zi_iconst (pc := 73) hX dX1_add_73 ki_1 ?_
    exact zi_ret (pc := 74) hX dX1_add_74 et_z1 rfl rfl rfl
  · refine zi_iconst (pc := 9) hX dX1_add_9 ki_0 ?_
    exact zi_ret (pc := 10) hX dX1_add_10 et_z0 rfl rfl rfl
theorem ct_Le_add {w : et_W} (hw : et_Sane w) (p1 : Int32) (p2 : Int32) (p3 : Int32) (p4 : Int32) (p5 : Int32) (g : et_G) : et_C w yX1_add (Cond.code yX1_add cX1_add 6 (some .boolean)) rm_Le_add et_eI [.ref (et_ad w 34), .int p1, .int p2, .int p3, .int p4, .int p5] g (fn_Le_add p1 p2 p3 p4 p5 g) := et_mk hw (by decide) rfl rfl (fun X hX => zw_Le_add hX p1 p2 p3 p4 p5 g)
def rm_Et_say : Room := { frames := 7, cells := 3, slots := 18, locals := 102 }
def fn_Et_say_43 (g : et_G) : Option ((Nat ⊕ Int32) × et_G) :=
  et_b (et_si g 0 16 ((g.1 0 16) + (1 : Int32))) (fun g7 =>
  some (.inr ((-1 : Int32)), g7))
def fn_Et_say (p1 : Int32) (p2 : Int32) (p3 : Int32) (p4 : Int32) (p5 : Int32) (g : et_G) : Option ((Nat ⊕ Int32) × et_G) :=
  et_bt (fn_Et_needPerson p1 g) (fun _ g2 =>
  et_bt (fn_Et_needHour p2 g2) (fun _ g4 =>
  et_bt (fn_Et_needThing p3 g4) (fun _ g6 =>
  if p4 < 0 then
    fn_Et_say_43 g6
  else
    if (5 : Int32) ≤ p4 then
      fn_Et_say_43 g6
    else
      et_bd (fn_Le_add p1 p2 p3 p4 p5 g6) (fun v8 g9 =>
      if v8 = 0 then
        fn_Et_say_43 g9
      else
        et_bd (fn_Gr_forget g9) (fun _ g11 =>
        some (.inr (g11.1 34 0), g11))))))
theorem zp_Et_say_43 {X : et_X} {w : et_W} (hX : et_Gd X w cX9_say RX9 6 (some .int) [] rm_Et_say) (g : et_G) : et_Z X w 3 et_tI 43 [some (.ref (et_ad w 0)), none, none, none, none, none] [] g (fn_Et_say_43 g) := by
  unfold fn_Et_say_43
  refine zi_aload0 (pc := 43) hX dX9_say_43 ?_
  refine zi_dup (pc := 44) hX dX9_say_44 rfl ?_
  refine zi_geti (pc := 45) hX dX9_say_45 fl_507 ly_0 rfl ?_
  refine zi_iconst (pc := 48) hX dX9_say_48 ki_1 ?_
  refine zi_iadd (pc := 49) hX dX9_say_49 ?_
  refine zi_puti (pc := 50) hX dX9_say_50 fl_507 ly_0 rfl rfl rfl (zi_bg (fun g7 => ?_))
  refine zi_iconst (pc := 53) hX dX9_say_53 ki_m1 ?_
  exact zi_ret (pc := 54) hX dX9_say_54 rfl rfl rfl rfl
theorem zw_Et_say {X : et_X} {w : et_W} (hX : et_Gd X w cX9_say RX9 6 (some .int) [] rm_Et_say) (p1 : Int32) (p2 : Int32) (p3 : Int32) (p4 : Int32) (p5 : Int32) (g : et_G) : et_Z X w 0 et_tI 0 [some (.ref (et_ad w 0)), some (.int p1), some (.int p2), some (.int p3), some (.int p4), some (.int p5)] [] g (fn_Et_say p1 p2 p3 p4 p5 g) := by
  unfold fn_Et_say
  refine zi_aload0 (pc := 0) hX dX9_say_0 ?_
  refine zi_iload1 (pc := 1) hX dX9_say_1 ?_
  refine zi_callTU hX (fun _ => rfl) rfl rfl (zc_virt (pc := 2) hX dX9_say_2 tm_1031 md_X9_needPerson mi_X9_needPerson ly_0 (ct_Et_needPerson hX.sane p1 g) rfl rfl rfl) (fun g2 => ?_)
  refine zi_aload0 (pc := 5) hX dX9_say_5 ?_
  refine zi_iload2 (pc := 6) hX dX9_say_6 ?_
  refine zi_callTU hX (fun _ => rfl) rfl rfl (zc_virt (pc := 7) hX dX9_say_7 tm_1039 md_X9_needHour mi_X9_needHour ly_0 (ct_Et_needHour hX.sane p2 g2) rfl rfl rfl) (fun g4 => ?_)
  refine zi_aload0 (pc := 10) hX dX9_say_10 ?_
  refine zi_iload3 (pc := 11) hX dX9_say_11 ?_
  refine zi_callTU hX (fun _ => rfl) rfl rfl (zc_virt (pc := 12) hX dX9_say_12 tm_1054 md_X9_needThing mi_X9_needThing ly_0 (ct_Et_needThing hX.sane p3 g4) rfl rfl rfl) (fun g6 => ?_)
  refine zi_iload4 (pc := 15) hX dX9_say_15 ?_
  refine zi_if_lt (pc := 17) 43 hX dX9_say_17 (by decide) (fun _ => ?_) (fun _ => ?_)
  · refine zi_drop (le_s (le_n (le_n (le_n (le_n (le_n le_nil)))))) ?_; exact zp_Et_say_43 hX g6
  · refine zi_iload4 (pc := 20) hX dX9_say_20 ?_
    refine zi_iconst (pc := 22) hX dX9_say_22 ki_5 ?_
    refine zi_icmp_ge (pc := 23) 43 hX dX9_say_23 (by decide) (fun _ => ?_) (fun _ => ?_)
    · refine zi_drop (le_s (le_n (le_n (le_n (le_n (le_n le_nil)))))) ?_; exact zp_Et_say_43 hX g6
    · refine zi_aload0 (pc := 26) hX dX9_say_26 ?_
      refine zi_getr (q := 34) (pc := 27) hX dX9_say_27 fl_498 ly_0 rfl ?_
      refine zi_iload1 (pc := 30) hX dX9_say_30 ?_
      refine zi_iload2 (pc := 31) hX dX9_say_31 ?_
      refine zi_iload3 (pc := 32) hX dX9_say_32 ?_
      refine zi_iload4 (pc := 33) hX dX9_say_33 ?_
      refine zi_iload5 (pc := 35) hX dX9_say_35 ?_
      refine zi_callI (zc_virt (pc := 37) hX dX9_say_37 tm_1128 md_X1_add mi_X1_add ly_34 (ct_Le_add hX.sane p1 p2 p3 p4 p5 g6) rfl rfl rfl) (fun v8 g9 => ?_)
      refine zi_if_ne (pc := 40) 55 hX dX9_say_40 (by decide) (fun _ => ?_) (fun _ => ?_)
      · refine zi_drop (le_s (le_n (le_n (le_n (le_n (le_n le_nil)))))) ?_; exact zp_Et_say_43 hX g9
      · refine zi_aload0 (pc := 55) hX dX9_say_55 ?_
        refine zi_getr (q := 48) (pc := 56) hX dX9_say_56 fl_503 ly_0 rfl ?_
        refine zi_callU (zc_virt (pc := 59) hX dX9_say_59 tm_562 md_X0_forget mi_X0_forget ly_48 (ct_Gr_forget hX.sane g9) rfl rfl rfl) (fun g11 => ?_)
        refine zi_aload0 (pc := 62) hX dX9_say_62 ?_
        refine zi_getr (q := 34) (pc := 63) hX dX9_say_63 fl_498 ly_0 rfl ?_
        refine zi_geti (pc := 66) hX dX9_say_66 fl_360 ly_34 rfl ?_
        exact zi_ret (pc := 69) hX dX9_say_69 rfl rfl rfl rfl
theorem ct_Et_say {w : et_W} (hw : et_Sane w) (p1 : Int32) (p2 : Int32) (p3 : Int32) (p4 : Int32) (p5 : Int32) (g : et_G) : et_C w yX9_say (Cond.code yX9_say cX9_say 6 (some .int)) rm_Et_say et_tI [.ref (et_ad w 0), .int p1, .int p2, .int p3, .int p4, .int p5] g (fn_Et_say p1 p2 p3 p4 p5 g) := et_mk hw (by decide) rfl rfl (fun X hX => zw_Et_say hX p1 p2 p3 p4 p5 g)
def rm_Gr_chainOf : Room := { frames := 6, cells := 0, slots := 0, locals := 143 }
def fn_Gr_chainOf (p1 : Int32) (g : et_G) : Option (Int32 × et_G) :=
  et_bd (fn_Gr_settle g) (fun _ g2 =>
  et_ck (et_ib p1 20) (
  some (g2.1 55 p1.toNatClampNeg, g2)))
theorem zw_Gr_chainOf {X : et_X} {w : et_W} (hX : et_Gd X w cX0_chainOf RX0 2 (some .int) [] rm_Gr_chainOf) (p1 : Int32) (g : et_G) : et_Z X w 0 et_eI 0 [some (.ref (et_ad w 48)), some (.int p1)] [] g (fn_Gr_chainOf p1 g) := by
  unfold fn_Gr_chainOf
  refine zi_aload0 (pc := 0) hX dX0_chainOf_0 ?_
  refine zi_callU (zc_virt (pc := 1) hX dX0_chainOf_1 tm_1176 md_X0_settle mi_X0_settle ly_48 (ct_Gr_settle hX.sane g) rfl rfl rfl) (fun g2 => ?_)
  refine zi_aload0 (pc := 4) hX dX0_chainOf_4 ?_
  refine zi_getr (q := 55) (pc := 5) hX dX0_chainOf_5 fl_423 ly_48 rfl ?_
  refine zi_iload1 (pc := 8) hX dX0_chainOf_8 ?_
  refine zi_iald (pc := 9) hX dX0_chainOf_9 ly_55 ?_
  exact zi_ret (pc := 10) hX dX0_chainOf_10 rfl rfl rfl rfl
theorem ct_Gr_chainOf {w : et_W} (hw : et_Sane w) (p1 : Int32) (g : et_G) : et_C w yX0_chainOf (Cond.code yX0_chainOf cX0_chainOf 2 (some .int)) rm_Gr_chainOf et_eI [.ref (et_ad w 48), .int p1] g (fn_Gr_chainOf p1 g) := et_mk hw (by decide) rfl rfl (fun X hX => zw_Gr_chainOf hX p1 g)
def rm_Ja_fill_57 : Room := { frames := 0, cells := 0, slots := 0, locals := 0 }
def fn_Ja_fill_57_5 (x1 : Int32) (x3 : Int32) : Nat → Int32 → et_G → Option (Unit × et_G)
  | 0, _, _ => none
  | n + 1, x2, g =>
    if x3 ≤ x2 then
      some ((), g)
    else
      et_ck (et_ib x2 20) (et_b (et_si g 57 x2.toNatClampNeg x1) (fun g1 =>
      et_b (x2 + (1 : Int32)) (fun v2 =>
      fn_Ja_fill_57_5 x1 x3 n v2 g1)))
def fn_Ja_fill_57 (p1 : Int32) (g : et_G) : Option (Unit × et_G) :=
  fn_Ja_fill_57_5 p1 (20 : Int32) 1000000 (0 : Int32) g
theorem zp_Ja_fill_57_5 {X : et_X} {w : et_W} (hX : et_Gd X w cJ7_fill_53178 RJ7 4 (none) [] rm_Ja_fill_57) (x1 : Int32) (x3 : Int32) : ∀ (n : Nat) (x2 : Int32) (g : et_G), et_Z X w 0 et_eU 5 [some (.ref (et_ad w 57)), some (.int x1), some (.int x2), some (.int x3)] [] g (fn_Ja_fill_57_5 x1 x3 n x2 g) := by
  intro n
  induction n with
  | zero =>
    intro x2 g a g2 h
    cases h
  | succ n ih =>
    intro x2 g
    rw [fn_Ja_fill_57_5]
    refine zi_iload2 (pc := 5) hX dJ7_fill_53178_5 ?_
    refine zi_iload3 (pc := 6) hX dJ7_fill_53178_6 ?_
    refine zi_icmp_ge (pc := 7) 20 hX dJ7_fill_53178_7 (by decide) (fun _ => ?_) (fun _ => ?_)
    · exact zi_vret (pc := 20) hX dJ7_fill_53178_20 rfl rfl rfl
    · refine zi_aload0 (pc := 10) hX dJ7_fill_53178_10 ?_
      refine zi_iload2 (pc := 11) hX dJ7_fill_53178_11 ?_
      refine zi_iload1 (pc := 12) hX dJ7_fill_53178_12 ?_
      refine zi_iast (pc := 13) hX dJ7_fill_53178_13 ly_57 (zi_bg (fun g1 => ?_))
      refine zi_iincb2 (pc := 14) hX dJ7_fill_53178_14 (kn_1 _) rfl rfl (fun v2 => ?_)
      refine zi_goto (pc := 17) 5 hX dJ7_fill_53178_17 (by decide) ?_
      exact ih v2 g1
theorem zw_Ja_fill_57 {X : et_X} {w : et_W} (hX : et_Gd X w cJ7_fill_53178 RJ7 4 (none) [] rm_Ja_fill_57) (p1 : Int32) (g : et_G) : et_Z X w 0 et_eU 0 [some (.ref (et_ad w 57)), some (.int p1), none, none] [] g (fn_Ja_fill_57 p1 g) := by
  unfold fn_Ja_fill_57
  refine zi_iconst (pc := 0) hX dJ7_fill_53178_0 ki_0 ?_
  refine zi_istore2 (pc := 1) hX dJ7_fill_53178_1 rfl rfl ?_
  refine zi_aload0 (pc := 2) hX dJ7_fill_53178_2 ?_
  refine zi_alen (pc := 3) hX dJ7_fill_53178_3 ly_57 0 (et_t0 w) ka_20 ?_
  refine zi_istore3 (pc := 4) hX dJ7_fill_53178_4 rfl rfl ?_
  exact zp_Ja_fill_57_5 hX p1 (20 : Int32) 1000000 (0 : Int32) g
theorem ct_Ja_fill_57 {w : et_W} (hw : et_Sane w) (p1 : Int32) (g : et_G) : et_C w yJ7_fill_53178 (Cond.code yJ7_fill_53178 cJ7_fill_53178 4 (none)) rm_Ja_fill_57 et_eU [.ref (et_ad w 57), .int p1] g (fn_Ja_fill_57 p1 g) := et_mk hw (by decide) rfl rfl (fun X hX => zw_Ja_fill_57 hX p1 g)
def rm_Ja_fill_58 : Room := { frames := 0, cells := 0, slots := 0, locals := 0 }
def fn_Ja_fill_58_5 (x1 : Int32) (x3 : Int32) : Nat → Int32 → et_G → Option (Unit × et_G)
  | 0, _, _ => none
  | n + 1, x2, g =>
    if x3 ≤ x2 then
      some ((), g)
    else
      et_ck (et_ib x2 160) (et_b (et_si g 58 x2.toNatClampNeg x1) (fun g1 =>
      et_b (x2 + (1 : Int32)) (fun v2 =>
      fn_Ja_fill_58_5 x1 x3 n v2 g1)))
def fn_Ja_fill_58 (p1 : Int32) (g : et_G) : Option (Unit × et_G) :=
  fn_Ja_fill_58_5 p1 (160 : Int32) 1000000 (0 : Int32) g
theorem zp_Ja_fill_58_5 {X : et_X} {w : et_W} (hX : et_Gd X w cJ7_fill_53178 RJ7 4 (none) [] rm_Ja_fill_58) (x1 : Int32) (x3 : Int32) : ∀ (n : Nat) (x2 : Int32) (g : et_G), et_Z X w 0 et_eU 5 [some (.ref (et_ad w 58)), some (.int x1), some (.int x2), some (.int x3)] [] g (fn_Ja_fill_58_5 x1 x3 n x2 g) := by
  intro n
  induction n with
  | zero =>
    intro x2 g a g2 h
    cases h
  | succ n ih =>
    intro x2 g
    rw [fn_Ja_fill_58_5]
    refine zi_iload2 (pc := 5) hX dJ7_fill_53178_5 ?_
    refine zi_iload3 (pc := 6) hX dJ7_fill_53178_6 ?_
    refine zi_icmp_ge (pc := 7) 20 hX dJ7_fill_53178_7 (by decide) (fun _ => ?_) (fun _ => ?_)
    · exact zi_vret (pc := 20) hX dJ7_fill_53178_20 rfl rfl rfl
    · refine zi_aload0 (pc := 10) hX dJ7_fill_53178_10 ?_
      refine zi_iload2 (pc := 11) hX dJ7_fill_53178_11 ?_
      refine zi_iload1 (pc := 12) hX dJ7_fill_53178_12 ?_
      refine zi_iast (pc := 13) hX dJ7_fill_53178_13 ly_58 (zi_bg (fun g1 => ?_))
      refine zi_iincb2 (pc := 14) hX dJ7_fill_53178_14 (kn_1 _) rfl rfl (fun v2 => ?_)
      refine zi_goto (pc := 17) 5 hX dJ7_fill_53178_17 (by decide) ?_
      exact ih v2 g1
theorem zw_Ja_fill_58 {X : et_X} {w : et_W} (hX : et_Gd X w cJ7_fill_53178 RJ7 4 (none) [] rm_Ja_fill_58) (p1 : Int32) (g : et_G) : et_Z X w 0 et_eU 0 [some (.ref (et_ad w 58)), some (.int p1), none, none] [] g (fn_Ja_fill_58 p1 g) := by
  unfold fn_Ja_fill_58
  refine zi_iconst (pc := 0) hX dJ7_fill_53178_0 ki_0 ?_
  refine zi_istore2 (pc := 1) hX dJ7_fill_53178_1 rfl rfl ?_
  refine zi_aload0 (pc := 2) hX dJ7_fill_53178_2 ?_
  refine zi_alen (pc := 3) hX dJ7_fill_53178_3 ly_58 0 (et_t0 w) ka_160 ?_
  refine zi_istore3 (pc := 4) hX dJ7_fill_53178_4 rfl rfl ?_
  exact zp_Ja_fill_58_5 hX p1 (160 : Int32) 1000000 (0 : Int32) g
theorem ct_Ja_fill_58 {w : et_W} (hw : et_Sane w) (p1 : Int32) (g : et_G) : et_C w yJ7_fill_53178 (Cond.code yJ7_fill_53178 cJ7_fill_53178 4 (none)) rm_Ja_fill_58 et_eU [.ref (et_ad w 58), .int p1] g (fn_Ja_fill_58 p1 g) := et_mk hw (by decide) rfl rfl (fun X hX => zw_Ja_fill_58 hX p1 g)
