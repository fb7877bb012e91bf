def rm_Mo_placeOf : Room := { frames := 1, cells := 0, slots := 0, locals := 22 }
def fn_Mo_placeOf (p1 : Int32) (g : et_G) : Option (Int32 × et_G) :=
  if (g.1 61 68) = 0 then
    some ((-1 : Int32), g)
  else
    if (((g.1 61 67) >>> (p1 &&& 31)) &&& (1 : Int32)) = 0 then
      some ((-1 : Int32), g)
    else
      et_bd (fn_Mo_bits ((g.1 61 67) &&& (((1 : Int32) <<< (p1 &&& 31)) - (1 : Int32))) g) (fun v1 g2 =>
      some (v1, g2))
theorem zw_Mo_placeOf {X : et_X} {w : et_W} (hX : et_Gd X w cX10_placeOf RX10 2 (some .int) [] rm_Mo_placeOf) (p1 : Int32) (g : et_G) : et_Z X w 0 et_eI 0 [some (.ref (et_ad w 61)), some (.int p1)] [] g (fn_Mo_placeOf p1 g) := by
  unfold fn_Mo_placeOf
  refine zi_aload0 (pc := 0) hX dX10_placeOf_0 ?_
  refine zi_geti (pc := 1) hX dX10_placeOf_1 fl_1416 ly_61 rfl ?_
  refine zi_if_eq (pc := 4) 18 hX dX10_placeOf_4 (by decide) (fun _ => ?_) (fun _ => ?_)
  · refine zi_iconst (pc := 18) hX dX10_placeOf_18 ki_m1 ?_
    refine zi_goto (pc := 19) 35 hX dX10_placeOf_19 (by decide) ?_
    exact zi_ret (pc := 35) hX dX10_placeOf_35 rfl rfl rfl rfl
  · refine zi_aload0 (pc := 7) hX dX10_placeOf_7 ?_
    refine zi_geti (pc := 8) hX dX10_placeOf_8 fl_1415 ly_61 rfl ?_
    refine zi_iload1 (pc := 11) hX dX10_placeOf_11 ?_
    refine zi_ishr (pc := 12) hX dX10_placeOf_12 ?_
    refine zi_iconst (pc := 13) hX dX10_placeOf_13 ki_1 ?_
    refine zi_iand (pc := 14) hX dX10_placeOf_14 ?_
    refine zi_if_ne (pc := 15) 22 hX dX10_placeOf_15 (by decide) (fun _ => ?_) (fun _ => ?_)
    · refine zi_iconst (pc := 18) hX dX10_placeOf_18 ki_m1 ?_
      refine zi_goto (pc := 19) 35 hX dX10_placeOf_19 (by decide) ?_
      exact zi_ret (pc := 35) hX dX10_placeOf_35 rfl rfl rfl rfl
    · refine zi_aload0 (pc := 22) hX dX10_placeOf_22 ?_
      refine zi_geti (pc := 23) hX dX10_placeOf_23 fl_1415 ly_61 rfl ?_
      refine zi_iconst (pc := 26) hX dX10_placeOf_26 ki_1 ?_
      refine zi_iload1 (pc := 27) hX dX10_placeOf_27 ?_
      refine zi_ishl (pc := 28) hX dX10_placeOf_28 ?_
      refine zi_iconst (pc := 29) hX dX10_placeOf_29 ki_1 ?_
      refine zi_isub (pc := 30) hX dX10_placeOf_30 ?_
      refine zi_iand (pc := 31) hX dX10_placeOf_31 ?_
      refine zi_callI (zc_stat (pc := 32) hX dX10_placeOf_32 tm_1686 md_X10_bits st_X10_bits (ct_Mo_bits hX.sane ((g.1 61 67) &&& (((1 : Int32) <<< (p1 &&& 31)) - (1 : Int32))) g) rfl rfl rfl) (fun v1 g2 => ?_)
      exact zi_ret (pc := 35) hX dX10_placeOf_35 rfl rfl rfl rfl
theorem ct_Mo_placeOf {w : et_W} (hw : et_Sane w) (p1 : Int32) (g : et_G) : et_C w yX10_placeOf (Cond.code yX10_placeOf cX10_placeOf 2 (some .int)) rm_Mo_placeOf et_eI [.ref (et_ad w 61), .int p1] g (fn_Mo_placeOf p1 g) := et_mk hw (by decide) rfl rfl (fun X hX => zw_Mo_placeOf hX p1 g)
def rm_Mo_worldsOf : Room := { frames := 2, cells := 0, slots := 0, locals := 43 }
def fn_Mo_worldsOf_36 (r12 : Int32 → Int32 → et_G → Option (Int32 × et_G)) (x2 : Int32) (x3 : Int32) (x5 : Int32) (s0 : Int32) (s1 : Int32) (s2 : Int32) (g : et_G) : Option (Int32 × et_G) :=
  if s1 = s0 then
    et_b (s2 ||| ((1 : Int32) <<< (x5 &&& 31))) (fun v5 =>
    et_b (x5 + (1 : Int32)) (fun v6 =>
    r12 v5 v6 g))
  else
    et_b (s2 ||| (0 : Int32)) (fun v3 =>
    et_b (x5 + (1 : Int32)) (fun v4 =>
    r12 v3 v4 g))
def fn_Mo_worldsOf_12 (x2 : Int32) (x3 : Int32) : Nat → Int32 → Int32 → et_G → Option (Int32 × et_G)
  | 0, _, _, _ => none
  | n + 1, x4, x5, g =>
    if (16 : Int32) ≤ x5 then
      some (x4, g)
    else
      if x2 = 0 then
        fn_Mo_worldsOf_36 (fun z4 z5 g => fn_Mo_worldsOf_12 x2 x3 n z4 z5 g) x2 x3 x5 (1 : Int32) ((x5 >>> (x3 &&& 31)) &&& (1 : Int32)) x4 g
      else
        fn_Mo_worldsOf_36 (fun z4 z5 g => fn_Mo_worldsOf_12 x2 x3 n z4 z5 g) x2 x3 x5 (0 : Int32) ((x5 >>> (x3 &&& 31)) &&& (1 : Int32)) x4 g
def fn_Mo_worldsOf (p1 : Int32) (p2 : Int32) (g : et_G) : Option (Int32 × et_G) :=
  et_bd (fn_Mo_placeOf p1 g) (fun v1 g2 =>
  fn_Mo_worldsOf_12 p2 v1 1000000 (0 : Int32) (0 : Int32) g2)
theorem zp_Mo_worldsOf_36 {X : et_X} {w : et_W} (hX : et_Gd X w cX10_worldsOf RX10 6 (some .int) [] rm_Mo_worldsOf) (r12 : Int32 → Int32 → et_G → Option (Int32 × et_G)) (x2 : Int32) (x3 : Int32) (x5 : Int32) (s0 : Int32) (s1 : Int32) (s2 : Int32) (hr12 : ∀ (y4 : Int32) (y5 : Int32) (g : et_G), et_Z X w 0 et_eI 12 [none, none, some (.int x2), some (.int x3), some (.int y4), some (.int y5)] [] g (r12 y4 y5 g)) (g : et_G) : et_Z X w 0 et_eI 36 [none, none, some (.int x2), some (.int x3), none, some (.int x5)] [.int s0, .int s1, .int s2] g (fn_Mo_worldsOf_36 r12 x2 x3 x5 s0 s1 s2 g) := by
  unfold fn_Mo_worldsOf_36
  refine zi_icmp_ne (pc := 36) 46 hX dX10_worldsOf_36 (by decide) (fun _ => ?_) (fun _ => ?_)
  · refine zi_iconst (pc := 39) hX dX10_worldsOf_39 ki_1 ?_
    refine zi_iload5 (pc := 40) hX dX10_worldsOf_40 ?_
    refine zi_ishl (pc := 42) hX dX10_worldsOf_42 ?_
    refine zi_goto (pc := 43) 47 hX dX10_worldsOf_43 (by decide) ?_
    refine zi_ior (pc := 47) hX dX10_worldsOf_47 ?_
    refine zi_bi (fun v5 => ?_)
    refine zi_istore4 (pc := 48) hX dX10_worldsOf_48 rfl rfl ?_
    refine zi_iincb5 (pc := 50) hX dX10_worldsOf_50 (kn_1 _) rfl rfl (fun v6 => ?_)
    refine zi_goto (pc := 53) 12 hX dX10_worldsOf_53 (by decide) ?_
    exact hr12 v5 v6 g
  · refine zi_iconst (pc := 46) hX dX10_worldsOf_46 ki_0 ?_
    refine zi_ior (pc := 47) hX dX10_worldsOf_47 ?_
    refine zi_bi (fun v3 => ?_)
    refine zi_istore4 (pc := 48) hX dX10_worldsOf_48 rfl rfl ?_
    refine zi_iincb5 (pc := 50) hX dX10_worldsOf_50 (kn_1 _) rfl rfl (fun v4 => ?_)
    refine zi_goto (pc := 53) 12 hX dX10_worldsOf_53 (by decide) ?_
    exact hr12 v3 v4 g
theorem zp_Mo_worldsOf_12 {X : et_X} {w : et_W} (hX : et_Gd X w cX10_worldsOf RX10 6 (some .int) [] rm_Mo_worldsOf) (x2 : Int32) (x3 : Int32) : ∀ (n : Nat) (x4 : Int32) (x5 : Int32) (g : et_G), et_Z X w 0 et_eI 12 [none, none, some (.int x2), some (.int x3), some (.int x4), some (.int x5)] [] g (fn_Mo_worldsOf_12 x2 x3 n x4 x5 g) := by
  intro n
  induction n with
  | zero =>
    intro x4 x5 g a g2 h
    cases h
  | succ n ih =>
    intro x4 x5 g
    rw [fn_Mo_worldsOf_12]
    refine zi_iload5 (pc := 12) hX dX10_worldsOf_12 ?_
    refine zi_bipush (pc := 14) hX dX10_worldsOf_14 kb_16 ?_
    refine zi_icmp_ge (pc := 16) 56 hX dX10_worldsOf_16 (by decide) (fun _ => ?_) (fun _ => ?_)
    · refine zi_iload4 (pc := 56) hX dX10_worldsOf_56 ?_
      exact zi_ret (pc := 58) hX dX10_worldsOf_58 rfl rfl rfl rfl
    · refine zi_iload4 (pc := 19) hX dX10_worldsOf_19 ?_
      refine zi_iload5 (pc := 21) hX dX10_worldsOf_21 ?_
      refine zi_iload3 (pc := 23) hX dX10_worldsOf_23 ?_
      refine zi_ishr (pc := 24) hX dX10_worldsOf_24 ?_
      refine zi_iconst (pc := 25) hX dX10_worldsOf_25 ki_1 ?_
      refine zi_iand (pc := 26) hX dX10_worldsOf_26 ?_
      refine zi_iload2 (pc := 27) hX dX10_worldsOf_27 ?_
      refine zi_if_eq (pc := 28) 35 hX dX10_worldsOf_28 (by decide) (fun _ => ?_) (fun _ => ?_)
      · refine zi_iconst (pc := 35) hX dX10_worldsOf_35 ki_1 ?_
        refine zi_drop (le_s (le_s (le_s (le_s (le_n (le_s le_nil)))))) ?_; exact zp_Mo_worldsOf_36 hX (fun z4 z5 g => fn_Mo_worldsOf_12 x2 x3 n z4 z5 g) x2 x3 x5 (1 : Int32) ((x5 >>> (x3 &&& 31)) &&& (1 : Int32)) x4 (fun z4 z5 g => ih z4 z5 g) g
      · refine zi_iconst (pc := 31) hX dX10_worldsOf_31 ki_0 ?_
        refine zi_goto (pc := 32) 36 hX dX10_worldsOf_32 (by decide) ?_
        refine zi_drop (le_s (le_s (le_s (le_s (le_n (le_s le_nil)))))) ?_; exact zp_Mo_worldsOf_36 hX (fun z4 z5 g => fn_Mo_worldsOf_12 x2 x3 n z4 z5 g) x2 x3 x5 (0 : Int32) ((x5 >>> (x3 &&& 31)) &&& (1 : Int32)) x4 (fun z4 z5 g => ih z4 z5 g) g
theorem zw_Mo_worldsOf {X : et_X} {w : et_W} (hX : et_Gd X w cX10_worldsOf RX10 6 (some .int) [] rm_Mo_worldsOf) (p1 : Int32) (p2 : Int32) (g : et_G) : et_Z X w 0 et_eI 0 [some (.ref (et_ad w 61)), some (.int p1), some (.int p2), none, none, none] [] g (fn_Mo_worldsOf p1 p2 g) := by
  unfold fn_Mo_worldsOf
  refine zi_aload0 (pc := 0) hX dX10_worldsOf_0 ?_
  refine zi_iload1 (pc := 1) hX dX10_worldsOf_1 ?_
  refine zi_callI (zc_virt (pc := 2) hX dX10_worldsOf_2 tm_1871 md_X10_placeOf mi_X10_placeOf ly_61 (ct_Mo_placeOf hX.sane p1 g) rfl rfl rfl) (fun v1 g2 => ?_)
  refine zi_istore3 (pc := 5) hX dX10_worldsOf_5 rfl rfl ?_
  refine zi_iconst (pc := 6) hX dX10_worldsOf_6 ki_0 ?_
  refine zi_istore4 (pc := 7) hX dX10_worldsOf_7 rfl rfl ?_
  refine zi_iconst (pc := 9) hX dX10_worldsOf_9 ki_0 ?_
  refine zi_istore5 (pc := 10) hX dX10_worldsOf_10 rfl rfl ?_
  refine zi_drop (le_n (le_n (le_s (le_s (le_s (le_s le_nil)))))) ?_; exact zp_Mo_worldsOf_12 hX p2 v1 1000000 (0 : Int32) (0 : Int32) g2
theorem ct_Mo_worldsOf {w : et_W} (hw : et_Sane w) (p1 : Int32) (p2 : Int32) (g : et_G) : et_C w yX10_worldsOf (Cond.code yX10_worldsOf cX10_worldsOf 6 (some .int)) rm_Mo_worldsOf et_eI [.ref (et_ad w 61), .int p1, .int p2] g (fn_Mo_worldsOf p1 p2 g) := et_mk hw (by decide) rfl rfl (fun X hX => zw_Mo_worldsOf hX p1 p2 g)
def rm_Mo_low : Room := { frames := 0, cells := 0, slots := 0, locals := 0 }
def fn_Mo_low_23 (x2 : Int32) : Nat → Int32 → et_G → Option (Int32 × et_G)
  | 0, _, _ => none
  | n + 1, x3, g =>
    if ((x2 >>> (x3 &&& 31)) &&& (1 : Int32)) = 0 then
      et_b (x3 + (1 : Int32)) (fun v1 =>
      fn_Mo_low_23 x2 n v1 g)
    else
      some (x3, g)
def fn_Mo_low_4 (x1 : Int32) : Nat → Int32 → Int32 → et_G → Option (Int32 × et_G)
  | 0, _, _, _ => none
  | n + 1, x2, x3, g =>
    if x1 ≤ x3 then
      fn_Mo_low_23 x2 1000000 (0 : Int32) g
    else
      et_b (x2 &&& (x2 - (1 : Int32))) (fun v2 =>
      et_b (x3 + (1 : Int32)) (fun v3 =>
      fn_Mo_low_4 x1 n v2 v3 g))
def fn_Mo_low (p0 : Int32) (p1 : Int32) (g : et_G) : Option (Int32 × et_G) :=
  fn_Mo_low_4 p1 1000000 p0 (0 : Int32) g
theorem zp_Mo_low_23 {X : et_X} {w : et_W} (hX : et_Gd X w cX10_low RX10 4 (some .int) [] rm_Mo_low) (x2 : Int32) : ∀ (n : Nat) (x3 : Int32) (g : et_G), et_Z X w 0 et_eI 23 [none, none, some (.int x2), some (.int x3)] [] g (fn_Mo_low_23 x2 n x3 g) := by
  intro n
  induction n with
  | zero =>
    intro x3 g a g2 h
    cases h
  | succ n ih =>
    intro x3 g
    rw [fn_Mo_low_23]
    refine zi_iload2 (pc := 23) hX dX10_low_23 ?_
    refine zi_iload3 (pc := 24) hX dX10_low_24 ?_
    refine zi_ishr (pc := 25) hX dX10_low_25 ?_
    refine zi_iconst (pc := 26) hX dX10_low_26 ki_1 ?_
    refine zi_iand (pc := 27) hX dX10_low_27 ?_
    refine zi_if_ne (pc := 28) 37 hX dX10_low_28 (by decide) (fun _ => ?_) (fun _ => ?_)
    · refine zi_iincb3 (pc := 31) hX dX10_low_31 (kn_1 _) rfl rfl (fun v1 => ?_)
      refine zi_goto (pc := 34) 23 hX dX10_low_34 (by decide) ?_
      exact ih v1 g
    · refine zi_iload3 (pc := 37) hX dX10_low_37 ?_
      exact zi_ret (pc := 38) hX dX10_low_38 rfl rfl rfl rfl
theorem zp_Mo_low_4 {X : et_X} {w : et_W} (hX : et_Gd X w cX10_low RX10 4 (some .int) [] rm_Mo_low) (x1 : Int32) : ∀ (n : Nat) (x2 : Int32) (x3 : Int32) (g : et_G), et_Z X w 0 et_eI 4 [none, some (.int x1), some (.int x2), some (.int x3)] [] g (fn_Mo_low_4 x1 n x2 x3 g) := by
  intro n
  induction n with
  | zero =>
    intro x2 x3 g a g2 h
    cases h
  | succ n ih =>
    intro x2 x3 g
    rw [fn_Mo_low_4]
    refine zi_iload3 (pc := 4) hX dX10_low_4 ?_
    refine zi_iload1 (pc := 5) hX dX10_low_5 ?_
    refine zi_icmp_ge (pc := 6) 21 hX dX10_low_6 (by decide) (fun _ => ?_) (fun _ => ?_)
    · refine zi_iconst (pc := 21) hX dX10_low_21 ki_0 ?_
      refine zi_istore3 (pc := 22) hX dX10_low_22 rfl rfl ?_
      refine zi_drop (le_s (le_n (le_s (le_s le_nil)))) ?_; exact zp_Mo_low_23 hX x2 1000000 (0 : Int32) g
    · refine zi_iload2 (pc := 9) hX dX10_low_9 ?_
      refine zi_iload2 (pc := 10) hX dX10_low_10 ?_
      refine zi_iconst (pc := 11) hX dX10_low_11 ki_1 ?_
      refine zi_isub (pc := 12) hX dX10_low_12 ?_
      refine zi_iand (pc := 13) hX dX10_low_13 ?_
      refine zi_bi (fun v2 => ?_)
      refine zi_istore2 (pc := 14) hX dX10_low_14 rfl rfl ?_
      refine zi_iincb3 (pc := 15) hX dX10_low_15 (kn_1 _) rfl rfl (fun v3 => ?_)
      refine zi_goto (pc := 18) 4 hX dX10_low_18 (by decide) ?_
      exact ih v2 v3 g
theorem zw_Mo_low {X : et_X} {w : et_W} (hX : et_Gd X w cX10_low RX10 4 (some .int) [] rm_Mo_low) (p0 : Int32) (p1 : Int32) (g : et_G) : et_Z X w 0 et_eI 0 [some (.int p0), some (.int p1), none, none] [] g (fn_Mo_low p0 p1 g) := by
  unfold fn_Mo_low
  refine zi_iload0 (pc := 0) hX dX10_low_0 ?_
  refine zi_istore2 (pc := 1) hX dX10_low_1 rfl rfl ?_
  refine zi_iconst (pc := 2) hX dX10_low_2 ki_0 ?_
  refine zi_istore3 (pc := 3) hX dX10_low_3 rfl rfl ?_
  refine zi_drop (le_n (le_s (le_s (le_s le_nil)))) ?_; exact zp_Mo_low_4 hX p1 1000000 p0 (0 : Int32) g
theorem ct_Mo_low {w : et_W} (hw : et_Sane w) (p0 : Int32) (p1 : Int32) (g : et_G) : et_C w yX10_low (Cond.code yX10_low cX10_low 4 (some .int)) rm_Mo_low et_eI [.int p0, .int p1] g (fn_Mo_low p0 p1 g) := et_mk hw (by decide) rfl rfl (fun X hX => zw_Mo_low hX p0 p1 g)
def rm_Mo_real : Room := { frames := 1, cells := 0, slots := 0, locals := 23 }
def fn_Mo_real_4 : Nat → Int32 → Int32 → et_G → Option (Int32 × et_G)
  | 0, _, _, _ => none
  | n + 1, x1, x2, g =>
    et_bd (fn_Mo_bits (g.1 61 67) g) (fun v1 g2 =>
    if v1 ≤ x2 then
      some (x1, g2)
    else
      et_bd (fn_Mo_low (g2.1 61 67) x2 g2) (fun v3 g4 =>
      et_ck (et_ib (((5 : Int32) * v3) + (4 : Int32)) 40) (
      if (g4.1 66 (((5 : Int32) * v3) + (4 : Int32)).toNatClampNeg) = 0 then
        et_b (x1 ||| ((1 : Int32) <<< (x2 &&& 31))) (fun v7 =>
        et_b (x2 + (1 : Int32)) (fun v8 =>
        fn_Mo_real_4 n v7 v8 g4))
      else
        et_b (x1 ||| (0 : Int32)) (fun v5 =>
        et_b (x2 + (1 : Int32)) (fun v6 =>
        fn_Mo_real_4 n v5 v6 g4)))))
def fn_Mo_real (g : et_G) : Option (Int32 × et_G) :=
  fn_Mo_real_4 1000000 (0 : Int32) (0 : Int32) g
theorem zp_Mo_real_4 {X : et_X} {w : et_W} (hX : et_Gd X w cX10_real RX10 3 (some .int) [] rm_Mo_real) : ∀ (n : Nat) (x1 : Int32) (x2 : Int32) (g : et_G), et_Z X w 0 et_eI 4 [some (.ref (et_ad w 61)), some (.int x1), some (.int x2)] [] g (fn_Mo_real_4 n x1 x2 g) := by
  intro n
  induction n with
  | zero =>
    intro x1 x2 g a g2 h
    cases h
  | succ n ih =>
    intro x1 x2 g
    rw [fn_Mo_real_4]
    refine zi_iload2 (pc := 4) hX dX10_real_4 ?_
    refine zi_aload0 (pc := 5) hX dX10_real_5 ?_
    refine zi_geti (pc := 6) hX dX10_real_6 fl_1415 ly_61 rfl ?_
    refine zi_callI (zc_stat (pc := 9) hX dX10_real_9 tm_1686 md_X10_bits st_X10_bits (ct_Mo_bits hX.sane (g.1 61 67) g) rfl rfl rfl) (fun v1 g2 => ?_)
    refine zi_icmp_ge (pc := 12) 51 hX dX10_real_12 (by decide) (fun _ => ?_) (fun _ => ?_)
    · refine zi_iload1 (pc := 51) hX dX10_real_51 ?_
      exact zi_ret (pc := 52) hX dX10_real_52 rfl rfl rfl rfl
    · refine zi_iload1 (pc := 15) hX dX10_real_15 ?_
      refine zi_aload0 (pc := 16) hX dX10_real_16 ?_
      refine zi_getr (q := 66) (pc := 17) hX dX10_real_17 fl_1359 ly_61 rfl ?_
      refine zi_iconst (pc := 20) hX dX10_real_20 ki_5 ?_
      refine zi_aload0 (pc := 21) hX dX10_real_21 ?_
      refine zi_geti (pc := 22) hX dX10_real_22 fl_1415 ly_61 rfl ?_
      refine zi_iload2 (pc := 25) hX dX10_real_25 ?_
      refine zi_callI (zc_stat (pc := 26) hX dX10_real_26 tm_1887 md_X10_low st_X10_low (ct_Mo_low hX.sane (g2.1 61 67) x2 g2) rfl rfl rfl) (fun v3 g4 => ?_)
      refine zi_imul (pc := 29) hX dX10_real_29 ?_
      refine zi_iconst (pc := 30) hX dX10_real_30 ki_4 ?_
      refine zi_iadd (pc := 31) hX dX10_real_31 ?_
      refine zi_iald (pc := 32) hX dX10_real_32 ly_66 ?_
      refine zi_if_ne (pc := 33) 42 hX dX10_real_33 (by decide) (fun _ => ?_) (fun _ => ?_)
      · refine zi_iconst (pc := 36) hX dX10_real_36 ki_1 ?_
        refine zi_iload2 (pc := 37) hX dX10_real_37 ?_
        refine zi_ishl (pc := 38) hX dX10_real_38 ?_
        refine zi_goto (pc := 39) 43 hX dX10_real_39 (by decide) ?_
        refine zi_ior (pc := 43) hX dX10_real_43 ?_
        refine zi_bi (fun v7 => ?_)
        refine zi_istore1 (pc := 44) hX dX10_real_44 rfl rfl ?_
        refine zi_iincb2 (pc := 45) hX dX10_real_45 (kn_1 _) rfl rfl (fun v8 => ?_)
        refine zi_goto (pc := 48) 4 hX dX10_real_48 (by decide) ?_
        exact ih v7 v8 g4
      · refine zi_iconst (pc := 42) hX dX10_real_42 ki_0 ?_
        refine zi_ior (pc := 43) hX dX10_real_43 ?_
        refine zi_bi (fun v5 => ?_)
        refine zi_istore1 (pc := 44) hX dX10_real_44 rfl rfl ?_
        refine zi_iincb2 (pc := 45) hX dX10_real_45 (kn_1 _) rfl rfl (fun v6 => ?_)
        refine zi_goto (pc := 48) 4 hX dX10_real_48 (by decide) ?_
        exact ih v5 v6 g4
theorem zw_Mo_real {X : et_X} {w : et_W} (hX : et_Gd X w cX10_real RX10 3 (some .int) [] rm_Mo_real) (g : et_G) : et_Z X w 0 et_eI 0 [some (.ref (et_ad w 61)), none, none] [] g (fn_Mo_real g) := by
  unfold fn_Mo_real
  refine zi_iconst (pc := 0) hX dX10_real_0 ki_0 ?_
  refine zi_istore1 (pc := 1) hX dX10_real_1 rfl rfl ?_
  refine zi_iconst (pc := 2) hX dX10_real_2 ki_0 ?_
  refine zi_istore2 (pc := 3) hX dX10_real_3 rfl rfl ?_
  exact zp_Mo_real_4 hX 1000000 (0 : Int32) (0 : Int32) g
theorem ct_Mo_real {w : et_W} (hw : et_Sane w) (g : et_G) : et_C w yX10_real (Cond.code yX10_real cX10_real 3 (some .int)) rm_Mo_real et_eI [.ref (et_ad w 61)] g (fn_Mo_real g) := et_mk hw (by decide) rfl rfl (fun X hX => zw_Mo_real hX g)
def rm_Mo_seenBy : Room := { frames := 1, cells := 0, slots := 0, locals := 23 }
def fn_Mo_seenBy_4 (x1 : Int32) : Nat → Int32 → Int32 → et_G → Option (Int32 × et_G)
  | 0, _, _, _ => none
  | n + 1, x2, x3, g =>
    et_bd (fn_Mo_bits (g.1 61 67) g) (fun v1 g2 =>
    if v1 ≤ x3 then
      some (x2, g2)
    else
      et_bd (fn_Mo_low (g2.1 61 67) x3 g2) (fun v3 g4 =>
      et_ck (et_ib (((5 : Int32) * v3) + (2 : Int32)) 40) (
      et_ck (et_ib (((24 : Int32) * x1) + (g4.1 66 (((5 : Int32) * v3) + (2 : Int32)).toNatClampNeg)) 144) (
      et_ck (et_ib (((5 : Int32) * v3) + (1 : Int32)) 40) (
      if (g4.1 69 (((24 : Int32) * x1) + (g4.1 66 (((5 : Int32) * v3) + (2 : Int32)).toNatClampNeg)).toNatClampNeg) = (g4.1 66 (((5 : Int32) * v3) + (1 : Int32)).toNatClampNeg) then
        et_b (x2 ||| ((1 : Int32) <<< (x3 &&& 31))) (fun v7 =>
        et_b (x3 + (1 : Int32)) (fun v8 =>
        fn_Mo_seenBy_4 x1 n v7 v8 g4))
      else
        et_b (x2 ||| (0 : Int32)) (fun v5 =>
        et_b (x3 + (1 : Int32)) (fun v6 =>
        fn_Mo_seenBy_4 x1 n v5 v6 g4)))))))
def fn_Mo_seenBy (p1 : Int32) (g : et_G) : Option (Int32 × et_G) :=
  fn_Mo_seenBy_4 p1 1000000 (0 : Int32) (0 : Int32) g
theorem zp_Mo_seenBy_4 {X : et_X} {w : et_W} (hX : et_Gd X w cX10_seenBy RX10 5 (some .int) [] rm_Mo_seenBy) (x1 : Int32) : ∀ (n : Nat) (x2 : Int32) (x3 : Int32) (g : et_G), et_Z X w 0 et_eI 4 [some (.ref (et_ad w 61)), some (.int x1), some (.int x2), some (.int x3), none] [] g (fn_Mo_seenBy_4 x1 n x2 x3 g) := by
  intro n
  induction n with
  | zero =>
    intro x2 x3 g a g2 h
    cases h
  | succ n ih =>
    intro x2 x3 g
    rw [fn_Mo_seenBy_4]
    refine zi_iload3 (pc := 4) hX dX10_seenBy_4 ?_
    refine zi_aload0 (pc := 5) hX dX10_seenBy_5 ?_
    refine zi_geti (pc := 6) hX dX10_seenBy_6 fl_1415 ly_61 rfl ?_
    refine zi_callI (zc_stat (pc := 9) hX dX10_seenBy_9 tm_1686 md_X10_bits st_X10_bits (ct_Mo_bits hX.sane (g.1 61 67) g) rfl rfl rfl) (fun v1 g2 => ?_)
    refine zi_icmp_ge (pc := 12) 76 hX dX10_seenBy_12 (by decide) (fun _ => ?_) (fun _ => ?_)
    · refine zi_iload2 (pc := 76) hX dX10_seenBy_76 ?_
      exact zi_ret (pc := 77) hX dX10_seenBy_77 rfl rfl rfl rfl
    · refine zi_aload0 (pc := 15) hX dX10_seenBy_15 ?_
      refine zi_geti (pc := 16) hX dX10_seenBy_16 fl_1415 ly_61 rfl ?_
      refine zi_iload3 (pc := 19) hX dX10_seenBy_19 ?_
      refine zi_callI (zc_stat (pc := 20) hX dX10_seenBy_20 tm_1887 md_X10_low st_X10_low (ct_Mo_low hX.sane (g2.1 61 67) x3 g2) rfl rfl rfl) (fun v3 g4 => ?_)
      refine zi_istore4 (pc := 23) hX dX10_seenBy_23 rfl rfl ?_
      refine zi_iload2 (pc := 25) hX dX10_seenBy_25 ?_
      refine zi_aload0 (pc := 26) hX dX10_seenBy_26 ?_
      refine zi_getr (q := 69) (pc := 27) hX dX10_seenBy_27 fl_1362 ly_61 rfl ?_
      refine zi_bipush (pc := 30) hX dX10_seenBy_30 kb_24 ?_
      refine zi_iload1 (pc := 32) hX dX10_seenBy_32 ?_
      refine zi_imul (pc := 33) hX dX10_seenBy_33 ?_
      refine zi_aload0 (pc := 34) hX dX10_seenBy_34 ?_
      refine zi_getr (q := 66) (pc := 35) hX dX10_seenBy_35 fl_1359 ly_61 rfl ?_
      refine zi_iconst (pc := 38) hX dX10_seenBy_38 ki_5 ?_
      refine zi_iload4 (pc := 39) hX dX10_seenBy_39 ?_
      refine zi_imul (pc := 41) hX dX10_seenBy_41 ?_
      refine zi_iconst (pc := 42) hX dX10_seenBy_42 ki_2 ?_
      refine zi_iadd (pc := 43) hX dX10_seenBy_43 ?_
      refine zi_iald (pc := 44) hX dX10_seenBy_44 ly_66 ?_
      refine zi_iadd (pc := 45) hX dX10_seenBy_45 ?_
      refine zi_iald (pc := 46) hX dX10_seenBy_46 ly_69 ?_
      refine zi_aload0 (pc := 47) hX dX10_seenBy_47 ?_
      refine zi_getr (q := 66) (pc := 48) hX dX10_seenBy_48 fl_1359 ly_61 rfl ?_
      refine zi_iconst (pc := 51) hX dX10_seenBy_51 ki_5 ?_
      refine zi_iload4 (pc := 52) hX dX10_seenBy_52 ?_
      refine zi_imul (pc := 54) hX dX10_seenBy_54 ?_
      refine zi_iconst (pc := 55) hX dX10_seenBy_55 ki_1 ?_
      refine zi_iadd (pc := 56) hX dX10_seenBy_56 ?_
      refine zi_iald (pc := 57) hX dX10_seenBy_57 ly_66 ?_
      refine zi_icmp_ne (pc := 58) 67 hX dX10_seenBy_58 (by decide) (fun _ => ?_) (fun _ => ?_)
      · refine zi_iconst (pc := 61) hX dX10_seenBy_61 ki_1 ?_
        refine zi_iload3 (pc := 62) hX dX10_seenBy_62 ?_
        refine zi_ishl (pc := 63) hX dX10_seenBy_63 ?_
        refine zi_goto (pc := 64) 68 hX dX10_seenBy_64 (by decide) ?_
        refine zi_ior (pc := 68) hX dX10_seenBy_68 ?_
        refine zi_bi (fun v7 => ?_)
        refine zi_istore2 (pc := 69) hX dX10_seenBy_69 rfl rfl ?_
        refine zi_iincb3 (pc := 70) hX dX10_seenBy_70 (kn_1 _) rfl rfl (fun v8 => ?_)
        refine zi_goto (pc := 73) 4 hX dX10_seenBy_73 (by decide) ?_
        refine zi_drop (le_s (le_s (le_s (le_s (le_n le_nil))))) ?_; exact ih v7 v8 g4
      · refine zi_iconst (pc := 67) hX dX10_seenBy_67 ki_0 ?_
        refine zi_ior (pc := 68) hX dX10_seenBy_68 ?_
        refine zi_bi (fun v5 => ?_)
        refine zi_istore2 (pc := 69) hX dX10_seenBy_69 rfl rfl ?_
        refine zi_iincb3 (pc := 70) hX dX10_seenBy_70 (kn_1 _) rfl rfl (fun v6 => ?_)
        refine zi_goto (pc := 73) 4 hX dX10_seenBy_73 (by decide) ?_
        refine zi_drop (le_s (le_s (le_s (le_s (le_n le_nil))))) ?_; exact ih v5 v6 g4
theorem zw_Mo_seenBy {X : et_X} {w : et_W} (hX : et_Gd X w cX10_seenBy RX10 5 (some .int) [] rm_Mo_seenBy) (p1 : Int32) (g : et_G) : et_Z X w 0 et_eI 0 [some (.ref (et_ad w 61)), some (.int p1), none, none, none] [] g (fn_Mo_seenBy p1 g) := by
  unfold fn_Mo_seenBy
  refine zi_iconst (pc := 0) hX dX10_seenBy_0 ki_0 ?_
  refine zi_istore2 (pc := 1) hX dX10_seenBy_1 rfl rfl ?_
  refine zi_iconst (pc := 2) hX dX10_seenBy_2 ki_0 ?_
  refine zi_istore3 (pc := 3) hX dX10_seenBy_3 rfl rfl ?_
  exact zp_Mo_seenBy_4 hX p1 1000000 (0 : Int32) (0 : Int32) g
theorem ct_Mo_seenBy {w : et_W} (hw : et_Sane w) (p1 : Int32) (g : et_G) : et_C w yX10_seenBy (Cond.code yX10_seenBy cX10_seenBy 5 (some .int)) rm_Mo_seenBy et_eI [.ref (et_ad w 61), .int p1] g (fn_Mo_seenBy p1 g) := et_mk hw (by decide) rfl rfl (fun X hX => zw_Mo_seenBy hX p1 g)
def rm_Mo_knows : Room := { frames := 2, cells := 0, slots := 0, locals := 47 }
def fn_Mo_knows_98 (r12 : Int32 → Int32 → et_G → Option (Int32 × et_G)) (x2 : Int32) (x3 : Int32) (x4 : Int32) (x5 : Int32) (x6 : Int32) (g : et_G) : Option (Int32 × et_G) :=
  if x6 = 0 then
    et_b (x4 ||| (0 : Int32)) (fun v3 =>
    et_b (x5 + (1 : Int32)) (fun v4 =>
    r12 v3 v4 g))
  else
    et_b (x4 ||| ((1 : Int32) <<< (x5 &&& 31))) (fun v5 =>
    et_b (x5 + (1 : Int32)) (fun v6 =>
    r12 v5 v6 g))
def fn_Mo_knows_85 (r12 : Int32 → Int32 → et_G → Option (Int32 × et_G)) (r40 : Int32 → Int32 → et_G → Option (Int32 × et_G)) (x2 : Int32) (x3 : Int32) (x4 : Int32) (x5 : Int32) (x7 : Int32) (g : et_G) : Option (Int32 × et_G) :=
  et_b (x7 + (1 : Int32)) (fun v8 =>
  r40 (1 : Int32) v8 g)
def fn_Mo_knows_40 (r12 : Int32 → Int32 → et_G → Option (Int32 × et_G)) (x2 : Int32) (x3 : Int32) (x4 : Int32) (x5 : Int32) : Nat → Int32 → Int32 → et_G → Option (Int32 × et_G)
  | 0, _, _, _ => none
  | n + 1, x6, x7, g =>
    if (16 : Int32) ≤ x7 then
      fn_Mo_knows_98 r12 x2 x3 x4 x5 x6 g
    else
      if x6 = 0 then
        et_b (x7 + (1 : Int32)) (fun v7 =>
        fn_Mo_knows_40 r12 x2 x3 x4 x5 n (0 : Int32) v7 g)
      else
        if (((g.1 61 68) >>> (x7 &&& 31)) &&& (1 : Int32)) = 0 then
          fn_Mo_knows_85 r12 (fun z6 z7 g => fn_Mo_knows_40 r12 x2 x3 x4 x5 n z6 z7 g) x2 x3 x4 x5 x7 g
        else
          if (x7 &&& x3) = (x5 &&& x3) then
            if ((x2 >>> (x7 &&& 31)) &&& (1 : Int32)) = (1 : Int32) then
              fn_Mo_knows_85 r12 (fun z6 z7 g => fn_Mo_knows_40 r12 x2 x3 x4 x5 n z6 z7 g) x2 x3 x4 x5 x7 g
            else
              et_b (x7 + (1 : Int32)) (fun v9 =>
              fn_Mo_knows_40 r12 x2 x3 x4 x5 n (0 : Int32) v9 g)
          else
            fn_Mo_knows_85 r12 (fun z6 z7 g => fn_Mo_knows_40 r12 x2 x3 x4 x5 n z6 z7 g) x2 x3 x4 x5 x7 g
def fn_Mo_knows_12 (x2 : Int32) (x3 : Int32) : Nat → Int32 → Int32 → et_G → Option (Int32 × et_G)
  | 0, _, _, _ => none
  | n + 1, x4, x5, g =>
    if (16 : Int32) ≤ x5 then
      some (x4, g)
    else
      if (((g.1 61 68) >>> (x5 &&& 31)) &&& (1 : Int32)) = 0 then
        et_b (x5 + (1 : Int32)) (fun v10 =>
        fn_Mo_knows_12 x2 x3 n x4 v10 g)
      else
        fn_Mo_knows_40 (fun z4 z5 g => fn_Mo_knows_12 x2 x3 n z4 z5 g) x2 x3 x4 x5 1000000 (1 : Int32) (0 : Int32) g
def fn_Mo_knows (p1 : Int32) (p2 : Int32) (g : et_G) : Option (Int32 × et_G) :=
  et_bd (fn_Mo_seenBy p1 g) (fun v1 g2 =>
  fn_Mo_knows_12 p2 v1 1000000 (0 : Int32) (0 : Int32) g2)
theorem zp_Mo_knows_98 {X : et_X} {w : et_W} (hX : et_Gd X w cX10_knows RX10 8 (some .int) [] rm_Mo_knows) (r12 : Int32 → Int32 → et_G → Option (Int32 × et_G)) (x2 : Int32) (x3 : Int32) (x4 : Int32) (x5 : Int32) (x6 : Int32) (hr12 : ∀ (y4 : Int32) (y5 : Int32) (g : et_G), et_Z X w 0 et_eI 12 [some (.ref (et_ad w 61)), none, some (.int x2), some (.int x3), some (.int y4), some (.int y5), none, none] [] g (r12 y4 y5 g)) (g : et_G) : et_Z X w 0 et_eI 98 [some (.ref (et_ad w 61)), none, some (.int x2), some (.int x3), some (.int x4), some (.int x5), some (.int x6), none] [] g (fn_Mo_knows_98 r12 x2 x3 x4 x5 x6 g) := by
  unfold fn_Mo_knows_98
  refine zi_iload4 (pc := 98) hX dX10_knows_98 ?_
  refine zi_iload6 (pc := 100) hX dX10_knows_100 ?_
  refine zi_if_eq (pc := 102) 112 hX dX10_knows_102 (by decide) (fun _ => ?_) (fun _ => ?_)
  · refine zi_iconst (pc := 112) hX dX10_knows_112 ki_0 ?_
    refine zi_ior (pc := 113) hX dX10_knows_113 ?_
    refine zi_bi (fun v3 => ?_)
    refine zi_istore4 (pc := 114) hX dX10_knows_114 rfl rfl ?_
    refine zi_iincb5 (pc := 116) hX dX10_knows_116 (kn_1 _) rfl rfl (fun v4 => ?_)
    refine zi_goto (pc := 119) 12 hX dX10_knows_119 (by decide) ?_
    refine zi_drop (le_s (le_s (le_s (le_s (le_s (le_s (le_n (le_s le_nil)))))))) ?_; exact hr12 v3 v4 g
  · refine zi_iconst (pc := 105) hX dX10_knows_105 ki_1 ?_
    refine zi_iload5 (pc := 106) hX dX10_knows_106 ?_
    refine zi_ishl (pc := 108) hX dX10_knows_108 ?_
    refine zi_goto (pc := 109) 113 hX dX10_knows_109 (by decide) ?_
    refine zi_ior (pc := 113) hX dX10_knows_113 ?_
    refine zi_bi (fun v5 => ?_)
    refine zi_istore4 (pc := 114) hX dX10_knows_114 rfl rfl ?_
    refine zi_iincb5 (pc := 116) hX dX10_knows_116 (kn_1 _) rfl rfl (fun v6 => ?_)
    refine zi_goto (pc := 119) 12 hX dX10_knows_119 (by decide) ?_
    refine zi_drop (le_s (le_s (le_s (le_s (le_s (le_s (le_n (le_s le_nil)))))))) ?_; exact hr12 v5 v6 g
theorem zp_Mo_knows_85 {X : et_X} {w : et_W} (hX : et_Gd X w cX10_knows RX10 8 (some .int) [] rm_Mo_knows) (r12 : Int32 → Int32 → et_G → Option (Int32 × et_G)) (r40 : Int32 → Int32 → et_G → Option (Int32 × et_G)) (x2 : Int32) (x3 : Int32) (x4 : Int32) (x5 : Int32) (x7 : Int32) (hr12 : ∀ (y4 : Int32) (y5 : Int32) (g : et_G), et_Z X w 0 et_eI 12 [some (.ref (et_ad w 61)), none, some (.int x2), some (.int x3), some (.int y4), some (.int y5), none, none] [] g (r12 y4 y5 g)) (hr40 : ∀ (y6 : Int32) (y7 : Int32) (g : et_G), et_Z X w 0 et_eI 40 [some (.ref (et_ad w 61)), none, some (.int x2), some (.int x3), some (.int x4), some (.int x5), some (.int y6), some (.int y7)] [] g (r40 y6 y7 g)) (g : et_G) : et_Z X w 0 et_eI 85 [some (.ref (et_ad w 61)), none, some (.int x2), some (.int x3), some (.int x4), some (.int x5), none, some (.int x7)] [] g (fn_Mo_knows_85 r12 r40 x2 x3 x4 x5 x7 g) := by
  unfold fn_Mo_knows_85
  refine zi_iconst (pc := 85) hX dX10_knows_85 ki_1 ?_
  refine zi_goto (pc := 86) 90 hX dX10_knows_86 (by decide) ?_
  refine zi_istore6 (pc := 90) hX dX10_knows_90 rfl rfl ?_
  refine zi_iincb7 (pc := 92) hX dX10_knows_92 (kn_1 _) rfl rfl (fun v8 => ?_)
  refine zi_goto (pc := 95) 40 hX dX10_knows_95 (by decide) ?_
  exact hr40 (1 : Int32) v8 g
theorem zp_Mo_knows_40 {X : et_X} {w : et_W} (hX : et_Gd X w cX10_knows RX10 8 (some .int) [] rm_Mo_knows) (r12 : Int32 → Int32 → et_G → Option (Int32 × et_G)) (x2 : Int32) (x3 : Int32) (x4 : Int32) (x5 : Int32) (hr12 : ∀ (y4 : Int32) (y5 : Int32) (g : et_G), et_Z X w 0 et_eI 12 [some (.ref (et_ad w 61)), none, some (.int x2), some (.int x3), some (.int y4), some (.int y5), none, none] [] g (r12 y4 y5 g)) : ∀ (n : Nat) (x6 : Int32) (x7 : Int32) (g : et_G), et_Z X w 0 et_eI 40 [some (.ref (et_ad w 61)), none, some (.int x2), some (.int x3), some (.int x4), some (.int x5), some (.int x6), some (.int x7)] [] g (fn_Mo_knows_40 r12 x2 x3 x4 x5 n x6 x7 g) := by
  intro n
  induction n with
  | zero =>
    intro x6 x7 g a g2 h
    cases h
  | succ n ih =>
    intro x6 x7 g
    rw [fn_Mo_knows_40]
    refine zi_iload7 (pc := 40) hX dX10_knows_40 ?_
    refine zi_bipush (pc := 42) hX dX10_knows_42 kb_16 ?_
    refine zi_icmp_ge (pc := 44) 98 hX dX10_knows_44 (by decide) (fun _ => ?_) (fun _ => ?_)
    · refine zi_drop (le_s (le_s (le_s (le_s (le_s (le_s (le_s (le_n le_nil)))))))) ?_; exact zp_Mo_knows_98 hX r12 x2 x3 x4 x5 x6 hr12 g
    · refine zi_iload6 (pc := 47) hX dX10_knows_47 ?_
      refine zi_if_eq (pc := 49) 89 hX dX10_knows_49 (by decide) (fun _ => ?_) (fun _ => ?_)
      · refine zi_iconst (pc := 89) hX dX10_knows_89 ki_0 ?_
        refine zi_istore6 (pc := 90) hX dX10_knows_90 rfl rfl ?_
        refine zi_iincb7 (pc := 92) hX dX10_knows_92 (kn_1 _) rfl rfl (fun v7 => ?_)
        refine zi_goto (pc := 95) 40 hX dX10_knows_95 (by decide) ?_
        exact ih (0 : Int32) v7 g
      · refine zi_aload0 (pc := 52) hX dX10_knows_52 ?_
        refine zi_geti (pc := 53) hX dX10_knows_53 fl_1416 ly_61 rfl ?_
        refine zi_iload7 (pc := 56) hX dX10_knows_56 ?_
        refine zi_ishr (pc := 58) hX dX10_knows_58 ?_
        refine zi_iconst (pc := 59) hX dX10_knows_59 ki_1 ?_
        refine zi_iand (pc := 60) hX dX10_knows_60 ?_
        refine zi_if_eq (pc := 61) 85 hX dX10_knows_61 (by decide) (fun _ => ?_) (fun _ => ?_)
        · refine zi_drop (le_s (le_s (le_s (le_s (le_s (le_s (le_n (le_s le_nil)))))))) ?_; exact zp_Mo_knows_85 hX r12 (fun z6 z7 g => fn_Mo_knows_40 r12 x2 x3 x4 x5 n z6 z7 g) x2 x3 x4 x5 x7 hr12 (fun z6 z7 g => ih z6 z7 g) g
        · refine zi_iload7 (pc := 64) hX dX10_knows_64 ?_
          refine zi_iload3 (pc := 66) hX dX10_knows_66 ?_
          refine zi_iand (pc := 67) hX dX10_knows_67 ?_
          refine zi_iload5 (pc := 68) hX dX10_knows_68 ?_
          refine zi_iload3 (pc := 70) hX dX10_knows_70 ?_
          refine zi_iand (pc := 71) hX dX10_knows_71 ?_
          refine zi_icmp_ne (pc := 72) 85 hX dX10_knows_72 (by decide) (fun _ => ?_) (fun _ => ?_)
          · refine zi_iload2 (pc := 75) hX dX10_knows_75 ?_
            refine zi_iload7 (pc := 76) hX dX10_knows_76 ?_
            refine zi_ishr (pc := 78) hX dX10_knows_78 ?_
            refine zi_iconst (pc := 79) hX dX10_knows_79 ki_1 ?_
            refine zi_iand (pc := 80) hX dX10_knows_80 ?_
            refine zi_iconst (pc := 81) hX dX10_knows_81 ki_1 ?_
            refine zi_icmp_ne (pc := 82) 89 hX dX10_knows_82 (by decide) (fun _ => ?_) (fun _ => ?_)
            · refine zi_drop (le_s (le_s (le_s (le_s (le_s (le_s (le_n (le_s le_nil)))))))) ?_; exact zp_Mo_knows_85 hX r12 (fun z6 z7 g => fn_Mo_knows_40 r12 x2 x3 x4 x5 n z6 z7 g) x2 x3 x4 x5 x7 hr12 (fun z6 z7 g => ih z6 z7 g) g
            · refine zi_iconst (pc := 89) hX dX10_knows_89 ki_0 ?_
              refine zi_istore6 (pc := 90) hX dX10_knows_90 rfl rfl ?_
              refine zi_iincb7 (pc := 92) hX dX10_knows_92 (kn_1 _) rfl rfl (fun v9 => ?_)
              refine zi_goto (pc := 95) 40 hX dX10_knows_95 (by decide) ?_
              exact ih (0 : Int32) v9 g
          · refine zi_drop (le_s (le_s (le_s (le_s (le_s (le_s (le_n (le_s le_nil)))))))) ?_; exact zp_Mo_knows_85 hX r12 (fun z6 z7 g => fn_Mo_knows_40 r12 x2 x3 x4 x5 n z6 z7 g) x2 x3 x4 x5 x7 hr12 (fun z6 z7 g => ih z6 z7 g) g
theorem zp_Mo_knows_12 {X : et_X} {w : et_W} (hX : et_Gd X w cX10_knows RX10 8 (some .int) [] rm_Mo_knows) (x2 : Int32) (x3 : Int32) : ∀ (n : Nat) (x4 : Int32) (x5 : Int32) (g : et_G), et_Z X w 0 et_eI 12 [some (.ref (et_ad w 61)), none, some (.int x2), some (.int x3), some (.int x4), some (.int x5), none, none] [] g (fn_Mo_knows_12 x2 x3 n x4 x5 g) := by
  intro n
  induction n with
  | zero =>
    intro x4 x5 g a g2 h
    cases h
  | succ n ih =>
    intro x4 x5 g
    rw [fn_Mo_knows_12]
    refine zi_iload5 (pc := 12) hX dX10_knows_12 ?_
    refine zi_bipush (pc := 14) hX dX10_knows_14 kb_16 ?_
    refine zi_icmp_ge (pc := 16) 122 hX dX10_knows_16 (by decide) (fun _ => ?_) (fun _ => ?_)
    · refine zi_iload4 (pc := 122) hX dX10_knows_122 ?_
      exact zi_ret (pc := 124) hX dX10_knows_124 rfl rfl rfl rfl
    · refine zi_aload0 (pc := 19) hX dX10_knows_19 ?_
      refine zi_geti (pc := 20) hX dX10_knows_20 fl_1416 ly_61 rfl ?_
      refine zi_iload5 (pc := 23) hX dX10_knows_23 ?_
      refine zi_ishr (pc := 25) hX dX10_knows_25 ?_
      refine zi_iconst (pc := 26) hX dX10_knows_26 ki_1 ?_
      refine zi_iand (pc := 27) hX dX10_knows_27 ?_
      refine zi_if_ne (pc := 28) 34 hX dX10_knows_28 (by decide) (fun _ => ?_) (fun _ => ?_)
      · refine zi_goto (pc := 31) 116 hX dX10_knows_31 (by decide) ?_
        refine zi_iincb5 (pc := 116) hX dX10_knows_116 (kn_1 _) rfl rfl (fun v10 => ?_)
        refine zi_goto (pc := 119) 12 hX dX10_knows_119 (by decide) ?_
        exact ih x4 v10 g
      · refine zi_iconst (pc := 34) hX dX10_knows_34 ki_1 ?_
        refine zi_istore6 (pc := 35) hX dX10_knows_35 rfl rfl ?_
        refine zi_iconst (pc := 37) hX dX10_knows_37 ki_0 ?_
        refine zi_istore7 (pc := 38) hX dX10_knows_38 rfl rfl ?_
        exact zp_Mo_knows_40 hX (fun z4 z5 g => fn_Mo_knows_12 x2 x3 n z4 z5 g) x2 x3 x4 x5 (fun z4 z5 g => ih z4 z5 g) 1000000 (1 : Int32) (0 : Int32) g
theorem zw_Mo_knows {X : et_X} {w : et_W} (hX : et_Gd X w cX10_knows RX10 8 (some .int) [] rm_Mo_knows) (p1 : Int32) (p2 : Int32) (g : et_G) : et_Z X w 0 et_eI 0 [some (.ref (et_ad w 61)), some (.int p1), some (.int p2), none, none, none, none, none] [] g (fn_Mo_knows p1 p2 g) := by
  unfold fn_Mo_knows
  refine zi_aload0 (pc := 0) hX dX10_knows_0 ?_
  refine zi_iload1 (pc := 1) hX dX10_knows_1 ?_
  refine zi_callI (zc_virt (pc := 2) hX dX10_knows_2 tm_1883 md_X10_seenBy mi_X10_seenBy ly_61 (ct_Mo_seenBy hX.sane p1 g) rfl rfl rfl) (fun v1 g2 => ?_)
  refine zi_istore3 (pc := 5) hX dX10_knows_5 rfl rfl ?_
  refine zi_iconst (pc := 6) hX dX10_knows_6 ki_0 ?_
  refine zi_istore4 (pc := 7) hX dX10_knows_7 rfl rfl ?_
  refine zi_iconst (pc := 9) hX dX10_knows_9 ki_0 ?_
  refine zi_istore5 (pc := 10) hX dX10_knows_10 rfl rfl ?_
  refine zi_drop (le_s (le_n (le_s (le_s (le_s (le_s (le_s (le_s le_nil)))))))) ?_; exact zp_Mo_knows_12 hX p2 v1 1000000 (0 : Int32) (0 : Int32) g2
theorem ct_Mo_knows {w : et_W} (hw : et_Sane w) (p1 : Int32) (p2 : Int32) (g : et_G) : et_C w yX10_knows (Cond.code yX10_knows cX10_knows 8 (some .int)) rm_Mo_knows et_eI [.ref (et_ad w 61), .int p1, .int p2] g (fn_Mo_knows p1 p2 g) := et_mk hw (by decide) rfl rfl (fun X hX => zw_Mo_knows hX p1 p2 g)
def rm_Mo_known : Room := { frames := 3, cells := 0, slots := 0, locals := 74 }
def fn_Mo_known_128 (x5 : Int32) (g : et_G) : Option (Int32 × et_G) :=
  et_bd (fn_Mo_real g) (fun v13 g14 =>
  if ((x5 >>> (v13 &&& 31)) &&& (1 : Int32)) = (1 : Int32) then
    some ((1 : Int32), g14)
  else
    some ((0 : Int32), g14))
def fn_Mo_known_100 (x1 : Int32) : Nat → Int32 → Int32 → et_G → Option (Int32 × et_G)
  | 0, _, _, _ => none
  | n + 1, x5, x6, g =>
    if x6 < 0 then
      fn_Mo_known_128 x5 g
    else
      et_bd (fn_Mo_knows ((x1 >>> (((3 : Int32) * x6) &&& 31)) &&& (7 : Int32)) x5 g) (fun v15 g16 =>
      et_b (x6 + (-1 : Int32)) (fun v17 =>
      fn_Mo_known_100 x1 n v15 v17 g16))
def fn_Mo_known_75 (x1 : Int32) (x2 : Int32) (x3 : Int32) (x4 : Int32) (g : et_G) : Option (Int32 × et_G) :=
  et_bd (fn_Mo_placeOf x3 g) (fun v8 g9 =>
  if v8 = (-1 : Int32) then
    some ((0 : Int32), g9)
  else
    et_bd (fn_Mo_worldsOf x3 x4 g9) (fun v10 g11 =>
    et_b (x2 - (1 : Int32)) (fun v12 =>
    fn_Mo_known_100 x1 1000000 v10 v12 g11)))
def fn_Mo_known_60 (r32 : Int32 → et_G → Option (Int32 × et_G)) (x1 : Int32) (x2 : Int32) (x3 : Int32) (x4 : Int32) (x5 : Int32) (s0 : Int32) (g : et_G) : Option (Int32 × et_G) :=
  et_bd (fn_Mo_right s0 (2 : Int32) g) (fun v18 g19 =>
  if v18 = 0 then
    some ((0 : Int32), g19)
  else
    et_b (x5 + (1 : Int32)) (fun v20 =>
    r32 v20 g19))
def fn_Mo_known_32 (x1 : Int32) (x2 : Int32) (x3 : Int32) (x4 : Int32) : Nat → Int32 → et_G → Option (Int32 × et_G)
  | 0, _, _ => none
  | n + 1, x5, g =>
    if x2 ≤ x5 then
      fn_Mo_known_75 x1 x2 x3 x4 g
    else
      if (g.1 61 4) ≤ ((x1 >>> (((3 : Int32) * x5) &&& 31)) &&& (7 : Int32)) then
        fn_Mo_known_60 (fun z5 g => fn_Mo_known_32 x1 x2 x3 x4 n z5 g) x1 x2 x3 x4 x5 (0 : Int32) g
      else
        fn_Mo_known_60 (fun z5 g => fn_Mo_known_32 x1 x2 x3 x4 n z5 g) x1 x2 x3 x4 x5 (1 : Int32) g
def fn_Mo_known (p1 : Int32) (p2 : Int32) (p3 : Int32) (p4 : Int32) (g : et_G) : Option (Int32 × et_G) :=
  et_b (et_si g 61 0 (0 : Int32)) (fun g1 =>
  et_bd (fn_Mo_isThing p3 g1) (fun v2 g3 =>
  if v2 = 0 then
    some ((0 : Int32), g3)
  else
    et_bd (fn_Mo_within p2 (1 : Int32) (4 : Int32) g3) (fun v4 g5 =>
    et_bd (fn_Mo_right v4 (2 : Int32) g5) (fun v6 g7 =>
    if v6 = 0 then
      some ((0 : Int32), g7)
    else
      fn_Mo_known_32 p1 p2 p3 p4 1000000 (0 : Int32) g7))))
theorem zp_Mo_known_128 {X : et_X} {w : et_W} (hX : et_Gd X w cX10_known RX10 7 (some .boolean) [] rm_Mo_known) (x5 : Int32) (g : et_G) : et_Z X w 0 et_eI 128 [some (.ref (et_ad w 61)), none, none, none, none, some (.int x5), none] [] g (fn_Mo_known_128 x5 g) := by
  unfold fn_Mo_known_128
  refine zi_iload5 (pc := 128) hX dX10_known_128 ?_
  refine zi_aload0 (pc := 130) hX dX10_known_130 ?_
  refine zi_callI (zc_virt (pc := 131) hX dX10_known_131 tm_1890 md_X10_real mi_X10_real ly_61 (ct_Mo_real hX.sane g) rfl rfl rfl) (fun v13 g14 => ?_)
  refine zi_ishr (pc := 134) hX dX10_known_134 ?_
  refine zi_iconst (pc := 135) hX dX10_known_135 ki_1 ?_
  refine zi_iand (pc := 136) hX dX10_known_136 ?_
  refine zi_iconst (pc := 137) hX dX10_known_137 ki_1 ?_
  refine zi_icmp_ne (pc := 138) 145 hX dX10_known_138 (by decide) (fun _ => ?_) (fun _ => ?_)
  · refine zi_iconst (pc := 141) hX dX10_known_141 ki_1 ?_
    refine zi_goto (pc := 142) 146 hX dX10_known_142 (by decide) ?_
    exact zi_ret (pc := 146) hX dX10_known_146 et_z1 rfl rfl rfl
  · refine zi_iconst (pc := 145) hX dX10_known_145 ki_0 ?_
    exact zi_ret (pc := 146) hX dX10_known_146 et_z0 rfl rfl rfl
theorem zp_Mo_known_100 {X : et_X} {w : et_W} (hX : et_Gd X w cX10_known RX10 7 (some .boolean) [] rm_Mo_known) (x1 : Int32) : ∀ (n : Nat) (x5 : Int32) (x6 : Int32) (g : et_G), et_Z X w 0 et_eI 100 [some (.ref (et_ad w 61)), some (.int x1), none, none, none, some (.int x5), some (.int x6)] [] g (fn_Mo_known_100 x1 n x5 x6 g) := by
  intro n
  induction n with
  | zero =>
    intro x5 x6 g a g2 h
    cases h
  | succ n ih =>
    intro x5 x6 g
    rw [fn_Mo_known_100]
    refine zi_iload6 (pc := 100) hX dX10_known_100 ?_
    refine zi_if_lt (pc := 102) 128 hX dX10_known_102 (by decide) (fun _ => ?_) (fun _ => ?_)
    · refine zi_drop (le_s (le_n (le_s (le_s (le_s (le_s (le_n le_nil))))))) ?_; exact zp_Mo_known_128 hX x5 g
    · refine zi_aload0 (pc := 105) hX dX10_known_105 ?_
      refine zi_iload1 (pc := 106) hX dX10_known_106 ?_
      refine zi_iconst (pc := 107) hX dX10_known_107 ki_3 ?_
      refine zi_iload6 (pc := 108) hX dX10_known_108 ?_
      refine zi_imul (pc := 110) hX dX10_known_110 ?_
      refine zi_ishr (pc := 111) hX dX10_known_111 ?_
      refine zi_bipush (pc := 112) hX dX10_known_112 kb_7 ?_
      refine zi_iand (pc := 114) hX dX10_known_114 ?_
      refine zi_iload5 (pc := 115) hX dX10_known_115 ?_
      refine zi_callI (zc_virt (pc := 117) hX dX10_known_117 tm_1879 md_X10_knows mi_X10_knows ly_61 (ct_Mo_knows hX.sane ((x1 >>> (((3 : Int32) * x6) &&& 31)) &&& (7 : Int32)) x5 g) rfl rfl rfl) (fun v15 g16 => ?_)
      refine zi_istore5 (pc := 120) hX dX10_known_120 rfl rfl ?_
      refine zi_iincb6 (pc := 122) hX dX10_known_122 (kn_m1 _) rfl rfl (fun v17 => ?_)
      refine zi_goto (pc := 125) 100 hX dX10_known_125 (by decide) ?_
      exact ih v15 v17 g16
theorem zp_Mo_known_75 {X : et_X} {w : et_W} (hX : et_Gd X w cX10_known RX10 7 (some .boolean) [] rm_Mo_known) (x1 : Int32) (x2 : Int32) (x3 : Int32) (x4 : Int32) (g : et_G) : et_Z X w 0 et_eI 75 [some (.ref (et_ad w 61)), some (.int x1), some (.int x2), some (.int x3), some (.int x4), none, none] [] g (fn_Mo_known_75 x1 x2 x3 x4 g) := by
  unfold fn_Mo_known_75
  refine zi_aload0 (pc := 75) hX dX10_known_75 ?_
  refine zi_iload3 (pc := 76) hX dX10_known_76 ?_
  refine zi_callI (zc_virt (pc := 77) hX dX10_known_77 tm_1871 md_X10_placeOf mi_X10_placeOf ly_61 (ct_Mo_placeOf hX.sane x3 g) rfl rfl rfl) (fun v8 g9 => ?_)
  refine zi_iconst (pc := 80) hX dX10_known_80 ki_m1 ?_
  refine zi_icmp_ne (pc := 81) 86 hX dX10_known_81 (by decide) (fun _ => ?_) (fun _ => ?_)
  · refine zi_iconst (pc := 84) hX dX10_known_84 ki_0 ?_
    exact zi_ret (pc := 85) hX dX10_known_85 et_z0 rfl rfl rfl
  · refine zi_aload0 (pc := 86) hX dX10_known_86 ?_
    refine zi_iload3 (pc := 87) hX dX10_known_87 ?_
    refine zi_iload4 (pc := 88) hX dX10_known_88 ?_
    refine zi_callI (zc_virt (pc := 90) hX dX10_known_90 tm_1875 md_X10_worldsOf mi_X10_worldsOf ly_61 (ct_Mo_worldsOf hX.sane x3 x4 g9) rfl rfl rfl) (fun v10 g11 => ?_)
    refine zi_istore5 (pc := 93) hX dX10_known_93 rfl rfl ?_
    refine zi_iload2 (pc := 95) hX dX10_known_95 ?_
    refine zi_iconst (pc := 96) hX dX10_known_96 ki_1 ?_
    refine zi_isub (pc := 97) hX dX10_known_97 ?_
    refine zi_bi (fun v12 => ?_)
    refine zi_istore6 (pc := 98) hX dX10_known_98 rfl rfl ?_
    refine zi_drop (le_s (le_s (le_n (le_n (le_n (le_s (le_s le_nil))))))) ?_; exact zp_Mo_known_100 hX x1 1000000 v10 v12 g11
theorem zp_Mo_known_60 {X : et_X} {w : et_W} (hX : et_Gd X w cX10_known RX10 7 (some .boolean) [] rm_Mo_known) (r32 : Int32 → et_G → Option (Int32 × et_G)) (x1 : Int32) (x2 : Int32) (x3 : Int32) (x4 : Int32) (x5 : Int32) (s0 : Int32) (hr32 : ∀ (y5 : Int32) (g : et_G), et_Z X w 0 et_eI 32 [some (.ref (et_ad w 61)), some (.int x1), some (.int x2), some (.int x3), some (.int x4), some (.int y5), none] [] g (r32 y5 g)) (g : et_G) : et_Z X w 0 et_eI 60 [some (.ref (et_ad w 61)), some (.int x1), some (.int x2), some (.int x3), some (.int x4), some (.int x5), none] [.int s0, .ref (et_ad w 61)] g (fn_Mo_known_60 r32 x1 x2 x3 x4 x5 s0 g) := by
  unfold fn_Mo_known_60
  refine zi_iconst (pc := 60) hX dX10_known_60 ki_2 ?_
  refine zi_callI (zc_virt (pc := 61) hX dX10_known_61 tm_1587 md_X10_right mi_X10_right ly_61 (ct_Mo_right hX.sane s0 (2 : Int32) g) rfl rfl rfl) (fun v18 g19 => ?_)
  refine zi_if_ne (pc := 64) 69 hX dX10_known_64 (by decide) (fun _ => ?_) (fun _ => ?_)
  · refine zi_iconst (pc := 67) hX dX10_known_67 ki_0 ?_
    exact zi_ret (pc := 68) hX dX10_known_68 et_z0 rfl rfl rfl
  · refine zi_iincb5 (pc := 69) hX dX10_known_69 (kn_1 _) rfl rfl (fun v20 => ?_)
    refine zi_goto (pc := 72) 32 hX dX10_known_72 (by decide) ?_
    exact hr32 v20 g19
theorem zp_Mo_known_32 {X : et_X} {w : et_W} (hX : et_Gd X w cX10_known RX10 7 (some .boolean) [] rm_Mo_known) (x1 : Int32) (x2 : Int32) (x3 : Int32) (x4 : Int32) : ∀ (n : Nat) (x5 : Int32) (g : et_G), et_Z X w 0 et_eI 32 [some (.ref (et_ad w 61)), some (.int x1), some (.int x2), some (.int x3), some (.int x4), some (.int x5), none] [] g (fn_Mo_known_32 x1 x2 x3 x4 n x5 g) := by
  intro n
  induction n with
  | zero =>
    intro x5 g a g2 h
    cases h
  | succ n ih =>
    intro x5 g
    rw [fn_Mo_known_32]
    refine zi_iload5 (pc := 32) hX dX10_known_32 ?_
    refine zi_iload2 (pc := 34) hX dX10_known_34 ?_
    refine zi_icmp_ge (pc := 35) 75 hX dX10_known_35 (by decide) (fun _ => ?_) (fun _ => ?_)
    · refine zi_drop (le_s (le_s (le_s (le_s (le_s (le_n (le_s le_nil))))))) ?_; exact zp_Mo_known_75 hX x1 x2 x3 x4 g
    · refine zi_aload0 (pc := 38) hX dX10_known_38 ?_
      refine zi_iload1 (pc := 39) hX dX10_known_39 ?_
      refine zi_iconst (pc := 40) hX dX10_known_40 ki_3 ?_
      refine zi_iload5 (pc := 41) hX dX10_known_41 ?_
      refine zi_imul (pc := 43) hX dX10_known_43 ?_
      refine zi_ishr (pc := 44) hX dX10_known_44 ?_
      refine zi_bipush (pc := 45) hX dX10_known_45 kb_7 ?_
      refine zi_iand (pc := 47) hX dX10_known_47 ?_
      refine zi_aload0 (pc := 48) hX dX10_known_48 ?_
      refine zi_geti (pc := 49) hX dX10_known_49 fl_1352 ly_61 rfl ?_
      refine zi_icmp_ge (pc := 52) 59 hX dX10_known_52 (by decide) (fun _ => ?_) (fun _ => ?_)
      · refine zi_iconst (pc := 59) hX dX10_known_59 ki_0 ?_
        exact zp_Mo_known_60 hX (fun z5 g => fn_Mo_known_32 x1 x2 x3 x4 n z5 g) x1 x2 x3 x4 x5 (0 : Int32) (fun z5 g => ih z5 g) g
      · refine zi_iconst (pc := 55) hX dX10_known_55 ki_1 ?_
        refine zi_goto (pc := 56) 60 hX dX10_known_56 (by decide) ?_
        exact zp_Mo_known_60 hX (fun z5 g => fn_Mo_known_32 x1 x2 x3 x4 n z5 g) x1 x2 x3 x4 x5 (1 : Int32) (fun z5 g => ih z5 g) g
theorem zw_Mo_known {X : et_X} {w : et_W} (hX : et_Gd X w cX10_known RX10 7 (some .boolean) [] rm_Mo_known) (p1 : Int32) (p2 : Int32) (p3 : Int32) (p4 : Int32) (g : et_G) : et_Z X w 0 et_eI 0 [some (.ref (et_ad w 61)), some (.int p1), some (.int p2), some (.int p3), some (.int p4), none, none] [] g (fn_Mo_known p1 p2 p3 p4 g) := by
  unfold fn_Mo_known
  refine zi_aload0 (pc := 0) hX dX10_known_0 ?_
  refine zi_iconst (pc := 1) hX dX10_known_1 ki_0 ?_
  refine zi_puti (pc := 2) hX dX10_known_2 fl_1348 ly_61 rfl rfl rfl (zi_bg (fun g1 => ?_))
  refine zi_aload0 (pc := 5) hX dX10_known_5 ?_
  refine zi_iload3 (pc := 6) hX dX10_known_6 ?_
  refine zi_callI (zc_virt (pc := 7) hX dX10_known_7 tm_1701 md_X10_isThing mi_X10_isThing ly_61 (ct_Mo_isThing hX.sane p3 g1) rfl rfl rfl) (fun v2 g3 => ?_)
  refine zi_if_eq (pc := 10) 27 hX dX10_known_10 (by decide) (fun _ => ?_) (fun _ => ?_)
  · refine zi_iconst (pc := 27) hX dX10_known_27 ki_0 ?_
    exact zi_ret (pc := 28) hX dX10_known_28 et_z0 rfl rfl rfl
  · refine zi_aload0 (pc := 13) hX dX10_known_13 ?_
    refine zi_iload2 (pc := 14) hX dX10_known_14 ?_
    refine zi_iconst (pc := 15) hX dX10_known_15 ki_1 ?_
    refine zi_iconst (pc := 16) hX dX10_known_16 ki_4 ?_
    refine zi_callI (zc_stat (pc := 17) hX dX10_known_17 tm_1683 md_X10_within st_X10_within (ct_Mo_within hX.sane p2 (1 : Int32) (4 : Int32) g3) rfl rfl rfl) (fun v4 g5 => ?_)
    refine zi_iconst (pc := 20) hX dX10_known_20 ki_2 ?_
    refine zi_callI (zc_virt (pc := 21) hX dX10_known_21 tm_1587 md_X10_right mi_X10_right ly_61 (ct_Mo_right hX.sane v4 (2 : Int32) g5) rfl rfl rfl) (fun v6 g7 => ?_)
    refine zi_if_ne (pc := 24) 29 hX dX10_known_24 (by decide) (fun _ => ?_) (fun _ => ?_)
    · refine zi_iconst (pc := 27) hX dX10_known_27 ki_0 ?_
      exact zi_ret (pc := 28) hX dX10_known_28 et_z0 rfl rfl rfl
    · refine zi_iconst (pc := 29) hX dX10_known_29 ki_0 ?_
      refine zi_istore5 (pc := 30) hX dX10_known_30 rfl rfl ?_
      exact zp_Mo_known_32 hX p1 p2 p3 p4 1000000 (0 : Int32) g7
theorem ct_Mo_known {w : et_W} (hw : et_Sane w) (p1 : Int32) (p2 : Int32) (p3 : Int32) (p4 : Int32) (g : et_G) : et_C w yX10_known (Cond.code yX10_known cX10_known 7 (some .boolean)) rm_Mo_known et_eI [.ref (et_ad w 61), .int p1, .int p2, .int p3, .int p4] g (fn_Mo_known p1 p2 p3 p4 g) := et_mk hw (by decide) rfl rfl (fun X hX => zw_Mo_known hX p1 p2 p3 p4 g)
def rm_Mo_likely : Room := { frames := 2, cells := 0, slots := 0, locals := 44 }
def fn_Mo_likely_127 (r31 : Int64 → Int32 → et_G → Option (Int32 × et_G)) (x1 : Int32) (x2 : Int32) (x3 : Int64) (x5 : Int32) (s0 : Int64) (g : et_G) : Option (Int32 × et_G) :=
  et_bd (fn_Mo_of x5 (3 : Int32) g) (fun v18 g19 =>
  et_ck (et_ib ((2 : Int32) * v18) 10) (
  et_b (s0 * ((g19.1 70 ((2 : Int32) * v18).toNatClampNeg).toInt64)) (fun v20 =>
  et_bd (fn_Mo_of x5 (3 : Int32) g19) (fun v21 g22 =>
  et_ck (et_ib (((2 : Int32) * v21) + (1 : Int32)) 10) (
  et_b (v20 + (((1000000 : Int64) - s0) * ((g22.1 70 (((2 : Int32) * v21) + (1 : Int32)).toNatClampNeg).toInt64))) (fun v23 =>
  if (lg_cmp v23 (0 : Int64)) = 0 then
    et_b (x5 + (1 : Int32)) (fun v30 =>
    r31 x3 v30 g22)
  else
    et_ck (!decide (v23 = 0)) (
    et_b ((v20 * (1000000 : Int64)) / v23) (fun v24 =>
    et_bd (fn_Mo_of x5 (4 : Int32) g22) (fun v25 g26 =>
    if v25 = (1 : Int32) then
      et_b ((1000000 : Int64) - v24) (fun v28 =>
      et_b (x5 + (1 : Int32)) (fun v29 =>
      r31 v28 v29 g26))
    else
      et_b (x5 + (1 : Int32)) (fun v27 =>
      r31 v24 v27 g26))))))))))
def fn_Mo_likely_31 (x1 : Int32) (x2 : Int32) : Nat → Int64 → Int32 → et_G → Option (Int32 × et_G)
  | 0, _, _, _ => none
  | n + 1, x3, x5, g =>
    if (g.1 61 50) ≤ x5 then
      some (x3.toInt32, g)
    else
      et_bd (fn_Mo_of x5 (1 : Int32) g) (fun v6 g7 =>
      et_bd (fn_Mo_of x5 (2 : Int32) g7) (fun v8 g9 =>
      if v8 = x2 then
        et_bd (fn_Mo_of x5 (0 : Int32) g9) (fun v11 g12 =>
        if v11 = x1 then
          et_b (x5 + (1 : Int32)) (fun v13 =>
          fn_Mo_likely_31 x1 x2 n x3 v13 g12)
        else
          et_ck (et_ib (((24 : Int32) * x1) + v6) 144) (
          et_bd (fn_Mo_of x5 (0 : Int32) g12) (fun v14 g15 =>
          et_ck (et_ib (((24 : Int32) * v14) + v6) 144) (
          if (g12.1 69 (((24 : Int32) * x1) + v6).toNatClampNeg) = (g15.1 69 (((24 : Int32) * v14) + v6).toNatClampNeg) then
            et_bd (fn_Mo_of x5 (4 : Int32) g15) (fun v16 g17 =>
            if v16 = (1 : Int32) then
              fn_Mo_likely_127 (fun z3 z5 g => fn_Mo_likely_31 x1 x2 n z3 z5 g) x1 x2 x3 x5 ((1000000 : Int64) - x3) g17
            else
              fn_Mo_likely_127 (fun z3 z5 g => fn_Mo_likely_31 x1 x2 n z3 z5 g) x1 x2 x3 x5 x3 g17)
          else
            et_b (x5 + (1 : Int32)) (fun v31 =>
            fn_Mo_likely_31 x1 x2 n x3 v31 g15)))))
      else
        et_b (x5 + (1 : Int32)) (fun v10 =>
        fn_Mo_likely_31 x1 x2 n x3 v10 g9)))
def fn_Mo_likely (p1 : Int32) (p2 : Int32) (g : et_G) : Option (Int32 × et_G) :=
  et_b (et_si g 61 0 (0 : Int32)) (fun g1 =>
  et_bd (fn_Mo_isWho p1 (0 : Int32) g1) (fun v2 g3 =>
  if v2 = 0 then
    some ((0 : Int32), g3)
  else
    et_bd (fn_Mo_isThing p2 g3) (fun v4 g5 =>
    if v4 = 0 then
      some ((0 : Int32), g5)
    else
      fn_Mo_likely_31 p1 p2 1000000 (500000 : Int64) (0 : Int32) g5)))
theorem zp_Mo_likely_127 {X : et_X} {w : et_W} (hX : et_Gd X w cX10_likely RX10 13 (some .int) [] rm_Mo_likely) (r31 : Int64 → Int32 → et_G → Option (Int32 × et_G)) (x1 : Int32) (x2 : Int32) (x3 : Int64) (x5 : Int32) (s0 : Int64) (hr31 : ∀ (y3 : Int64) (y5 : Int32) (g : et_G), et_Z X w 0 et_eI 31 [some (.ref (et_ad w 61)), some (.int x1), some (.int x2), some (.long y3), none, some (.int y5), none, none, none, none, none, none, none] [] g (r31 y3 y5 g)) (g : et_G) : et_Z X w 0 et_eI 127 [some (.ref (et_ad w 61)), some (.int x1), some (.int x2), some (.long x3), none, some (.int x5), none, none, none, none, none, none, none] [.long s0] g (fn_Mo_likely_127 r31 x1 x2 x3 x5 s0 g) := by
  unfold fn_Mo_likely_127
  refine zi_lstore7 (pc := 127) hX dX10_likely_127 rfl rfl ?_
  refine zi_lload7 (pc := 129) hX dX10_likely_129 ?_
  refine zi_aload0 (pc := 131) hX dX10_likely_131 ?_
  refine zi_getr (q := 70) (pc := 132) hX dX10_likely_132 fl_1363 ly_61 rfl ?_
  refine zi_iconst (pc := 135) hX dX10_likely_135 ki_2 ?_
  refine zi_aload0 (pc := 136) hX dX10_likely_136 ?_
  refine zi_iload5 (pc := 137) hX dX10_likely_137 ?_
  refine zi_iconst (pc := 139) hX dX10_likely_139 ki_3 ?_
  refine zi_callI (zc_virt (pc := 140) hX dX10_likely_140 tm_1773 md_X10_of mi_X10_of ly_61 (ct_Mo_of hX.sane x5 (3 : Int32) g) rfl rfl rfl) (fun v18 g19 => ?_)
  refine zi_imul (pc := 143) hX dX10_likely_143 ?_
  refine zi_iald (pc := 144) hX dX10_likely_144 ly_70 ?_
  refine zi_i2l (pc := 145) hX dX10_likely_145 ?_
  refine zi_lmul (pc := 146) hX dX10_likely_146 ?_
  refine zi_bl (fun v20 => ?_)
  refine zi_lstore9 (pc := 147) hX dX10_likely_147 rfl rfl ?_
  refine zi_lload9 (pc := 149) hX dX10_likely_149 ?_
  refine zi_ldc2 (pc := 151) hX dX10_likely_151 tm_1862 ?_
  refine zi_lload7 (pc := 154) hX dX10_likely_154 ?_
  refine zi_lsub (pc := 156) hX dX10_likely_156 ?_
  refine zi_aload0 (pc := 157) hX dX10_likely_157 ?_
  refine zi_getr (q := 70) (pc := 158) hX dX10_likely_158 fl_1363 ly_61 rfl ?_
  refine zi_iconst (pc := 161) hX dX10_likely_161 ki_2 ?_
  refine zi_aload0 (pc := 162) hX dX10_likely_162 ?_
  refine zi_iload5 (pc := 163) hX dX10_likely_163 ?_
  refine zi_iconst (pc := 165) hX dX10_likely_165 ki_3 ?_
  refine zi_callI (zc_virt (pc := 166) hX dX10_likely_166 tm_1773 md_X10_of mi_X10_of ly_61 (ct_Mo_of hX.sane x5 (3 : Int32) g19) rfl rfl rfl) (fun v21 g22 => ?_)
  refine zi_imul (pc := 169) hX dX10_likely_169 ?_
  refine zi_iconst (pc := 170) hX dX10_likely_170 ki_1 ?_
  refine zi_iadd (pc := 171) hX dX10_likely_171 ?_
  refine zi_iald (pc := 172) hX dX10_likely_172 ly_70 ?_
  refine zi_i2l (pc := 173) hX dX10_likely_173 ?_
  refine zi_lmul (pc := 174) hX dX10_likely_174 ?_
  refine zi_ladd (pc := 175) hX dX10_likely_175 ?_
  refine zi_bl (fun v23 => ?_)
  refine zi_lstore11 (pc := 176) hX dX10_likely_176 rfl rfl ?_
  refine zi_lload11 (pc := 178) hX dX10_likely_178 ?_
  refine zi_lconst (pc := 180) hX dX10_likely_180 kl_0 ?_
  refine zi_lcmp (pc := 181) hX dX10_likely_181 ?_
  refine zi_if_ne (pc := 182) 188 hX dX10_likely_182 (by decide) (fun _ => ?_) (fun _ => ?_)
  · refine zi_goto (pc := 185) 222 hX dX10_likely_185 (by decide) ?_
    refine zi_iincb5 (pc := 222) hX dX10_likely_222 (kn_1 _) rfl rfl (fun v30 => ?_)
    refine zi_goto (pc := 225) 31 hX dX10_likely_225 (by decide) ?_
    refine zi_drop (le_s (le_s (le_s (le_s (le_s (le_s (le_s (le_n (le_s (le_n (le_s (le_n (le_s le_nil))))))))))))) ?_; exact hr31 x3 v30 g22
  · refine zi_lload9 (pc := 188) hX dX10_likely_188 ?_
    refine zi_ldc2 (pc := 190) hX dX10_likely_190 tm_1862 ?_
    refine zi_lmul (pc := 193) hX dX10_likely_193 ?_
    refine zi_lload11 (pc := 194) hX dX10_likely_194 ?_
    refine zi_ldivc (pc := 196) hX dX10_likely_196 ?_
    refine zi_bl (fun v24 => ?_)
    refine zi_lstore7 (pc := 197) hX dX10_likely_197 rfl rfl ?_
    refine zi_aload0 (pc := 199) hX dX10_likely_199 ?_
    refine zi_iload5 (pc := 200) hX dX10_likely_200 ?_
    refine zi_iconst (pc := 202) hX dX10_likely_202 ki_4 ?_
    refine zi_callI (zc_virt (pc := 203) hX dX10_likely_203 tm_1773 md_X10_of mi_X10_of ly_61 (ct_Mo_of hX.sane x5 (4 : Int32) g22) rfl rfl rfl) (fun v25 g26 => ?_)
    refine zi_iconst (pc := 206) hX dX10_likely_206 ki_1 ?_
    refine zi_icmp_ne (pc := 207) 219 hX dX10_likely_207 (by decide) (fun _ => ?_) (fun _ => ?_)
    · refine zi_ldc2 (pc := 210) hX dX10_likely_210 tm_1862 ?_
      refine zi_lload7 (pc := 213) hX dX10_likely_213 ?_
      refine zi_lsub (pc := 215) hX dX10_likely_215 ?_
      refine zi_goto (pc := 216) 221 hX dX10_likely_216 (by decide) ?_
      refine zi_bl (fun v28 => ?_)
      refine zi_lstore3 (pc := 221) hX dX10_likely_221 rfl rfl ?_
      refine zi_iincb5 (pc := 222) hX dX10_likely_222 (kn_1 _) rfl rfl (fun v29 => ?_)
      refine zi_goto (pc := 225) 31 hX dX10_likely_225 (by decide) ?_
      refine zi_drop (le_s (le_s (le_s (le_s (le_s (le_s (le_s (le_n (le_s (le_n (le_s (le_n (le_s le_nil))))))))))))) ?_; exact hr31 v28 v29 g26
    · refine zi_lload7 (pc := 219) hX dX10_likely_219 ?_
      refine zi_lstore3 (pc := 221) hX dX10_likely_221 rfl rfl ?_
      refine zi_iincb5 (pc := 222) hX dX10_likely_222 (kn_1 _) rfl rfl (fun v27 => ?_)
      refine zi_goto (pc := 225) 31 hX dX10_likely_225 (by decide) ?_
      refine zi_drop (le_s (le_s (le_s (le_s (le_s (le_s (le_s (le_n (le_s (le_n (le_s (le_n (le_s le_nil))))))))))))) ?_; exact hr31 v24 v27 g26
theorem zp_Mo_likely_31 {X : et_X} {w : et_W} (hX : et_Gd X w cX10_likely RX10 13 (some .int) [] rm_Mo_likely) (x1 : Int32) (x2 : Int32) : ∀ (n : Nat) (x3 : Int64) (x5 : Int32) (g : et_G), et_Z X w 0 et_eI 31 [some (.ref (et_ad w 61)), some (.int x1), some (.int x2), some (.long x3), none, some (.int x5), none, none, none, none, none, none, none] [] g (fn_Mo_likely_31 x1 x2 n x3 x5 g) := by
  intro n
  induction n with
  | zero =>
    intro x3 x5 g a g2 h
    cases h
  | succ n ih =>
    intro x3 x5 g
    rw [fn_Mo_likely_31]
    refine zi_iload5 (pc := 31) hX dX10_likely_31 ?_
    refine zi_aload0 (pc := 33) hX dX10_likely_33 ?_
    refine zi_geti (pc := 34) hX dX10_likely_34 fl_1398 ly_61 rfl ?_
    refine zi_icmp_ge (pc := 37) 228 hX dX10_likely_37 (by decide) (fun _ => ?_) (fun _ => ?_)
    · refine zi_lload3 (pc := 228) hX dX10_likely_228 ?_
      refine zi_l2i (pc := 229) hX dX10_likely_229 ?_
      exact zi_ret (pc := 230) hX dX10_likely_230 rfl rfl rfl rfl
    · refine zi_aload0 (pc := 40) hX dX10_likely_40 ?_
      refine zi_iload5 (pc := 41) hX dX10_likely_41 ?_
      refine zi_iconst (pc := 43) hX dX10_likely_43 ki_1 ?_
      refine zi_callI (zc_virt (pc := 44) hX dX10_likely_44 tm_1773 md_X10_of mi_X10_of ly_61 (ct_Mo_of hX.sane x5 (1 : Int32) g) rfl rfl rfl) (fun v6 g7 => ?_)
      refine zi_istore6 (pc := 47) hX dX10_likely_47 rfl rfl ?_
      refine zi_aload0 (pc := 49) hX dX10_likely_49 ?_
      refine zi_iload5 (pc := 50) hX dX10_likely_50 ?_
      refine zi_iconst (pc := 52) hX dX10_likely_52 ki_2 ?_
      refine zi_callI (zc_virt (pc := 53) hX dX10_likely_53 tm_1773 md_X10_of mi_X10_of ly_61 (ct_Mo_of hX.sane x5 (2 : Int32) g7) rfl rfl rfl) (fun v8 g9 => ?_)
      refine zi_iload2 (pc := 56) hX dX10_likely_56 ?_
      refine zi_icmp_ne (pc := 57) 222 hX dX10_likely_57 (by decide) (fun _ => ?_) (fun _ => ?_)
      · refine zi_aload0 (pc := 60) hX dX10_likely_60 ?_
        refine zi_iload5 (pc := 61) hX dX10_likely_61 ?_
        refine zi_iconst (pc := 63) hX dX10_likely_63 ki_0 ?_
        refine zi_callI (zc_virt (pc := 64) hX dX10_likely_64 tm_1773 md_X10_of mi_X10_of ly_61 (ct_Mo_of hX.sane x5 (0 : Int32) g9) rfl rfl rfl) (fun v11 g12 => ?_)
        refine zi_iload1 (pc := 67) hX dX10_likely_67 ?_
        refine zi_icmp_eq (pc := 68) 222 hX dX10_likely_68 (by decide) (fun _ => ?_) (fun _ => ?_)
        · refine zi_iincb5 (pc := 222) hX dX10_likely_222 (kn_1 _) rfl rfl (fun v13 => ?_)
          refine zi_goto (pc := 225) 31 hX dX10_likely_225 (by decide) ?_
          refine zi_drop (le_s (le_s (le_s (le_s (le_s (le_s (le_n (le_s (le_s (le_s (le_s (le_s (le_s le_nil))))))))))))) ?_; exact ih x3 v13 g12
        · refine zi_aload0 (pc := 71) hX dX10_likely_71 ?_
          refine zi_getr (q := 69) (pc := 72) hX dX10_likely_72 fl_1362 ly_61 rfl ?_
          refine zi_bipush (pc := 75) hX dX10_likely_75 kb_24 ?_
          refine zi_iload1 (pc := 77) hX dX10_likely_77 ?_
          refine zi_imul (pc := 78) hX dX10_likely_78 ?_
          refine zi_iload6 (pc := 79) hX dX10_likely_79 ?_
          refine zi_iadd (pc := 81) hX dX10_likely_81 ?_
          refine zi_iald (pc := 82) hX dX10_likely_82 ly_69 ?_
          refine zi_aload0 (pc := 83) hX dX10_likely_83 ?_
          refine zi_getr (q := 69) (pc := 84) hX dX10_likely_84 fl_1362 ly_61 rfl ?_
          refine zi_bipush (pc := 87) hX dX10_likely_87 kb_24 ?_
          refine zi_aload0 (pc := 89) hX dX10_likely_89 ?_
          refine zi_iload5 (pc := 90) hX dX10_likely_90 ?_
          refine zi_iconst (pc := 92) hX dX10_likely_92 ki_0 ?_
          refine zi_callI (zc_virt (pc := 93) hX dX10_likely_93 tm_1773 md_X10_of mi_X10_of ly_61 (ct_Mo_of hX.sane x5 (0 : Int32) g12) rfl rfl rfl) (fun v14 g15 => ?_)
          refine zi_imul (pc := 96) hX dX10_likely_96 ?_
          refine zi_iload6 (pc := 97) hX dX10_likely_97 ?_
          refine zi_iadd (pc := 99) hX dX10_likely_99 ?_
          refine zi_iald (pc := 100) hX dX10_likely_100 ly_69 ?_
          refine zi_icmp_eq (pc := 101) 107 hX dX10_likely_101 (by decide) (fun _ => ?_) (fun _ => ?_)
          · refine zi_aload0 (pc := 107) hX dX10_likely_107 ?_
            refine zi_iload5 (pc := 108) hX dX10_likely_108 ?_
            refine zi_iconst (pc := 110) hX dX10_likely_110 ki_4 ?_
            refine zi_callI (zc_virt (pc := 111) hX dX10_likely_111 tm_1773 md_X10_of mi_X10_of ly_61 (ct_Mo_of hX.sane x5 (4 : Int32) g15) rfl rfl rfl) (fun v16 g17 => ?_)
            refine zi_iconst (pc := 114) hX dX10_likely_114 ki_1 ?_
            refine zi_icmp_ne (pc := 115) 126 hX dX10_likely_115 (by decide) (fun _ => ?_) (fun _ => ?_)
            · refine zi_ldc2 (pc := 118) hX dX10_likely_118 tm_1862 ?_
              refine zi_lload3 (pc := 121) hX dX10_likely_121 ?_
              refine zi_lsub (pc := 122) hX dX10_likely_122 ?_
              refine zi_goto (pc := 123) 127 hX dX10_likely_123 (by decide) ?_
              refine zi_drop (le_s (le_s (le_s (le_s (le_s (le_s (le_n (le_s (le_s (le_s (le_s (le_s (le_s le_nil))))))))))))) ?_; exact zp_Mo_likely_127 hX (fun z3 z5 g => fn_Mo_likely_31 x1 x2 n z3 z5 g) x1 x2 x3 x5 ((1000000 : Int64) - x3) (fun z3 z5 g => ih z3 z5 g) g17
            · refine zi_lload3 (pc := 126) hX dX10_likely_126 ?_
              refine zi_drop (le_s (le_s (le_s (le_s (le_s (le_s (le_n (le_s (le_s (le_s (le_s (le_s (le_s le_nil))))))))))))) ?_; exact zp_Mo_likely_127 hX (fun z3 z5 g => fn_Mo_likely_31 x1 x2 n z3 z5 g) x1 x2 x3 x5 x3 (fun z3 z5 g => ih z3 z5 g) g17
          · refine zi_goto (pc := 104) 222 hX dX10_likely_104 (by decide) ?_
            refine zi_iincb5 (pc := 222) hX dX10_likely_222 (kn_1 _) rfl rfl (fun v31 => ?_)
            refine zi_goto (pc := 225) 31 hX dX10_likely_225 (by decide) ?_
            refine zi_drop (le_s (le_s (le_s (le_s (le_s (le_s (le_n (le_s (le_s (le_s (le_s (le_s (le_s le_nil))))))))))))) ?_; exact ih x3 v31 g15
      · refine zi_iincb5 (pc := 222) hX dX10_likely_222 (kn_1 _) rfl rfl (fun v10 => ?_)
        refine zi_goto (pc := 225) 31 hX dX10_likely_225 (by decide) ?_
        refine zi_drop (le_s (le_s (le_s (le_s (le_s (le_s (le_n (le_s (le_s (le_s (le_s (le_s (le_s le_nil))))))))))))) ?_; exact ih x3 v10 g9
theorem zw_Mo_likely {X : et_X} {w : et_W} (hX : et_Gd X w cX10_likely RX10 13 (some .int) [] rm_Mo_likely) (p1 : Int32) (p2 : Int32) (g : et_G) : et_Z X w 0 et_eI 0 [some (.ref (et_ad w 61)), some (.int p1), some (.int p2), none, none, none, none, none, none, none, none, none, none] [] g (fn_Mo_likely p1 p2 g) := by
  unfold fn_Mo_likely
  refine zi_aload0 (pc := 0) hX dX10_likely_0 ?_
  refine zi_iconst (pc := 1) hX dX10_likely_1 ki_0 ?_
  refine zi_puti (pc := 2) hX dX10_likely_2 fl_1348 ly_61 rfl rfl rfl (zi_bg (fun g1 => ?_))
  refine zi_aload0 (pc := 5) hX dX10_likely_5 ?_
  refine zi_iload1 (pc := 6) hX dX10_likely_6 ?_
  refine zi_iconst (pc := 7) hX dX10_likely_7 ki_0 ?_
  refine zi_callI (zc_virt (pc := 8) hX dX10_likely_8 tm_1693 md_X10_isWho mi_X10_isWho ly_61 (ct_Mo_isWho hX.sane p1 (0 : Int32) g1) rfl rfl rfl) (fun v2 g3 => ?_)
  refine zi_if_eq (pc := 11) 22 hX dX10_likely_11 (by decide) (fun _ => ?_) (fun _ => ?_)
  · refine zi_iconst (pc := 22) hX dX10_likely_22 ki_0 ?_
    exact zi_ret (pc := 23) hX dX10_likely_23 rfl rfl rfl rfl
  · refine zi_aload0 (pc := 14) hX dX10_likely_14 ?_
    refine zi_iload2 (pc := 15) hX dX10_likely_15 ?_
    refine zi_callI (zc_virt (pc := 16) hX dX10_likely_16 tm_1701 md_X10_isThing mi_X10_isThing ly_61 (ct_Mo_isThing hX.sane p2 g3) rfl rfl rfl) (fun v4 g5 => ?_)
    refine zi_if_ne (pc := 19) 24 hX dX10_likely_19 (by decide) (fun _ => ?_) (fun _ => ?_)
    · refine zi_iconst (pc := 22) hX dX10_likely_22 ki_0 ?_
      exact zi_ret (pc := 23) hX dX10_likely_23 rfl rfl rfl rfl
    · refine zi_ldc2 (pc := 24) hX dX10_likely_24 tm_1861 ?_
      refine zi_lstore3 (pc := 27) hX dX10_likely_27 rfl rfl ?_
      refine zi_iconst (pc := 28) hX dX10_likely_28 ki_0 ?_
      refine zi_istore5 (pc := 29) hX dX10_likely_29 rfl rfl ?_
      exact zp_Mo_likely_31 hX p1 p2 1000000 (500000 : Int64) (0 : Int32) g5
theorem ct_Mo_likely {w : et_W} (hw : et_Sane w) (p1 : Int32) (p2 : Int32) (g : et_G) : et_C w yX10_likely (Cond.code yX10_likely cX10_likely 13 (some .int)) rm_Mo_likely et_eI [.ref (et_ad w 61), .int p1, .int p2] g (fn_Mo_likely p1 p2 g) := et_mk hw (by decide) rfl rfl (fun X hX => zw_Mo_likely hX p1 p2 g)
def rm_Mo_copies_87_94 : Room := { frames := 0, cells := 0, slots := 0, locals := 0 }
def fn_Mo_copies_87_94_2 : Nat → Int32 → et_G → Option (Unit × et_G)
  | 0, _, _ => none
  | n + 1, x3, g =>
    if (20 : Int32) ≤ x3 then
      some ((), g)
    else
      et_ck (et_ib x3 20) (
      et_ck (et_ib x3 20) (et_b (et_si g 94 x3.toNatClampNeg (g.1 87 x3.toNatClampNeg)) (fun g1 =>
      et_b (x3 + (1 : Int32)) (fun v2 =>
      fn_Mo_copies_87_94_2 n v2 g1))))
def fn_Mo_copies_87_94 (g : et_G) : Option (Unit × et_G) :=
  fn_Mo_copies_87_94_2 1000000 (0 : Int32) g
theorem zp_Mo_copies_87_94_2 {X : et_X} {w : et_W} (hX : et_Gd X w cX10_copies RX10 4 (none) [] rm_Mo_copies_87_94) : ∀ (n : Nat) (x3 : Int32) (g : et_G), et_Z X w 0 et_eU 2 [none, some (.ref (et_ad w 87)), some (.ref (et_ad w 94)), some (.int x3)] [] g (fn_Mo_copies_87_94_2 n x3 g) := by
  intro n
  induction n with
  | zero =>
    intro x3 g a g2 h
    cases h
  | succ n ih =>
    intro x3 g
    rw [fn_Mo_copies_87_94_2]
    refine zi_iload3 (pc := 2) hX dX10_copies_2 ?_
    refine zi_aload1 (pc := 3) hX dX10_copies_3 ?_
    refine zi_alen (pc := 4) hX dX10_copies_4 ly_87 0 (et_t0 w) ka_20 ?_
    refine zi_icmp_ge (pc := 5) 20 hX dX10_copies_5 (by decide) (fun _ => ?_) (fun _ => ?_)
    · exact zi_vret (pc := 20) hX dX10_copies_20 rfl rfl rfl
    · refine zi_aload2 (pc := 8) hX dX10_copies_8 ?_
      refine zi_iload3 (pc := 9) hX dX10_copies_9 ?_
      refine zi_aload1 (pc := 10) hX dX10_copies_10 ?_
      refine zi_iload3 (pc := 11) hX dX10_copies_11 ?_
      refine zi_iald (pc := 12) hX dX10_copies_12 ly_87 ?_
      refine zi_iast (pc := 13) hX dX10_copies_13 ly_94 (zi_bg (fun g1 => ?_))
      refine zi_iincb3 (pc := 14) hX dX10_copies_14 (kn_1 _) rfl rfl (fun v2 => ?_)
      refine zi_goto (pc := 17) 2 hX dX10_copies_17 (by decide) ?_
      exact ih v2 g1
theorem zw_Mo_copies_87_94 {X : et_X} {w : et_W} (hX : et_Gd X w cX10_copies RX10 4 (none) [] rm_Mo_copies_87_94) (g : et_G) : et_Z X w 0 et_eU 0 [some (.ref (et_ad w 61)), some (.ref (et_ad w 87)), some (.ref (et_ad w 94)), none] [] g (fn_Mo_copies_87_94 g) := by
  unfold fn_Mo_copies_87_94
  refine zi_iconst (pc := 0) hX dX10_copies_0 ki_0 ?_
  refine zi_istore3 (pc := 1) hX dX10_copies_1 rfl rfl ?_
  refine zi_drop (le_n (le_s (le_s (le_s le_nil)))) ?_; exact zp_Mo_copies_87_94_2 hX 1000000 (0 : Int32) g
theorem ct_Mo_copies_87_94 {w : et_W} (hw : et_Sane w) (g : et_G) : et_C w yX10_copies (Cond.code yX10_copies cX10_copies 4 (none)) rm_Mo_copies_87_94 et_eU [.ref (et_ad w 61), .ref (et_ad w 87), .ref (et_ad w 94)] g (fn_Mo_copies_87_94 g) := et_mk hw (by decide) rfl rfl (fun X hX => zw_Mo_copies_87_94 hX g)
def rm_Mo_mend : Room := { frames := 6, cells := 0, slots := 0, locals := 151 }
def fn_Mo_mend_144 (x1 : Int32) (g : et_G) : Option (Int32 × et_G) :=
  et_b (et_si g 61 65 (g.1 61 50)) (fun g4 =>
  et_bd (fn_Mo_bits x1 g4) (fun v5 g6 =>
  some (v5, g6)))
def fn_Mo_mend_117 (r26 : Int32 → Int32 → et_G → Option (Int32 × et_G)) (x1 : Int32) (x2 : Int32) (x3 : Int32) (g : et_G) : Option (Int32 × et_G) :=
  if x3 = 0 then
    et_b (x2 + (1 : Int32)) (fun v14 =>
    r26 x1 v14 g)
  else
    et_bd (fn_Mo_copies_87_94 g) (fun _ g12 =>
    et_b (x2 + (1 : Int32)) (fun v13 =>
    r26 x2 v13 g12))
def fn_Mo_mend_105 (r26 : Int32 → Int32 → et_G → Option (Int32 × et_G)) (r69 : Int32 → Int32 → et_G → Option (Int32 × et_G)) (x1 : Int32) (x2 : Int32) (x4 : Int32) (g : et_G) : Option (Int32 × et_G) :=
  et_b (x4 + (1 : Int32)) (fun v16 =>
  r69 (1 : Int32) v16 g)
def fn_Mo_mend_69 (r26 : Int32 → Int32 → et_G → Option (Int32 × et_G)) (x1 : Int32) (x2 : Int32) : Nat → Int32 → Int32 → et_G → Option (Int32 × et_G)
  | 0, _, _, _ => none
  | n + 1, x3, x4, g =>
    if (g.1 61 50) ≤ x4 then
      fn_Mo_mend_117 r26 x1 x2 x3 g
    else
      if x3 = 0 then
        et_b (x4 + (1 : Int32)) (fun v15 =>
        fn_Mo_mend_69 r26 x1 x2 n (0 : Int32) v15 g)
      else
        if ((x2 >>> (x4 &&& 31)) &&& (1 : Int32)) = (1 : Int32) then
          fn_Mo_mend_105 r26 (fun z3 z4 g => fn_Mo_mend_69 r26 x1 x2 n z3 z4 g) x1 x2 x4 g
        else
          et_ck (et_ib x4 20) (
          if (1000 : Int32) ≤ (g.1 86 x4.toNatClampNeg) then
            et_b (x4 + (1 : Int32)) (fun v17 =>
            fn_Mo_mend_69 r26 x1 x2 n (0 : Int32) v17 g)
          else
            fn_Mo_mend_105 r26 (fun z3 z4 g => fn_Mo_mend_69 r26 x1 x2 n z3 z4 g) x1 x2 x4 g)
def fn_Mo_mend_55 (r26 : Int32 → Int32 → et_G → Option (Int32 × et_G)) (x1 : Int32) (x2 : Int32) (g : et_G) : Option (Int32 × et_G) :=
  et_bd (fn_Mo_all g) (fun v7 g8 =>
  et_bd (fn_Mo_reckons v7 x2 g8) (fun _ g10 =>
  fn_Mo_mend_69 r26 x1 x2 1000000 (1 : Int32) (0 : Int32) g10))
def fn_Mo_mend_26 : Nat → Int32 → Int32 → et_G → Option (Int32 × et_G)
  | 0, _, _, _ => none
  | n + 1, x1, x2, g =>
    if ((1 : Int32) <<< ((g.1 61 50) &&& 31)) ≤ x2 then
      fn_Mo_mend_144 x1 g
    else
      if x1 = (-1 : Int32) then
        fn_Mo_mend_55 (fun z1 z2 g => fn_Mo_mend_26 n z1 z2 g) x1 x2 g
      else
        et_bd (fn_Mo_bits x2 g) (fun v18 g19 =>
        et_bd (fn_Mo_bits x1 g19) (fun v20 g21 =>
        if v18 < v20 then
          fn_Mo_mend_55 (fun z1 z2 g => fn_Mo_mend_26 n z1 z2 g) x1 x2 g21
        else
          et_b (x2 + (1 : Int32)) (fun v22 =>
          fn_Mo_mend_26 n x1 v22 g21)))
def fn_Mo_mend (g : et_G) : Option (Int32 × et_G) :=
  et_b (et_si g 61 0 (0 : Int32)) (fun g1 =>
  if (g1.1 61 50) ≤ (12 : Int32) then
    et_bd (fn_Mo_asks (-1 : Int32) (0 : Int32) g1) (fun _ g3 =>
    fn_Mo_mend_26 1000000 (-1 : Int32) (0 : Int32) g3)
  else
    some ((-1 : Int32), g1))
theorem zp_Mo_mend_144 {X : et_X} {w : et_W} (hX : et_Gd X w cX10_mend RX10 5 (some .int) [] rm_Mo_mend) (x1 : Int32) (g : et_G) : et_Z X w 0 et_eI 144 [some (.ref (et_ad w 61)), some (.int x1), none, none, none] [] g (fn_Mo_mend_144 x1 g) := by
  unfold fn_Mo_mend_144
  refine zi_aload0 (pc := 144) hX dX10_mend_144 ?_
  refine zi_aload0 (pc := 145) hX dX10_mend_145 ?_
  refine zi_geti (pc := 146) hX dX10_mend_146 fl_1398 ly_61 rfl ?_
  refine zi_puti (pc := 149) hX dX10_mend_149 fl_1413 ly_61 rfl rfl rfl (zi_bg (fun g4 => ?_))
  refine zi_iload1 (pc := 152) hX dX10_mend_152 ?_
  refine zi_callI (zc_stat (pc := 153) hX dX10_mend_153 tm_1686 md_X10_bits st_X10_bits (ct_Mo_bits hX.sane x1 g4) rfl rfl rfl) (fun v5 g6 => ?_)
  exact zi_ret (pc := 156) hX dX10_mend_156 rfl rfl rfl rfl
theorem zp_Mo_mend_117 {X : et_X} {w : et_W} (hX : et_Gd X w cX10_mend RX10 5 (some .int) [] rm_Mo_mend) (r26 : Int32 → Int32 → et_G → Option (Int32 × et_G)) (x1 : Int32) (x2 : Int32) (x3 : Int32) (hr26 : ∀ (y1 : Int32) (y2 : Int32) (g : et_G), et_Z X w 0 et_eI 26 [some (.ref (et_ad w 61)), some (.int y1), some (.int y2), none, none] [] g (r26 y1 y2 g)) (g : et_G) : et_Z X w 0 et_eI 117 [some (.ref (et_ad w 61)), some (.int x1), some (.int x2), some (.int x3), none] [] g (fn_Mo_mend_117 r26 x1 x2 x3 g) := by
  unfold fn_Mo_mend_117
  refine zi_iload3 (pc := 117) hX dX10_mend_117 ?_
  refine zi_if_ne (pc := 118) 124 hX dX10_mend_118 (by decide) (fun _ => ?_) (fun _ => ?_)
  · refine zi_goto (pc := 121) 138 hX dX10_mend_121 (by decide) ?_
    refine zi_iincb2 (pc := 138) hX dX10_mend_138 (kn_1 _) rfl rfl (fun v14 => ?_)
    refine zi_goto (pc := 141) 26 hX dX10_mend_141 (by decide) ?_
    refine zi_drop (le_s (le_s (le_s (le_n (le_s le_nil))))) ?_; exact hr26 x1 v14 g
  · refine zi_iload2 (pc := 124) hX dX10_mend_124 ?_
    refine zi_istore1 (pc := 125) hX dX10_mend_125 rfl rfl ?_
    refine zi_aload0 (pc := 126) hX dX10_mend_126 ?_
    refine zi_aload0 (pc := 127) hX dX10_mend_127 ?_
    refine zi_getr (q := 87) (pc := 128) hX dX10_mend_128 fl_1402 ly_61 rfl ?_
    refine zi_aload0 (pc := 131) hX dX10_mend_131 ?_
    refine zi_getr (q := 94) (pc := 132) hX dX10_mend_132 fl_1414 ly_61 rfl ?_
    refine zi_callU (zc_virt (pc := 135) hX dX10_mend_135 tm_1671 md_X10_copies mi_X10_copies ly_61 (ct_Mo_copies_87_94 hX.sane g) rfl rfl rfl) (fun g12 => ?_)
    refine zi_iincb2 (pc := 138) hX dX10_mend_138 (kn_1 _) rfl rfl (fun v13 => ?_)
    refine zi_goto (pc := 141) 26 hX dX10_mend_141 (by decide) ?_
    refine zi_drop (le_s (le_s (le_s (le_n (le_s le_nil))))) ?_; exact hr26 x2 v13 g12
theorem zp_Mo_mend_105 {X : et_X} {w : et_W} (hX : et_Gd X w cX10_mend RX10 5 (some .int) [] rm_Mo_mend) (r26 : Int32 → Int32 → et_G → Option (Int32 × et_G)) (r69 : Int32 → Int32 → et_G → Option (Int32 × et_G)) (x1 : Int32) (x2 : Int32) (x4 : Int32) (hr26 : ∀ (y1 : Int32) (y2 : Int32) (g : et_G), et_Z X w 0 et_eI 26 [some (.ref (et_ad w 61)), some (.int y1), some (.int y2), none, none] [] g (r26 y1 y2 g)) (hr69 : ∀ (y3 : Int32) (y4 : Int32) (g : et_G), et_Z X w 0 et_eI 69 [some (.ref (et_ad w 61)), some (.int x1), some (.int x2), some (.int y3), some (.int y4)] [] g (r69 y3 y4 g)) (g : et_G) : et_Z X w 0 et_eI 105 [some (.ref (et_ad w 61)), some (.int x1), some (.int x2), none, some (.int x4)] [] g (fn_Mo_mend_105 r26 r69 x1 x2 x4 g) := by
  unfold fn_Mo_mend_105
  refine zi_iconst (pc := 105) hX dX10_mend_105 ki_1 ?_
  refine zi_goto (pc := 106) 110 hX dX10_mend_106 (by decide) ?_
  refine zi_istore3 (pc := 110) hX dX10_mend_110 rfl rfl ?_
  refine zi_iincb4 (pc := 111) hX dX10_mend_111 (kn_1 _) rfl rfl (fun v16 => ?_)
  refine zi_goto (pc := 114) 69 hX dX10_mend_114 (by decide) ?_
  exact hr69 (1 : Int32) v16 g
theorem zp_Mo_mend_69 {X : et_X} {w : et_W} (hX : et_Gd X w cX10_mend RX10 5 (some .int) [] rm_Mo_mend) (r26 : Int32 → Int32 → et_G → Option (Int32 × et_G)) (x1 : Int32) (x2 : Int32) (hr26 : ∀ (y1 : Int32) (y2 : Int32) (g : et_G), et_Z X w 0 et_eI 26 [some (.ref (et_ad w 61)), some (.int y1), some (.int y2), none, none] [] g (r26 y1 y2 g)) : ∀ (n : Nat) (x3 : Int32) (x4 : Int32) (g : et_G), et_Z X w 0 et_eI 69 [some (.ref (et_ad w 61)), some (.int x1), some (.int x2), some (.int x3), some (.int x4)] [] g (fn_Mo_mend_69 r26 x1 x2 n x3 x4 g) := by
  intro n
  induction n with
  | zero =>
    intro x3 x4 g a g2 h
    cases h
  | succ n ih =>
    intro x3 x4 g
    rw [fn_Mo_mend_69]
    refine zi_iload4 (pc := 69) hX dX10_mend_69 ?_
    refine zi_aload0 (pc := 71) hX dX10_mend_71 ?_
    refine zi_geti (pc := 72) hX dX10_mend_72 fl_1398 ly_61 rfl ?_
    refine zi_icmp_ge (pc := 75) 117 hX dX10_mend_75 (by decide) (fun _ => ?_) (fun _ => ?_)
    · refine zi_drop (le_s (le_s (le_s (le_s (le_n le_nil))))) ?_; exact zp_Mo_mend_117 hX r26 x1 x2 x3 hr26 g
    · refine zi_iload3 (pc := 78) hX dX10_mend_78 ?_
      refine zi_if_eq (pc := 79) 109 hX dX10_mend_79 (by decide) (fun _ => ?_) (fun _ => ?_)
      · refine zi_iconst (pc := 109) hX dX10_mend_109 ki_0 ?_
        refine zi_istore3 (pc := 110) hX dX10_mend_110 rfl rfl ?_
        refine zi_iincb4 (pc := 111) hX dX10_mend_111 (kn_1 _) rfl rfl (fun v15 => ?_)
        refine zi_goto (pc := 114) 69 hX dX10_mend_114 (by decide) ?_
        exact ih (0 : Int32) v15 g
      · refine zi_iload2 (pc := 82) hX dX10_mend_82 ?_
        refine zi_iload4 (pc := 83) hX dX10_mend_83 ?_
        refine zi_ishr (pc := 85) hX dX10_mend_85 ?_
        refine zi_iconst (pc := 86) hX dX10_mend_86 ki_1 ?_
        refine zi_iand (pc := 87) hX dX10_mend_87 ?_
        refine zi_iconst (pc := 88) hX dX10_mend_88 ki_1 ?_
        refine zi_icmp_eq (pc := 89) 105 hX dX10_mend_89 (by decide) (fun _ => ?_) (fun _ => ?_)
        · refine zi_drop (le_s (le_s (le_s (le_n (le_s le_nil))))) ?_; exact zp_Mo_mend_105 hX r26 (fun z3 z4 g => fn_Mo_mend_69 r26 x1 x2 n z3 z4 g) x1 x2 x4 hr26 (fun z3 z4 g => ih z3 z4 g) g
        · refine zi_aload0 (pc := 92) hX dX10_mend_92 ?_
          refine zi_getr (q := 86) (pc := 93) hX dX10_mend_93 fl_1401 ly_61 rfl ?_
          refine zi_iload4 (pc := 96) hX dX10_mend_96 ?_
          refine zi_iald (pc := 98) hX dX10_mend_98 ly_86 ?_
          refine zi_sipush (pc := 99) hX dX10_mend_99 ks_1000 ?_
          refine zi_icmp_ge (pc := 102) 109 hX dX10_mend_102 (by decide) (fun _ => ?_) (fun _ => ?_)
          · refine zi_iconst (pc := 109) hX dX10_mend_109 ki_0 ?_
            refine zi_istore3 (pc := 110) hX dX10_mend_110 rfl rfl ?_
            refine zi_iincb4 (pc := 111) hX dX10_mend_111 (kn_1 _) rfl rfl (fun v17 => ?_)
            refine zi_goto (pc := 114) 69 hX dX10_mend_114 (by decide) ?_
            exact ih (0 : Int32) v17 g
          · refine zi_drop (le_s (le_s (le_s (le_n (le_s le_nil))))) ?_; exact zp_Mo_mend_105 hX r26 (fun z3 z4 g => fn_Mo_mend_69 r26 x1 x2 n z3 z4 g) x1 x2 x4 hr26 (fun z3 z4 g => ih z3 z4 g) g
theorem zp_Mo_mend_55 {X : et_X} {w : et_W} (hX : et_Gd X w cX10_mend RX10 5 (some .int) [] rm_Mo_mend) (r26 : Int32 → Int32 → et_G → Option (Int32 × et_G)) (x1 : Int32) (x2 : Int32) (hr26 : ∀ (y1 : Int32) (y2 : Int32) (g : et_G), et_Z X w 0 et_eI 26 [some (.ref (et_ad w 61)), some (.int y1), some (.int y2), none, none] [] g (r26 y1 y2 g)) (g : et_G) : et_Z X w 0 et_eI 55 [some (.ref (et_ad w 61)), some (.int x1), some (.int x2), none, none] [] g (fn_Mo_mend_55 r26 x1 x2 g) := by
  unfold fn_Mo_mend_55
  refine zi_aload0 (pc := 55) hX dX10_mend_55 ?_
  refine zi_aload0 (pc := 56) hX dX10_mend_56 ?_
  refine zi_callI (zc_virt (pc := 57) hX dX10_mend_57 tm_1785 md_X10_all mi_X10_all ly_61 (ct_Mo_all hX.sane g) rfl rfl rfl) (fun v7 g8 => ?_)
  refine zi_iload2 (pc := 60) hX dX10_mend_60 ?_
  refine zi_callU (zc_virt (pc := 61) hX dX10_mend_61 tm_1789 md_X10_reckons mi_X10_reckons ly_61 (ct_Mo_reckons hX.sane v7 x2 g8) rfl rfl rfl) (fun g10 => ?_)
  refine zi_iconst (pc := 64) hX dX10_mend_64 ki_1 ?_
  refine zi_istore3 (pc := 65) hX dX10_mend_65 rfl rfl ?_
  refine zi_iconst (pc := 66) hX dX10_mend_66 ki_0 ?_
  refine zi_istore4 (pc := 67) hX dX10_mend_67 rfl rfl ?_
  exact zp_Mo_mend_69 hX r26 x1 x2 hr26 1000000 (1 : Int32) (0 : Int32) g10
theorem zp_Mo_mend_26 {X : et_X} {w : et_W} (hX : et_Gd X w cX10_mend RX10 5 (some .int) [] rm_Mo_mend) : ∀ (n : Nat) (x1 : Int32) (x2 : Int32) (g : et_G), et_Z X w 0 et_eI 26 [some (.ref (et_ad w 61)), some (.int x1), some (.int x2), none, none] [] g (fn_Mo_mend_26 n x1 x2 g) := by
  intro n
  induction n with
  | zero =>
    intro x1 x2 g a g2 h
    cases h
  | succ n ih =>
    intro x1 x2 g
    rw [fn_Mo_mend_26]
    refine zi_iload2 (pc := 26) hX dX10_mend_26 ?_
    refine zi_iconst (pc := 27) hX dX10_mend_27 ki_1 ?_
    refine zi_aload0 (pc := 28) hX dX10_mend_28 ?_
    refine zi_geti (pc := 29) hX dX10_mend_29 fl_1398 ly_61 rfl ?_
    refine zi_ishl (pc := 32) hX dX10_mend_32 ?_
    refine zi_icmp_ge (pc := 33) 144 hX dX10_mend_33 (by decide) (fun _ => ?_) (fun _ => ?_)
    · refine zi_drop (le_s (le_s (le_n (le_s (le_s le_nil))))) ?_; exact zp_Mo_mend_144 hX x1 g
    · refine zi_iload1 (pc := 36) hX dX10_mend_36 ?_
      refine zi_iconst (pc := 37) hX dX10_mend_37 ki_m1 ?_
      refine zi_icmp_eq (pc := 38) 55 hX dX10_mend_38 (by decide) (fun _ => ?_) (fun _ => ?_)
      · exact zp_Mo_mend_55 hX (fun z1 z2 g => fn_Mo_mend_26 n z1 z2 g) x1 x2 (fun z1 z2 g => ih z1 z2 g) g
      · refine zi_iload2 (pc := 41) hX dX10_mend_41 ?_
        refine zi_callI (zc_stat (pc := 42) hX dX10_mend_42 tm_1686 md_X10_bits st_X10_bits (ct_Mo_bits hX.sane x2 g) rfl rfl rfl) (fun v18 g19 => ?_)
        refine zi_iload1 (pc := 45) hX dX10_mend_45 ?_
        refine zi_callI (zc_stat (pc := 46) hX dX10_mend_46 tm_1686 md_X10_bits st_X10_bits (ct_Mo_bits hX.sane x1 g19) rfl rfl rfl) (fun v20 g21 => ?_)
        refine zi_icmp_lt (pc := 49) 55 hX dX10_mend_49 (by decide) (fun _ => ?_) (fun _ => ?_)
        · exact zp_Mo_mend_55 hX (fun z1 z2 g => fn_Mo_mend_26 n z1 z2 g) x1 x2 (fun z1 z2 g => ih z1 z2 g) g21
        · refine zi_goto (pc := 52) 138 hX dX10_mend_52 (by decide) ?_
          refine zi_iincb2 (pc := 138) hX dX10_mend_138 (kn_1 _) rfl rfl (fun v22 => ?_)
          refine zi_goto (pc := 141) 26 hX dX10_mend_141 (by decide) ?_
          exact ih x1 v22 g21
theorem zw_Mo_mend {X : et_X} {w : et_W} (hX : et_Gd X w cX10_mend RX10 5 (some .int) [] rm_Mo_mend) (g : et_G) : et_Z X w 0 et_eI 0 [some (.ref (et_ad w 61)), none, none, none, none] [] g (fn_Mo_mend g) := by
  unfold fn_Mo_mend
  refine zi_aload0 (pc := 0) hX dX10_mend_0 ?_
  refine zi_iconst (pc := 1) hX dX10_mend_1 ki_0 ?_
  refine zi_puti (pc := 2) hX dX10_mend_2 fl_1348 ly_61 rfl rfl rfl (zi_bg (fun g1 => ?_))
  refine zi_aload0 (pc := 5) hX dX10_mend_5 ?_
  refine zi_geti (pc := 6) hX dX10_mend_6 fl_1398 ly_61 rfl ?_
  refine zi_bipush (pc := 9) hX dX10_mend_9 kb_12 ?_
  refine zi_icmp_le (pc := 11) 16 hX dX10_mend_11 (by decide) (fun _ => ?_) (fun _ => ?_)
  · refine zi_aload0 (pc := 16) hX dX10_mend_16 ?_
    refine zi_iconst (pc := 17) hX dX10_mend_17 ki_m1 ?_
    refine zi_iconst (pc := 18) hX dX10_mend_18 ki_0 ?_
    refine zi_callU (zc_virt (pc := 19) hX dX10_mend_19 tm_1777 md_X10_asks mi_X10_asks ly_61 (ct_Mo_asks hX.sane (-1 : Int32) (0 : Int32) g1) rfl rfl rfl) (fun g3 => ?_)
    refine zi_iconst (pc := 22) hX dX10_mend_22 ki_m1 ?_
    refine zi_istore1 (pc := 23) hX dX10_mend_23 rfl rfl ?_
    refine zi_iconst (pc := 24) hX dX10_mend_24 ki_0 ?_
    refine zi_istore2 (pc := 25) hX dX10_mend_25 rfl rfl ?_
    exact zp_Mo_mend_26 hX 1000000 (-1 : Int32) (0 : Int32) g3
  · refine zi_iconst (pc := 14) hX dX10_mend_14 ki_m1 ?_
    exact zi_ret (pc := 15) hX dX10_mend_15 rfl rfl rfl rfl
theorem ct_Mo_mend {w : et_W} (hw : et_Sane w) (g : et_G) : et_C w yX10_mend (Cond.code yX10_mend cX10_mend 5 (some .int)) rm_Mo_mend et_eI [.ref (et_ad w 61)] g (fn_Mo_mend g) := et_mk hw (by decide) rfl rfl (fun X hX => zw_Mo_mend hX g)
def rm_Mo_mended : Room := { frames := 1, cells := 0, slots := 0, locals := 22 }
def fn_Mo_mended_23 (x1 : Int32) (s0 : Int32) (g : et_G) : Option (Int32 × et_G) :=
  et_bd (fn_Mo_right s0 (1 : Int32) g) (fun v2 g3 =>
  if v2 = 0 then
    some ((0 : Int32), g3)
  else
    et_ck (et_ib x1 20) (
    some (g3.1 94 x1.toNatClampNeg, g3)))
def fn_Mo_mended_22 (x1 : Int32) (g : et_G) : Option (Int32 × et_G) :=
  fn_Mo_mended_23 x1 (0 : Int32) g
def fn_Mo_mended (p1 : Int32) (g : et_G) : Option (Int32 × et_G) :=
  et_b (et_si g 61 0 (0 : Int32)) (fun g1 =>
  if p1 < 0 then
    fn_Mo_mended_22 p1 g1
  else
    if (g1.1 61 65) ≤ p1 then
      fn_Mo_mended_22 p1 g1
    else
      fn_Mo_mended_23 p1 (1 : Int32) g1)
theorem zp_Mo_mended_23 {X : et_X} {w : et_W} (hX : et_Gd X w cX10_mended RX10 2 (some .int) [] rm_Mo_mended) (x1 : Int32) (s0 : Int32) (g : et_G) : et_Z X w 0 et_eI 23 [some (.ref (et_ad w 61)), some (.int x1)] [.int s0, .ref (et_ad w 61)] g (fn_Mo_mended_23 x1 s0 g) := by
  unfold fn_Mo_mended_23
  refine zi_iconst (pc := 23) hX dX10_mended_23 ki_1 ?_
  refine zi_callI (zc_virt (pc := 24) hX dX10_mended_24 tm_1587 md_X10_right mi_X10_right ly_61 (ct_Mo_right hX.sane s0 (1 : Int32) g) rfl rfl rfl) (fun v2 g3 => ?_)
  refine zi_if_eq (pc := 27) 39 hX dX10_mended_27 (by decide) (fun _ => ?_) (fun _ => ?_)
  · refine zi_iconst (pc := 39) hX dX10_mended_39 ki_0 ?_
    exact zi_ret (pc := 40) hX dX10_mended_40 rfl rfl rfl rfl
  · refine zi_aload0 (pc := 30) hX dX10_mended_30 ?_
    refine zi_getr (q := 94) (pc := 31) hX dX10_mended_31 fl_1414 ly_61 rfl ?_
    refine zi_iload1 (pc := 34) hX dX10_mended_34 ?_
    refine zi_iald (pc := 35) hX dX10_mended_35 ly_94 ?_
    refine zi_goto (pc := 36) 40 hX dX10_mended_36 (by decide) ?_
    exact zi_ret (pc := 40) hX dX10_mended_40 rfl rfl rfl rfl
theorem zp_Mo_mended_22 {X : et_X} {w : et_W} (hX : et_Gd X w cX10_mended RX10 2 (some .int) [] rm_Mo_mended) (x1 : Int32) (g : et_G) : et_Z X w 0 et_eI 22 [some (.ref (et_ad w 61)), some (.int x1)] [.ref (et_ad w 61)] g (fn_Mo_mended_22 x1 g) := by
  unfold fn_Mo_mended_22
  refine zi_iconst (pc := 22) hX dX10_mended_22 ki_0 ?_
  exact zp_Mo_mended_23 hX x1 (0 : Int32) g
theorem zw_Mo_mended {X : et_X} {w : et_W} (hX : et_Gd X w cX10_mended RX10 2 (some .int) [] rm_Mo_mended) (p1 : Int32) (g : et_G) : et_Z X w 0 et_eI 0 [some (.ref (et_ad w 61)), some (.int p1)] [] g (fn_Mo_mended p1 g) := by
  unfold fn_Mo_mended
  refine zi_aload0 (pc := 0) hX dX10_mended_0 ?_
  refine zi_iconst (pc := 1) hX dX10_mended_1 ki_0 ?_
  refine zi_puti (pc := 2) hX dX10_mended_2 fl_1348 ly_61 rfl rfl rfl (zi_bg (fun g1 => ?_))
  refine zi_aload0 (pc := 5) hX dX10_mended_5 ?_
  refine zi_iload1 (pc := 6) hX dX10_mended_6 ?_
  refine zi_if_lt (pc := 7) 22 hX dX10_mended_7 (by decide) (fun _ => ?_) (fun _ => ?_)
  · exact zp_Mo_mended_22 hX p1 g1
  · refine zi_iload1 (pc := 10) hX dX10_mended_10 ?_
    refine zi_aload0 (pc := 11) hX dX10_mended_11 ?_
    refine zi_geti (pc := 12) hX dX10_mended_12 fl_1413 ly_61 rfl ?_
    refine zi_icmp_ge (pc := 15) 22 hX dX10_mended_15 (by decide) (fun _ => ?_) (fun _ => ?_)
    · exact zp_Mo_mended_22 hX p1 g1
    · refine zi_iconst (pc := 18) hX dX10_mended_18 ki_1 ?_
      refine zi_goto (pc := 19) 23 hX dX10_mended_19 (by decide) ?_
      exact zp_Mo_mended_23 hX p1 (1 : Int32) g1
theorem ct_Mo_mended {w : et_W} (hw : et_Sane w) (p1 : Int32) (g : et_G) : et_C w yX10_mended (Cond.code yX10_mended cX10_mended 2 (some .int)) rm_Mo_mended et_eI [.ref (et_ad w 61), .int p1] g (fn_Mo_mended p1 g) := et_mk hw (by decide) rfl rfl (fun X hX => zw_Mo_mended hX p1 g)
def rm_Mo_copies_95_84 : Room := { frames := 0, cells := 0, slots := 0, locals := 0 }
def fn_Mo_copies_95_84_2 : Nat → Int32 → et_G → Option (Unit × et_G)
  | 0, _, _ => none
  | n + 1, x3, g =>
    if (100 : Int32) ≤ x3 then
      some ((), g)
    else
      et_ck (et_ib x3 100) (
      et_ck (et_ib x3 100) (et_b (et_si g 84 x3.toNatClampNeg (g.1 95 x3.toNatClampNeg)) (fun g1 =>
      et_b (x3 + (1 : Int32)) (fun v2 =>
      fn_Mo_copies_95_84_2 n v2 g1))))
def fn_Mo_copies_95_84 (g : et_G) : Option (Unit × et_G) :=
  fn_Mo_copies_95_84_2 1000000 (0 : Int32) g
theorem zp_Mo_copies_95_84_2 {X : et_X} {w : et_W} (hX : et_Gd X w cX10_copies RX10 4 (none) [] rm_Mo_copies_95_84) : ∀ (n : Nat) (x3 : Int32) (g : et_G), et_Z X w 0 et_eU 2 [none, some (.ref (et_ad w 95)), some (.ref (et_ad w 84)), some (.int x3)] [] g (fn_Mo_copies_95_84_2 n x3 g) := by
  intro n
  induction n with
  | zero =>
    intro x3 g a g2 h
    cases h
  | succ n ih =>
    intro x3 g
    rw [fn_Mo_copies_95_84_2]
    refine zi_iload3 (pc := 2) hX dX10_copies_2 ?_
    refine zi_aload1 (pc := 3) hX dX10_copies_3 ?_
    refine zi_alen (pc := 4) hX dX10_copies_4 ly_95 0 (et_t0 w) ka_100 ?_
    refine zi_icmp_ge (pc := 5) 20 hX dX10_copies_5 (by decide) (fun _ => ?_) (fun _ => ?_)
    · exact zi_vret (pc := 20) hX dX10_copies_20 rfl rfl rfl
    · refine zi_aload2 (pc := 8) hX dX10_copies_8 ?_
      refine zi_iload3 (pc := 9) hX dX10_copies_9 ?_
      refine zi_aload1 (pc := 10) hX dX10_copies_10 ?_
      refine zi_iload3 (pc := 11) hX dX10_copies_11 ?_
      refine zi_iald (pc := 12) hX dX10_copies_12 ly_95 ?_
      refine zi_iast (pc := 13) hX dX10_copies_13 ly_84 (zi_bg (fun g1 => ?_))
      refine zi_iincb3 (pc := 14) hX dX10_copies_14 (kn_1 _) rfl rfl (fun v2 => ?_)
      refine zi_goto (pc := 17) 2 hX dX10_copies_17 (by decide) ?_
      exact ih v2 g1
theorem zw_Mo_copies_95_84 {X : et_X} {w : et_W} (hX : et_Gd X w cX10_copies RX10 4 (none) [] rm_Mo_copies_95_84) (g : et_G) : et_Z X w 0 et_eU 0 [some (.ref (et_ad w 61)), some (.ref (et_ad w 95)), some (.ref (et_ad w 84)), none] [] g (fn_Mo_copies_95_84 g) := by
  unfold fn_Mo_copies_95_84
  refine zi_iconst (pc := 0) hX dX10_copies_0 ki_0 ?_
  refine zi_istore3 (pc := 1) hX dX10_copies_1 rfl rfl ?_
  refine zi_drop (le_n (le_s (le_s (le_s le_nil)))) ?_; exact zp_Mo_copies_95_84_2 hX 1000000 (0 : Int32) g
theorem ct_Mo_copies_95_84 {w : et_W} (hw : et_Sane w) (g : et_G) : et_C w yX10_copies (Cond.code yX10_copies cX10_copies 4 (none)) rm_Mo_copies_95_84 et_eU [.ref (et_ad w 61), .ref (et_ad w 95), .ref (et_ad w 84)] g (fn_Mo_copies_95_84 g) := et_mk hw (by decide) rfl rfl (fun X hX => zw_Mo_copies_95_84 hX g)
