def rm_To_put_16_1 : Room := { frames := 1, cells := 0, slots := 0, locals := 18 }
def fn_To_put_16_1 (p1 : Int32) (p3 : Int32) (p4 : Int32) (g : et_G) : Option (Unit × et_G) :=
  if (8 : Int32) < p4 then
    some ((), g)
  else
    if p3 < 0 then
      some ((), g)
    else
      if (p3 + p4) ≤ (800 : Int32) then
        et_ck (et_ib p1 46) (et_b (et_si g 18 p1.toNatClampNeg p4) (fun g1 =>
        et_ck (et_cf .byte g1 1 p3 p4 && et_cc p3 (p1 * (8 : Int32)) p4 800 368) (et_b (et_cp g1 1 17 p3.toNatClampNeg (p1 * (8 : Int32)).toNatClampNeg p4.toNatClampNeg) (fun g2 =>
        some ((), g2)))))
      else
        some ((), g)
theorem zw_To_put_16_1 {X : et_X} {w : et_W} (hX : et_Gd X w cX5_put RX5 5 (none) [] rm_To_put_16_1) (p1 : Int32) (p3 : Int32) (p4 : Int32) (g : et_G) : et_Z X w 0 et_eU 0 [some (.ref (et_ad w 16)), some (.int p1), some (.ref (et_ad w 1)), some (.int p3), some (.int p4)] [] g (fn_To_put_16_1 p1 p3 p4 g) := by
  unfold fn_To_put_16_1
  refine zi_iload4 (pc := 0) hX dX5_put_0 ?_
  refine zi_bipush (pc := 2) hX dX5_put_2 kb_8 ?_
  refine zi_icmp_gt (pc := 4) 20 hX dX5_put_4 (by decide) (fun _ => ?_) (fun _ => ?_)
  · exact zi_vret (pc := 20) hX dX5_put_20 rfl rfl rfl
  · refine zi_iload3 (pc := 7) hX dX5_put_7 ?_
    refine zi_if_lt (pc := 8) 20 hX dX5_put_8 (by decide) (fun _ => ?_) (fun _ => ?_)
    · exact zi_vret (pc := 20) hX dX5_put_20 rfl rfl rfl
    · refine zi_iload3 (pc := 11) hX dX5_put_11 ?_
      refine zi_iload4 (pc := 12) hX dX5_put_12 ?_
      refine zi_iadd (pc := 14) hX dX5_put_14 ?_
      refine zi_aload2 (pc := 15) hX dX5_put_15 ?_
      refine zi_alen (pc := 16) hX dX5_put_16 ly_1 1 (et_t1 w) ka_800 ?_
      refine zi_icmp_le (pc := 17) 21 hX dX5_put_17 (by decide) (fun _ => ?_) (fun _ => ?_)
      · refine zi_aload0 (pc := 21) hX dX5_put_21 ?_
        refine zi_getr (q := 18) (pc := 22) hX dX5_put_22 fl_157 ly_16 rfl ?_
        refine zi_iload1 (pc := 25) hX dX5_put_25 ?_
        refine zi_iload4 (pc := 26) hX dX5_put_26 ?_
        refine zi_iast (pc := 28) hX dX5_put_28 ly_18 (zi_bg (fun g1 => ?_))
        refine zi_aload2 (pc := 29) hX dX5_put_29 ?_
        refine zi_iload3 (pc := 30) hX dX5_put_30 ?_
        refine zi_aload0 (pc := 31) hX dX5_put_31 ?_
        refine zi_getr (q := 17) (pc := 32) hX dX5_put_32 fl_156 ly_16 rfl ?_
        refine zi_iload1 (pc := 35) hX dX5_put_35 ?_
        refine zi_bipush (pc := 36) hX dX5_put_36 kb_8 ?_
        refine zi_imul (pc := 38) hX dX5_put_38 ?_
        refine zi_iload4 (pc := 39) hX dX5_put_39 ?_
        refine zi_cpb (pc := 41) hX dX5_put_41 tm_878 ly_1 ly_17 rfl rfl (zi_bg (fun g2 => ?_))
        exact zi_vret (pc := 44) hX dX5_put_44 rfl rfl rfl
      · exact zi_vret (pc := 20) hX dX5_put_20 rfl rfl rfl
theorem ct_To_put_16_1 {w : et_W} (hw : et_Sane w) (p1 : Int32) (p3 : Int32) (p4 : Int32) (g : et_G) : et_C w yX5_put (Cond.code yX5_put cX5_put 5 (none)) rm_To_put_16_1 et_eU [.ref (et_ad w 16), .int p1, .ref (et_ad w 1), .int p3, .int p4] g (fn_To_put_16_1 p1 p3 p4 g) := et_mk hw (by decide) rfl rfl (fun X hX => zw_To_put_16_1 hX p1 p3 p4 g)
def rm_Re_letters_16 : Room := { frames := 3, cells := 0, slots := 0, locals := 60 }
def fn_Re_letters_16 (p2 : Int32) (g : et_G) : Option (Int32 × et_G) :=
  et_bd (fn_Re_step g) (fun _ g2 =>
  if (g2.1 28 3) = (1 : Int32) then
    if (g2.1 28 5) ≤ (8 : Int32) then
      et_bd (fn_To_put_16_1 p2 (g2.1 28 4) (g2.1 28 5) g2) (fun _ g4 =>
      some ((1 : Int32), g4))
    else
      et_bd (fn_Re_refuse (2 : Int32) g2) (fun v5 g6 =>
      some (v5 &&& 1, g6))
  else
    et_bd (fn_Re_refuse (1 : Int32) g2) (fun v7 g8 =>
    some (v7 &&& 1, g8)))
theorem zw_Re_letters_16 {X : et_X} {w : et_W} (hX : et_Gd X w cX4_letters RX4 3 (some .boolean) [] rm_Re_letters_16) (p2 : Int32) (g : et_G) : et_Z X w 0 et_eI 0 [some (.ref (et_ad w 28)), some (.ref (et_ad w 16)), some (.int p2)] [] g (fn_Re_letters_16 p2 g) := by
  unfold fn_Re_letters_16
  refine zi_aload0 (pc := 0) hX dX4_letters_0 ?_
  refine zi_callU (zc_virt (pc := 1) hX dX4_letters_1 tm_788 md_X4_step mi_X4_step ly_28 (ct_Re_step hX.sane g) rfl rfl rfl) (fun g2 => ?_)
  refine zi_aload0 (pc := 4) hX dX4_letters_4 ?_
  refine zi_geti (pc := 5) hX dX4_letters_5 fl_270 ly_28 rfl ?_
  refine zi_iconst (pc := 8) hX dX4_letters_8 ki_1 ?_
  refine zi_icmp_eq (pc := 9) 18 hX dX4_letters_9 (by decide) (fun _ => ?_) (fun _ => ?_)
  · refine zi_aload0 (pc := 18) hX dX4_letters_18 ?_
    refine zi_geti (pc := 19) hX dX4_letters_19 fl_272 ly_28 rfl ?_
    refine zi_bipush (pc := 22) hX dX4_letters_22 kb_8 ?_
    refine zi_icmp_le (pc := 24) 33 hX dX4_letters_24 (by decide) (fun _ => ?_) (fun _ => ?_)
    · refine zi_aload1 (pc := 33) hX dX4_letters_33 ?_
      refine zi_iload2 (pc := 34) hX dX4_letters_34 ?_
      refine zi_aload0 (pc := 35) hX dX4_letters_35 ?_
      refine zi_getr (q := 1) (pc := 36) hX dX4_letters_36 fl_267 ly_28 rfl ?_
      refine zi_aload0 (pc := 39) hX dX4_letters_39 ?_
      refine zi_geti (pc := 40) hX dX4_letters_40 fl_271 ly_28 rfl ?_
      refine zi_aload0 (pc := 43) hX dX4_letters_43 ?_
      refine zi_geti (pc := 44) hX dX4_letters_44 fl_272 ly_28 rfl ?_
      refine zi_callU (zc_virt (pc := 47) hX dX4_letters_47 tm_874 md_X5_put mi_X5_put ly_16 (ct_To_put_16_1 hX.sane p2 (g2.1 28 4) (g2.1 28 5) g2) rfl rfl rfl) (fun g4 => ?_)
      refine zi_iconst (pc := 50) hX dX4_letters_50 ki_1 ?_
      exact zi_ret (pc := 51) hX dX4_letters_51 et_z1 rfl rfl rfl
    · refine zi_aload0 (pc := 27) hX dX4_letters_27 ?_
      refine zi_iconst (pc := 28) hX dX4_letters_28 ki_2 ?_
      refine zi_callI (zc_virt (pc := 29) hX dX4_letters_29 tm_866 md_X4_refuse mi_X4_refuse ly_28 (ct_Re_refuse hX.sane (2 : Int32) g2) rfl rfl rfl) (fun v5 g6 => ?_)
      exact zi_ret (pc := 32) hX dX4_letters_32 rfl rfl rfl rfl
  · refine zi_aload0 (pc := 12) hX dX4_letters_12 ?_
    refine zi_iconst (pc := 13) hX dX4_letters_13 ki_1 ?_
    refine zi_callI (zc_virt (pc := 14) hX dX4_letters_14 tm_866 md_X4_refuse mi_X4_refuse ly_28 (ct_Re_refuse hX.sane (1 : Int32) g2) rfl rfl rfl) (fun v7 g8 => ?_)
    exact zi_ret (pc := 17) hX dX4_letters_17 rfl rfl rfl rfl
theorem ct_Re_letters_16 {w : et_W} (hw : et_Sane w) (p2 : Int32) (g : et_G) : et_C w yX4_letters (Cond.code yX4_letters cX4_letters 3 (some .boolean)) rm_Re_letters_16 et_eI [.ref (et_ad w 28), .ref (et_ad w 16), .int p2] g (fn_Re_letters_16 p2 g) := et_mk hw (by decide) rfl rfl (fun X hX => zw_Re_letters_16 hX p2 g)
def rm_Re_notLine_16 : Room := { frames := 4, cells := 0, slots := 0, locals := 82 }
def fn_Re_notLine_16 (g : et_G) : Option (Int32 × et_G) :=
  et_bd (fn_To_hasNot_16 g) (fun v1 g2 =>
  if v1 = 0 then
    et_bd (fn_Re_letters_16 (45 : Int32) g2) (fun v3 g4 =>
    if v3 = 0 then
      some ((0 : Int32), g4)
    else
      et_bd (fn_Re_semicolon g4) (fun v5 g6 =>
      if v5 = 0 then
        some ((0 : Int32), g6)
      else
        some ((1 : Int32), g6)))
  else
    et_bd (fn_Re_refuse (4 : Int32) g2) (fun v7 g8 =>
    some (v7 &&& 1, g8)))
theorem zw_Re_notLine_16 {X : et_X} {w : et_W} (hX : et_Gd X w cX4_notLine RX4 2 (some .boolean) [] rm_Re_notLine_16) (g : et_G) : et_Z X w 0 et_eI 0 [some (.ref (et_ad w 28)), some (.ref (et_ad w 16))] [] g (fn_Re_notLine_16 g) := by
  unfold fn_Re_notLine_16
  refine zi_aload1 (pc := 0) hX dX4_notLine_0 ?_
  refine zi_callI (zc_virt (pc := 1) hX dX4_notLine_1 tm_921 md_X5_hasNot mi_X5_hasNot ly_16 (ct_To_hasNot_16 hX.sane g) rfl rfl rfl) (fun v1 g2 => ?_)
  refine zi_if_eq (pc := 4) 13 hX dX4_notLine_4 (by decide) (fun _ => ?_) (fun _ => ?_)
  · refine zi_aload0 (pc := 13) hX dX4_notLine_13 ?_
    refine zi_aload1 (pc := 14) hX dX4_notLine_14 ?_
    refine zi_bipush (pc := 15) hX dX4_notLine_15 kb_45 ?_
    refine zi_callI (zc_virt (pc := 17) hX dX4_notLine_17 tm_870 md_X4_letters mi_X4_letters ly_28 (ct_Re_letters_16 hX.sane (45 : Int32) g2) rfl rfl rfl) (fun v3 g4 => ?_)
    refine zi_if_eq (pc := 20) 34 hX dX4_notLine_20 (by decide) (fun _ => ?_) (fun _ => ?_)
    · refine zi_iconst (pc := 34) hX dX4_notLine_34 ki_0 ?_
      exact zi_ret (pc := 35) hX dX4_notLine_35 et_z0 rfl rfl rfl
    · refine zi_aload0 (pc := 23) hX dX4_notLine_23 ?_
      refine zi_callI (zc_virt (pc := 24) hX dX4_notLine_24 tm_879 md_X4_semicolon mi_X4_semicolon ly_28 (ct_Re_semicolon hX.sane g4) rfl rfl rfl) (fun v5 g6 => ?_)
      refine zi_if_eq (pc := 27) 34 hX dX4_notLine_27 (by decide) (fun _ => ?_) (fun _ => ?_)
      · refine zi_iconst (pc := 34) hX dX4_notLine_34 ki_0 ?_
        exact zi_ret (pc := 35) hX dX4_notLine_35 et_z0 rfl rfl rfl
      · refine zi_iconst (pc := 30) hX dX4_notLine_30 ki_1 ?_
        refine zi_goto (pc := 31) 35 hX dX4_notLine_31 (by decide) ?_
        exact zi_ret (pc := 35) hX dX4_notLine_35 et_z1 rfl rfl rfl
  · refine zi_aload0 (pc := 7) hX dX4_notLine_7 ?_
    refine zi_iconst (pc := 8) hX dX4_notLine_8 ki_4 ?_
    refine zi_callI (zc_virt (pc := 9) hX dX4_notLine_9 tm_866 md_X4_refuse mi_X4_refuse ly_28 (ct_Re_refuse hX.sane (4 : Int32) g2) rfl rfl rfl) (fun v7 g8 => ?_)
    exact zi_ret (pc := 12) hX dX4_notLine_12 rfl rfl rfl rfl
theorem ct_Re_notLine_16 {w : et_W} (hw : et_Sane w) (g : et_G) : et_C w yX4_notLine (Cond.code yX4_notLine cX4_notLine 2 (some .boolean)) rm_Re_notLine_16 et_eI [.ref (et_ad w 28), .ref (et_ad w 16)] g (fn_Re_notLine_16 g) := et_mk hw (by decide) rfl rfl (fun X hX => zw_Re_notLine_16 hX g)
def rm_Re_changeLine_16 : Room := { frames := 4, cells := 0, slots := 0, locals := 82 }
def fn_Re_changeLine_16_45 (g : et_G) : Option (Int32 × et_G) :=
  et_b (et_si g 16 3 ((g.1 16 3) + (1 : Int32))) (fun g2 =>
  et_bd (fn_Re_semicolon g2) (fun v3 g4 =>
  some (v3 &&& 1, g4)))
def fn_Re_changeLine_16_19 (x2 : Int32) : Nat → Int32 → et_G → Option (Int32 × et_G)
  | 0, _, _ => none
  | n + 1, x3, g =>
    if (3 : Int32) ≤ x3 then
      fn_Re_changeLine_16_45 g
    else
      et_bd (fn_To_changeSlot x2 x3 g) (fun v5 g6 =>
      et_bd (fn_Re_letters_16 v5 g6) (fun v7 g8 =>
      if v7 = 0 then
        some ((0 : Int32), g8)
      else
        et_b (x3 + (1 : Int32)) (fun v9 =>
        fn_Re_changeLine_16_19 x2 n v9 g8)))
def fn_Re_changeLine_16 (g : et_G) : Option (Int32 × et_G) :=
  et_b (g.1 16 3) (fun v1 =>
  if v1 < (6 : Int32) then
    fn_Re_changeLine_16_19 v1 1000000 (0 : Int32) g
  else
    et_bd (fn_Re_refuse (2 : Int32) g) (fun v10 g11 =>
    some (v10 &&& 1, g11)))
theorem zp_Re_changeLine_16_45 {X : et_X} {w : et_W} (hX : et_Gd X w cX4_changeLine RX4 4 (some .boolean) [] rm_Re_changeLine_16) (g : et_G) : et_Z X w 0 et_eI 45 [some (.ref (et_ad w 28)), some (.ref (et_ad w 16)), none, none] [] g (fn_Re_changeLine_16_45 g) := by
  unfold fn_Re_changeLine_16_45
  refine zi_aload1 (pc := 45) hX dX4_changeLine_45 ?_
  refine zi_dup (pc := 46) hX dX4_changeLine_46 rfl ?_
  refine zi_geti (pc := 47) hX dX4_changeLine_47 fl_164 ly_16 rfl ?_
  refine zi_iconst (pc := 50) hX dX4_changeLine_50 ki_1 ?_
  refine zi_iadd (pc := 51) hX dX4_changeLine_51 ?_
  refine zi_puti (pc := 52) hX dX4_changeLine_52 fl_164 ly_16 rfl rfl rfl (zi_bg (fun g2 => ?_))
  refine zi_aload0 (pc := 55) hX dX4_changeLine_55 ?_
  refine zi_callI (zc_virt (pc := 56) hX dX4_changeLine_56 tm_879 md_X4_semicolon mi_X4_semicolon ly_28 (ct_Re_semicolon hX.sane g2) rfl rfl rfl) (fun v3 g4 => ?_)
  exact zi_ret (pc := 59) hX dX4_changeLine_59 rfl rfl rfl rfl
theorem zp_Re_changeLine_16_19 {X : et_X} {w : et_W} (hX : et_Gd X w cX4_changeLine RX4 4 (some .boolean) [] rm_Re_changeLine_16) (x2 : Int32) : ∀ (n : Nat) (x3 : Int32) (g : et_G), et_Z X w 0 et_eI 19 [some (.ref (et_ad w 28)), some (.ref (et_ad w 16)), some (.int x2), some (.int x3)] [] g (fn_Re_changeLine_16_19 x2 n x3 g) := by
  intro n
  induction n with
  | zero =>
    intro x3 g a g2 h
    cases h
  | succ n ih =>
    intro x3 g
    rw [fn_Re_changeLine_16_19]
    refine zi_iload3 (pc := 19) hX dX4_changeLine_19 ?_
    refine zi_iconst (pc := 20) hX dX4_changeLine_20 ki_3 ?_
    refine zi_icmp_ge (pc := 21) 45 hX dX4_changeLine_21 (by decide) (fun _ => ?_) (fun _ => ?_)
    · refine zi_drop (le_s (le_s (le_n (le_n le_nil)))) ?_; exact zp_Re_changeLine_16_45 hX g
    · refine zi_aload0 (pc := 24) hX dX4_changeLine_24 ?_
      refine zi_aload1 (pc := 25) hX dX4_changeLine_25 ?_
      refine zi_iload2 (pc := 26) hX dX4_changeLine_26 ?_
      refine zi_iload3 (pc := 27) hX dX4_changeLine_27 ?_
      refine zi_callI (zc_stat (pc := 28) hX dX4_changeLine_28 tm_913 md_X5_changeSlot st_X5_changeSlot (ct_To_changeSlot hX.sane x2 x3 g) rfl rfl rfl) (fun v5 g6 => ?_)
      refine zi_callI (zc_virt (pc := 31) hX dX4_changeLine_31 tm_870 md_X4_letters mi_X4_letters ly_28 (ct_Re_letters_16 hX.sane v5 g6) rfl rfl rfl) (fun v7 g8 => ?_)
      refine zi_if_ne (pc := 34) 39 hX dX4_changeLine_34 (by decide) (fun _ => ?_) (fun _ => ?_)
      · refine zi_iconst (pc := 37) hX dX4_changeLine_37 ki_0 ?_
        exact zi_ret (pc := 38) hX dX4_changeLine_38 et_z0 rfl rfl rfl
      · refine zi_iincb3 (pc := 39) hX dX4_changeLine_39 (kn_1 _) rfl rfl (fun v9 => ?_)
        refine zi_goto (pc := 42) 19 hX dX4_changeLine_42 (by decide) ?_
        exact ih v9 g8
theorem zw_Re_changeLine_16 {X : et_X} {w : et_W} (hX : et_Gd X w cX4_changeLine RX4 4 (some .boolean) [] rm_Re_changeLine_16) (g : et_G) : et_Z X w 0 et_eI 0 [some (.ref (et_ad w 28)), some (.ref (et_ad w 16)), none, none] [] g (fn_Re_changeLine_16 g) := by
  unfold fn_Re_changeLine_16
  refine zi_aload1 (pc := 0) hX dX4_changeLine_0 ?_
  refine zi_geti (pc := 1) hX dX4_changeLine_1 fl_164 ly_16 rfl ?_
  refine zi_bi (fun v1 => ?_)
  refine zi_istore2 (pc := 4) hX dX4_changeLine_4 rfl rfl ?_
  refine zi_iload2 (pc := 5) hX dX4_changeLine_5 ?_
  refine zi_bipush (pc := 6) hX dX4_changeLine_6 kb_6 ?_
  refine zi_icmp_lt (pc := 8) 17 hX dX4_changeLine_8 (by decide) (fun _ => ?_) (fun _ => ?_)
  · refine zi_iconst (pc := 17) hX dX4_changeLine_17 ki_0 ?_
    refine zi_istore3 (pc := 18) hX dX4_changeLine_18 rfl rfl ?_
    exact zp_Re_changeLine_16_19 hX v1 1000000 (0 : Int32) g
  · refine zi_aload0 (pc := 11) hX dX4_changeLine_11 ?_
    refine zi_iconst (pc := 12) hX dX4_changeLine_12 ki_2 ?_
    refine zi_callI (zc_virt (pc := 13) hX dX4_changeLine_13 tm_866 md_X4_refuse mi_X4_refuse ly_28 (ct_Re_refuse hX.sane (2 : Int32) g) rfl rfl rfl) (fun v10 g11 => ?_)
    exact zi_ret (pc := 16) hX dX4_changeLine_16 rfl rfl rfl rfl
theorem ct_Re_changeLine_16 {w : et_W} (hw : et_Sane w) (g : et_G) : et_C w yX4_changeLine (Cond.code yX4_changeLine cX4_changeLine 4 (some .boolean)) rm_Re_changeLine_16 et_eI [.ref (et_ad w 28), .ref (et_ad w 16)] g (fn_Re_changeLine_16 g) := et_mk hw (by decide) rfl rfl (fun X hX => zw_Re_changeLine_16 hX g)
def rm_To_hasEnding_16 : Room := { frames := 1, cells := 0, slots := 0, locals := 21 }
def fn_To_hasEnding_16 (p1 : Int32) (p2 : Int32) (g : et_G) : Option (Int32 × et_G) :=
  et_bd (fn_To_endingSlot p1 p2 g) (fun v1 g2 =>
  et_ck (et_ib v1 46) (
  if (g2.1 18 v1.toNatClampNeg) ≤ 0 then
    some ((0 : Int32), g2)
  else
    some ((1 : Int32), g2)))
theorem zw_To_hasEnding_16 {X : et_X} {w : et_W} (hX : et_Gd X w cX5_hasEnding RX5 3 (some .boolean) [] rm_To_hasEnding_16) (p1 : Int32) (p2 : Int32) (g : et_G) : et_Z X w 0 et_eI 0 [some (.ref (et_ad w 16)), some (.int p1), some (.int p2)] [] g (fn_To_hasEnding_16 p1 p2 g) := by
  unfold fn_To_hasEnding_16
  refine zi_aload0 (pc := 0) hX dX5_hasEnding_0 ?_
  refine zi_getr (q := 18) (pc := 1) hX dX5_hasEnding_1 fl_157 ly_16 rfl ?_
  refine zi_iload1 (pc := 4) hX dX5_hasEnding_4 ?_
  refine zi_iload2 (pc := 5) hX dX5_hasEnding_5 ?_
  refine zi_callI (zc_stat (pc := 6) hX dX5_hasEnding_6 tm_904 md_X5_endingSlot st_X5_endingSlot (ct_To_endingSlot hX.sane p1 p2 g) rfl rfl rfl) (fun v1 g2 => ?_)
  refine zi_iald (pc := 9) hX dX5_hasEnding_9 ly_18 ?_
  refine zi_if_le (pc := 10) 17 hX dX5_hasEnding_10 (by decide) (fun _ => ?_) (fun _ => ?_)
  · refine zi_iconst (pc := 17) hX dX5_hasEnding_17 ki_0 ?_
    exact zi_ret (pc := 18) hX dX5_hasEnding_18 et_z0 rfl rfl rfl
  · refine zi_iconst (pc := 13) hX dX5_hasEnding_13 ki_1 ?_
    refine zi_goto (pc := 14) 18 hX dX5_hasEnding_14 (by decide) ?_
    exact zi_ret (pc := 18) hX dX5_hasEnding_18 et_z1 rfl rfl rfl
theorem ct_To_hasEnding_16 {w : et_W} (hw : et_Sane w) (p1 : Int32) (p2 : Int32) (g : et_G) : et_C w yX5_hasEnding (Cond.code yX5_hasEnding cX5_hasEnding 3 (some .boolean)) rm_To_hasEnding_16 et_eI [.ref (et_ad w 16), .int p1, .int p2] g (fn_To_hasEnding_16 p1 p2 g) := et_mk hw (by decide) rfl rfl (fun X hX => zw_To_hasEnding_16 hX p1 p2 g)
def rm_Re_endingLine_16 : Room := { frames := 4, cells := 0, slots := 0, locals := 82 }
def fn_Re_endingLine_16 (g : et_G) : Option (Int32 × et_G) :=
  et_bd (fn_Re_number (2 : Int32) g) (fun v1 g2 =>
  if v1 = 0 then
    some ((0 : Int32), g2)
  else
    et_b (g2.1 28 6) (fun v3 =>
    et_bd (fn_Re_number (4 : Int32) g2) (fun v4 g5 =>
    if v4 = 0 then
      some ((0 : Int32), g5)
    else
      et_b (g5.1 28 6) (fun v6 =>
      et_bd (fn_To_hasEnding_16 v3 v6 g5) (fun v7 g8 =>
      if v7 = 0 then
        et_bd (fn_To_endingSlot v3 v6 g8) (fun v9 g10 =>
        et_bd (fn_Re_letters_16 v9 g10) (fun v11 g12 =>
        if v11 = 0 then
          some ((0 : Int32), g12)
        else
          et_bd (fn_Re_semicolon g12) (fun v13 g14 =>
          if v13 = 0 then
            some ((0 : Int32), g14)
          else
            some ((1 : Int32), g14))))
      else
        et_bd (fn_Re_refuse (4 : Int32) g8) (fun v15 g16 =>
        some (v15 &&& 1, g16)))))))
theorem zw_Re_endingLine_16 {X : et_X} {w : et_W} (hX : et_Gd X w cX4_endingLine RX4 4 (some .boolean) [] rm_Re_endingLine_16) (g : et_G) : et_Z X w 0 et_eI 0 [some (.ref (et_ad w 28)), some (.ref (et_ad w 16)), none, none] [] g (fn_Re_endingLine_16 g) := by
  unfold fn_Re_endingLine_16
  refine zi_aload0 (pc := 0) hX dX4_endingLine_0 ?_
  refine zi_iconst (pc := 1) hX dX4_endingLine_1 ki_2 ?_
  refine zi_callI (zc_virt (pc := 2) hX dX4_endingLine_2 tm_892 md_X4_number mi_X4_number ly_28 (ct_Re_number hX.sane (2 : Int32) g) rfl rfl rfl) (fun v1 g2 => ?_)
  refine zi_if_ne (pc := 5) 10 hX dX4_endingLine_5 (by decide) (fun _ => ?_) (fun _ => ?_)
  · refine zi_iconst (pc := 8) hX dX4_endingLine_8 ki_0 ?_
    exact zi_ret (pc := 9) hX dX4_endingLine_9 et_z0 rfl rfl rfl
  · refine zi_aload0 (pc := 10) hX dX4_endingLine_10 ?_
    refine zi_geti (pc := 11) hX dX4_endingLine_11 fl_273 ly_28 rfl ?_
    refine zi_bi (fun v3 => ?_)
    refine zi_istore2 (pc := 14) hX dX4_endingLine_14 rfl rfl ?_
    refine zi_aload0 (pc := 15) hX dX4_endingLine_15 ?_
    refine zi_iconst (pc := 16) hX dX4_endingLine_16 ki_4 ?_
    refine zi_callI (zc_virt (pc := 17) hX dX4_endingLine_17 tm_892 md_X4_number mi_X4_number ly_28 (ct_Re_number hX.sane (4 : Int32) g2) rfl rfl rfl) (fun v4 g5 => ?_)
    refine zi_if_ne (pc := 20) 25 hX dX4_endingLine_20 (by decide) (fun _ => ?_) (fun _ => ?_)
    · refine zi_iconst (pc := 23) hX dX4_endingLine_23 ki_0 ?_
      exact zi_ret (pc := 24) hX dX4_endingLine_24 et_z0 rfl rfl rfl
    · refine zi_aload0 (pc := 25) hX dX4_endingLine_25 ?_
      refine zi_geti (pc := 26) hX dX4_endingLine_26 fl_273 ly_28 rfl ?_
      refine zi_bi (fun v6 => ?_)
      refine zi_istore3 (pc := 29) hX dX4_endingLine_29 rfl rfl ?_
      refine zi_aload1 (pc := 30) hX dX4_endingLine_30 ?_
      refine zi_iload2 (pc := 31) hX dX4_endingLine_31 ?_
      refine zi_iload3 (pc := 32) hX dX4_endingLine_32 ?_
      refine zi_callI (zc_virt (pc := 33) hX dX4_endingLine_33 tm_900 md_X5_hasEnding mi_X5_hasEnding ly_16 (ct_To_hasEnding_16 hX.sane v3 v6 g5) rfl rfl rfl) (fun v7 g8 => ?_)
      refine zi_if_eq (pc := 36) 45 hX dX4_endingLine_36 (by decide) (fun _ => ?_) (fun _ => ?_)
      · refine zi_aload0 (pc := 45) hX dX4_endingLine_45 ?_
        refine zi_aload1 (pc := 46) hX dX4_endingLine_46 ?_
        refine zi_iload2 (pc := 47) hX dX4_endingLine_47 ?_
        refine zi_iload3 (pc := 48) hX dX4_endingLine_48 ?_
        refine zi_callI (zc_stat (pc := 49) hX dX4_endingLine_49 tm_907 md_X5_endingSlot st_X5_endingSlot (ct_To_endingSlot hX.sane v3 v6 g8) rfl rfl rfl) (fun v9 g10 => ?_)
        refine zi_callI (zc_virt (pc := 52) hX dX4_endingLine_52 tm_870 md_X4_letters mi_X4_letters ly_28 (ct_Re_letters_16 hX.sane v9 g10) rfl rfl rfl) (fun v11 g12 => ?_)
        refine zi_if_eq (pc := 55) 69 hX dX4_endingLine_55 (by decide) (fun _ => ?_) (fun _ => ?_)
        · refine zi_iconst (pc := 69) hX dX4_endingLine_69 ki_0 ?_
          exact zi_ret (pc := 70) hX dX4_endingLine_70 et_z0 rfl rfl rfl
        · refine zi_aload0 (pc := 58) hX dX4_endingLine_58 ?_
          refine zi_callI (zc_virt (pc := 59) hX dX4_endingLine_59 tm_879 md_X4_semicolon mi_X4_semicolon ly_28 (ct_Re_semicolon hX.sane g12) rfl rfl rfl) (fun v13 g14 => ?_)
          refine zi_if_eq (pc := 62) 69 hX dX4_endingLine_62 (by decide) (fun _ => ?_) (fun _ => ?_)
          · refine zi_iconst (pc := 69) hX dX4_endingLine_69 ki_0 ?_
            exact zi_ret (pc := 70) hX dX4_endingLine_70 et_z0 rfl rfl rfl
          · refine zi_iconst (pc := 65) hX dX4_endingLine_65 ki_1 ?_
            refine zi_goto (pc := 66) 70 hX dX4_endingLine_66 (by decide) ?_
            exact zi_ret (pc := 70) hX dX4_endingLine_70 et_z1 rfl rfl rfl
      · refine zi_aload0 (pc := 39) hX dX4_endingLine_39 ?_
        refine zi_iconst (pc := 40) hX dX4_endingLine_40 ki_4 ?_
        refine zi_callI (zc_virt (pc := 41) hX dX4_endingLine_41 tm_866 md_X4_refuse mi_X4_refuse ly_28 (ct_Re_refuse hX.sane (4 : Int32) g8) rfl rfl rfl) (fun v15 g16 => ?_)
        exact zi_ret (pc := 44) hX dX4_endingLine_44 rfl rfl rfl rfl
theorem ct_Re_endingLine_16 {w : et_W} (hw : et_Sane w) (g : et_G) : et_C w yX4_endingLine (Cond.code yX4_endingLine cX4_endingLine 4 (some .boolean)) rm_Re_endingLine_16 et_eI [.ref (et_ad w 28), .ref (et_ad w 16)] g (fn_Re_endingLine_16 g) := et_mk hw (by decide) rfl rfl (fun X hX => zw_Re_endingLine_16 hX g)
def rm_Re_stemLine_16 : Room := { frames := 4, cells := 0, slots := 0, locals := 82 }
def fn_Re_stemLine_16 (g : et_G) : Option (Int32 × et_G) :=
  if (g.1 16 2) < (12 : Int32) then
    et_bd (fn_Re_letters_16 (g.1 16 2) g) (fun v1 g2 =>
    if v1 = 0 then
      some ((0 : Int32), g2)
    else
      et_b (et_si g2 16 2 ((g2.1 16 2) + (1 : Int32))) (fun g3 =>
      et_bd (fn_Re_semicolon g3) (fun v4 g5 =>
      some (v4 &&& 1, g5))))
  else
    et_bd (fn_Re_refuse (2 : Int32) g) (fun v6 g7 =>
    some (v6 &&& 1, g7))
theorem zw_Re_stemLine_16 {X : et_X} {w : et_W} (hX : et_Gd X w cX4_stemLine RX4 2 (some .boolean) [] rm_Re_stemLine_16) (g : et_G) : et_Z X w 0 et_eI 0 [some (.ref (et_ad w 28)), some (.ref (et_ad w 16))] [] g (fn_Re_stemLine_16 g) := by
  unfold fn_Re_stemLine_16
  refine zi_aload1 (pc := 0) hX dX4_stemLine_0 ?_
  refine zi_geti (pc := 1) hX dX4_stemLine_1 fl_161 ly_16 rfl ?_
  refine zi_bipush (pc := 4) hX dX4_stemLine_4 kb_12 ?_
  refine zi_icmp_lt (pc := 6) 15 hX dX4_stemLine_6 (by decide) (fun _ => ?_) (fun _ => ?_)
  · refine zi_aload0 (pc := 15) hX dX4_stemLine_15 ?_
    refine zi_aload1 (pc := 16) hX dX4_stemLine_16 ?_
    refine zi_aload1 (pc := 17) hX dX4_stemLine_17 ?_
    refine zi_geti (pc := 18) hX dX4_stemLine_18 fl_161 ly_16 rfl ?_
    refine zi_callI (zc_virt (pc := 21) hX dX4_stemLine_21 tm_870 md_X4_letters mi_X4_letters ly_28 (ct_Re_letters_16 hX.sane (g.1 16 2) g) rfl rfl rfl) (fun v1 g2 => ?_)
    refine zi_if_ne (pc := 24) 29 hX dX4_stemLine_24 (by decide) (fun _ => ?_) (fun _ => ?_)
    · refine zi_iconst (pc := 27) hX dX4_stemLine_27 ki_0 ?_
      exact zi_ret (pc := 28) hX dX4_stemLine_28 et_z0 rfl rfl rfl
    · refine zi_aload1 (pc := 29) hX dX4_stemLine_29 ?_
      refine zi_dup (pc := 30) hX dX4_stemLine_30 rfl ?_
      refine zi_geti (pc := 31) hX dX4_stemLine_31 fl_161 ly_16 rfl ?_
      refine zi_iconst (pc := 34) hX dX4_stemLine_34 ki_1 ?_
      refine zi_iadd (pc := 35) hX dX4_stemLine_35 ?_
      refine zi_puti (pc := 36) hX dX4_stemLine_36 fl_161 ly_16 rfl rfl rfl (zi_bg (fun g3 => ?_))
      refine zi_aload0 (pc := 39) hX dX4_stemLine_39 ?_
      refine zi_callI (zc_virt (pc := 40) hX dX4_stemLine_40 tm_879 md_X4_semicolon mi_X4_semicolon ly_28 (ct_Re_semicolon hX.sane g3) rfl rfl rfl) (fun v4 g5 => ?_)
      exact zi_ret (pc := 43) hX dX4_stemLine_43 rfl rfl rfl rfl
  · refine zi_aload0 (pc := 9) hX dX4_stemLine_9 ?_
    refine zi_iconst (pc := 10) hX dX4_stemLine_10 ki_2 ?_
    refine zi_callI (zc_virt (pc := 11) hX dX4_stemLine_11 tm_866 md_X4_refuse mi_X4_refuse ly_28 (ct_Re_refuse hX.sane (2 : Int32) g) rfl rfl rfl) (fun v6 g7 => ?_)
    exact zi_ret (pc := 14) hX dX4_stemLine_14 rfl rfl rfl rfl
theorem ct_Re_stemLine_16 {w : et_W} (hw : et_Sane w) (g : et_G) : et_C w yX4_stemLine (Cond.code yX4_stemLine cX4_stemLine 2 (some .boolean)) rm_Re_stemLine_16 et_eI [.ref (et_ad w 28), .ref (et_ad w 16)] g (fn_Re_stemLine_16 g) := et_mk hw (by decide) rfl rfl (fun X hX => zw_Re_stemLine_16 hX g)
def rm_Re_readLine_15 : Room := { frames := 7, cells := 0, slots := 0, locals := 151 }
def fn_Re_readLine_15 (g : et_G) : Option (Int32 × et_G) :=
  et_bd (fn_Re_is_stem g) (fun v1 g2 =>
  if v1 = 0 then
    et_bd (fn_Re_is_ending g2) (fun v3 g4 =>
    if v3 = 0 then
      et_bd (fn_Re_is_change g4) (fun v5 g6 =>
      if v5 = 0 then
        et_bd (fn_Re_is_not g6) (fun v7 g8 =>
        if v7 = 0 then
          et_bd (fn_Re_is_places g8) (fun v9 g10 =>
          if v9 = 0 then
            et_bd (fn_Re_is_near g10) (fun v11 g12 =>
            if v11 = 0 then
              et_bd (fn_Re_is_person g12) (fun v13 g14 =>
              if v13 = 0 then
                et_bd (fn_Re_is_thing g14) (fun v15 g16 =>
                if v15 = 0 then
                  et_bd (fn_Re_is_rule g16) (fun v17 g18 =>
                  if v17 = 0 then
                    et_bd (fn_Re_is_at g18) (fun v19 g20 =>
                    if v19 = 0 then
                      et_bd (fn_Re_is_weigh g20) (fun v21 g22 =>
                      if v21 = 0 then
                        et_bd (fn_Re_refuse (1 : Int32) g22) (fun v23 g24 =>
                        some (v23 &&& 1, g24))
                      else
                        et_bd (fn_Re_weighLine_15 g22) (fun v25 g26 =>
                        some (v25 &&& 1, g26)))
                    else
                      et_bd (fn_Re_atLine_15 g20) (fun v27 g28 =>
                      some (v27 &&& 1, g28)))
                  else
                    et_bd (fn_Re_ruleLine_15 g18) (fun v29 g30 =>
                    some (v29 &&& 1, g30)))
                else
                  et_bd (fn_Re_thingLine_15 g16) (fun v31 g32 =>
                  some (v31 &&& 1, g32)))
              else
                et_bd (fn_Re_personLine_15 g14) (fun v33 g34 =>
                some (v33 &&& 1, g34)))
            else
              et_bd (fn_Re_nearLine_15 g12) (fun v35 g36 =>
              some (v35 &&& 1, g36)))
          else
            et_bd (fn_Re_placesLine_15 g10) (fun v37 g38 =>
            some (v37 &&& 1, g38)))
        else
          et_bd (fn_Re_notLine_16 g8) (fun v39 g40 =>
          some (v39 &&& 1, g40)))
      else
        et_bd (fn_Re_changeLine_16 g6) (fun v41 g42 =>
        some (v41 &&& 1, g42)))
    else
      et_bd (fn_Re_endingLine_16 g4) (fun v43 g44 =>
      some (v43 &&& 1, g44)))
  else
    et_bd (fn_Re_stemLine_16 g2) (fun v45 g46 =>
    some (v45 &&& 1, g46)))
theorem zw_Re_readLine_15 {X : et_X} {w : et_W} (hX : et_Gd X w cX4_readLine RX4 2 (some .boolean) [] rm_Re_readLine_15) (g : et_G) : et_Z X w 0 et_eI 0 [some (.ref (et_ad w 28)), some (.ref (et_ad w 15))] [] g (fn_Re_readLine_15 g) := by
  unfold fn_Re_readLine_15
  refine zi_aload0 (pc := 0) hX dX4_readLine_0 ?_
  refine zi_ldcs (pc := 1) hX dX4_readLine_1 sr_0 ?_
  refine zi_callI (zc_virt (pc := 3) hX dX4_readLine_3 tm_810 md_X4_is mi_X4_is ly_28 (ct_Re_is_stem hX.sane g) rfl rfl rfl) (fun v1 g2 => ?_)
  refine zi_if_eq (pc := 6) 18 hX dX4_readLine_6 (by decide) (fun _ => ?_) (fun _ => ?_)
  · refine zi_aload0 (pc := 18) hX dX4_readLine_18 ?_
    refine zi_ldcs (pc := 19) hX dX4_readLine_19 sr_1 ?_
    refine zi_callI (zc_virt (pc := 21) hX dX4_readLine_21 tm_810 md_X4_is mi_X4_is ly_28 (ct_Re_is_ending hX.sane g2) rfl rfl rfl) (fun v3 g4 => ?_)
    refine zi_if_eq (pc := 24) 36 hX dX4_readLine_24 (by decide) (fun _ => ?_) (fun _ => ?_)
    · refine zi_aload0 (pc := 36) hX dX4_readLine_36 ?_
      refine zi_ldcs (pc := 37) hX dX4_readLine_37 sr_2 ?_
      refine zi_callI (zc_virt (pc := 39) hX dX4_readLine_39 tm_810 md_X4_is mi_X4_is ly_28 (ct_Re_is_change hX.sane g4) rfl rfl rfl) (fun v5 g6 => ?_)
      refine zi_if_eq (pc := 42) 54 hX dX4_readLine_42 (by decide) (fun _ => ?_) (fun _ => ?_)
      · refine zi_aload0 (pc := 54) hX dX4_readLine_54 ?_
        refine zi_ldcs (pc := 55) hX dX4_readLine_55 sr_3 ?_
        refine zi_callI (zc_virt (pc := 57) hX dX4_readLine_57 tm_810 md_X4_is mi_X4_is ly_28 (ct_Re_is_not hX.sane g6) rfl rfl rfl) (fun v7 g8 => ?_)
        refine zi_if_eq (pc := 60) 72 hX dX4_readLine_60 (by decide) (fun _ => ?_) (fun _ => ?_)
        · refine zi_aload0 (pc := 72) hX dX4_readLine_72 ?_
          refine zi_ldcs (pc := 73) hX dX4_readLine_73 sr_4 ?_
          refine zi_callI (zc_virt (pc := 75) hX dX4_readLine_75 tm_810 md_X4_is mi_X4_is ly_28 (ct_Re_is_places hX.sane g8) rfl rfl rfl) (fun v9 g10 => ?_)
          refine zi_if_eq (pc := 78) 87 hX dX4_readLine_78 (by decide) (fun _ => ?_) (fun _ => ?_)
          · refine zi_aload0 (pc := 87) hX dX4_readLine_87 ?_
            refine zi_ldcs (pc := 88) hX dX4_readLine_88 sr_5 ?_
            refine zi_callI (zc_virt (pc := 90) hX dX4_readLine_90 tm_810 md_X4_is mi_X4_is ly_28 (ct_Re_is_near hX.sane g10) rfl rfl rfl) (fun v11 g12 => ?_)
            refine zi_if_eq (pc := 93) 102 hX dX4_readLine_93 (by decide) (fun _ => ?_) (fun _ => ?_)
            · refine zi_aload0 (pc := 102) hX dX4_readLine_102 ?_
              refine zi_ldcs (pc := 103) hX dX4_readLine_103 sr_6 ?_
              refine zi_callI (zc_virt (pc := 105) hX dX4_readLine_105 tm_810 md_X4_is mi_X4_is ly_28 (ct_Re_is_person hX.sane g12) rfl rfl rfl) (fun v13 g14 => ?_)
              refine zi_if_eq (pc := 108) 117 hX dX4_readLine_108 (by decide) (fun _ => ?_) (fun _ => ?_)
              · refine zi_aload0 (pc := 117) hX dX4_readLine_117 ?_
                refine zi_ldcs (pc := 118) hX dX4_readLine_118 sr_7 ?_
                refine zi_callI (zc_virt (pc := 120) hX dX4_readLine_120 tm_810 md_X4_is mi_X4_is ly_28 (ct_Re_is_thing hX.sane g14) rfl rfl rfl) (fun v15 g16 => ?_)
                refine zi_if_eq (pc := 123) 132 hX dX4_readLine_123 (by decide) (fun _ => ?_) (fun _ => ?_)
                · refine zi_aload0 (pc := 132) hX dX4_readLine_132 ?_
                  refine zi_ldcs (pc := 133) hX dX4_readLine_133 sr_8 ?_
                  refine zi_callI (zc_virt (pc := 135) hX dX4_readLine_135 tm_810 md_X4_is mi_X4_is ly_28 (ct_Re_is_rule hX.sane g16) rfl rfl rfl) (fun v17 g18 => ?_)
                  refine zi_if_eq (pc := 138) 147 hX dX4_readLine_138 (by decide) (fun _ => ?_) (fun _ => ?_)
                  · refine zi_aload0 (pc := 147) hX dX4_readLine_147 ?_
                    refine zi_ldcs (pc := 148) hX dX4_readLine_148 sr_9 ?_
                    refine zi_callI (zc_virt (pc := 150) hX dX4_readLine_150 tm_810 md_X4_is mi_X4_is ly_28 (ct_Re_is_at hX.sane g18) rfl rfl rfl) (fun v19 g20 => ?_)
                    refine zi_if_eq (pc := 153) 162 hX dX4_readLine_153 (by decide) (fun _ => ?_) (fun _ => ?_)
                    · refine zi_aload0 (pc := 162) hX dX4_readLine_162 ?_
                      refine zi_ldcs (pc := 163) hX dX4_readLine_163 sr_10 ?_
                      refine zi_callI (zc_virt (pc := 165) hX dX4_readLine_165 tm_810 md_X4_is mi_X4_is ly_28 (ct_Re_is_weigh hX.sane g20) rfl rfl rfl) (fun v21 g22 => ?_)
                      refine zi_if_eq (pc := 168) 179 hX dX4_readLine_168 (by decide) (fun _ => ?_) (fun _ => ?_)
                      · refine zi_aload0 (pc := 179) hX dX4_readLine_179 ?_
                        refine zi_iconst (pc := 180) hX dX4_readLine_180 ki_1 ?_
                        refine zi_callI (zc_virt (pc := 181) hX dX4_readLine_181 tm_866 md_X4_refuse mi_X4_refuse ly_28 (ct_Re_refuse hX.sane (1 : Int32) g22) rfl rfl rfl) (fun v23 g24 => ?_)
                        exact zi_ret (pc := 184) hX dX4_readLine_184 rfl rfl rfl rfl
                      · refine zi_aload0 (pc := 171) hX dX4_readLine_171 ?_
                        refine zi_aload1 (pc := 172) hX dX4_readLine_172 ?_
                        refine zi_callI (zc_virt (pc := 173) hX dX4_readLine_173 tm_975 md_X4_weighLine mi_X4_weighLine ly_28 (ct_Re_weighLine_15 hX.sane g22) rfl rfl rfl) (fun v25 g26 => ?_)
                        refine zi_goto (pc := 176) 184 hX dX4_readLine_176 (by decide) ?_
                        exact zi_ret (pc := 184) hX dX4_readLine_184 rfl rfl rfl rfl
                    · refine zi_aload0 (pc := 156) hX dX4_readLine_156 ?_
                      refine zi_aload1 (pc := 157) hX dX4_readLine_157 ?_
                      refine zi_callI (zc_virt (pc := 158) hX dX4_readLine_158 tm_970 md_X4_atLine mi_X4_atLine ly_28 (ct_Re_atLine_15 hX.sane g20) rfl rfl rfl) (fun v27 g28 => ?_)
                      exact zi_ret (pc := 161) hX dX4_readLine_161 rfl rfl rfl rfl
                  · refine zi_aload0 (pc := 141) hX dX4_readLine_141 ?_
                    refine zi_aload1 (pc := 142) hX dX4_readLine_142 ?_
                    refine zi_callI (zc_virt (pc := 143) hX dX4_readLine_143 tm_960 md_X4_ruleLine mi_X4_ruleLine ly_28 (ct_Re_ruleLine_15 hX.sane g18) rfl rfl rfl) (fun v29 g30 => ?_)
                    exact zi_ret (pc := 146) hX dX4_readLine_146 rfl rfl rfl rfl
                · refine zi_aload0 (pc := 126) hX dX4_readLine_126 ?_
                  refine zi_aload1 (pc := 127) hX dX4_readLine_127 ?_
                  refine zi_callI (zc_virt (pc := 128) hX dX4_readLine_128 tm_945 md_X4_thingLine mi_X4_thingLine ly_28 (ct_Re_thingLine_15 hX.sane g16) rfl rfl rfl) (fun v31 g32 => ?_)
                  exact zi_ret (pc := 131) hX dX4_readLine_131 rfl rfl rfl rfl
              · refine zi_aload0 (pc := 111) hX dX4_readLine_111 ?_
                refine zi_aload1 (pc := 112) hX dX4_readLine_112 ?_
                refine zi_callI (zc_virt (pc := 113) hX dX4_readLine_113 tm_940 md_X4_personLine mi_X4_personLine ly_28 (ct_Re_personLine_15 hX.sane g14) rfl rfl rfl) (fun v33 g34 => ?_)
                exact zi_ret (pc := 116) hX dX4_readLine_116 rfl rfl rfl rfl
            · refine zi_aload0 (pc := 96) hX dX4_readLine_96 ?_
              refine zi_aload1 (pc := 97) hX dX4_readLine_97 ?_
              refine zi_callI (zc_virt (pc := 98) hX dX4_readLine_98 tm_931 md_X4_nearLine mi_X4_nearLine ly_28 (ct_Re_nearLine_15 hX.sane g12) rfl rfl rfl) (fun v35 g36 => ?_)
              exact zi_ret (pc := 101) hX dX4_readLine_101 rfl rfl rfl rfl
          · refine zi_aload0 (pc := 81) hX dX4_readLine_81 ?_
            refine zi_aload1 (pc := 82) hX dX4_readLine_82 ?_
            refine zi_callI (zc_virt (pc := 83) hX dX4_readLine_83 tm_926 md_X4_placesLine mi_X4_placesLine ly_28 (ct_Re_placesLine_15 hX.sane g10) rfl rfl rfl) (fun v37 g38 => ?_)
            exact zi_ret (pc := 86) hX dX4_readLine_86 rfl rfl rfl rfl
        · refine zi_aload0 (pc := 63) hX dX4_readLine_63 ?_
          refine zi_aload1 (pc := 64) hX dX4_readLine_64 ?_
          refine zi_getr (q := 16) (pc := 65) hX dX4_readLine_65 fl_185 ly_15 rfl ?_
          refine zi_callI (zc_virt (pc := 68) hX dX4_readLine_68 tm_917 md_X4_notLine mi_X4_notLine ly_28 (ct_Re_notLine_16 hX.sane g8) rfl rfl rfl) (fun v39 g40 => ?_)
          exact zi_ret (pc := 71) hX dX4_readLine_71 rfl rfl rfl rfl
      · refine zi_aload0 (pc := 45) hX dX4_readLine_45 ?_
        refine zi_aload1 (pc := 46) hX dX4_readLine_46 ?_
        refine zi_getr (q := 16) (pc := 47) hX dX4_readLine_47 fl_185 ly_15 rfl ?_
        refine zi_callI (zc_virt (pc := 50) hX dX4_readLine_50 tm_909 md_X4_changeLine mi_X4_changeLine ly_28 (ct_Re_changeLine_16 hX.sane g6) rfl rfl rfl) (fun v41 g42 => ?_)
        exact zi_ret (pc := 53) hX dX4_readLine_53 rfl rfl rfl rfl
    · refine zi_aload0 (pc := 27) hX dX4_readLine_27 ?_
      refine zi_aload1 (pc := 28) hX dX4_readLine_28 ?_
      refine zi_getr (q := 16) (pc := 29) hX dX4_readLine_29 fl_185 ly_15 rfl ?_
      refine zi_callI (zc_virt (pc := 32) hX dX4_readLine_32 tm_888 md_X4_endingLine mi_X4_endingLine ly_28 (ct_Re_endingLine_16 hX.sane g4) rfl rfl rfl) (fun v43 g44 => ?_)
      exact zi_ret (pc := 35) hX dX4_readLine_35 rfl rfl rfl rfl
  · refine zi_aload0 (pc := 9) hX dX4_readLine_9 ?_
    refine zi_aload1 (pc := 10) hX dX4_readLine_10 ?_
    refine zi_getr (q := 16) (pc := 11) hX dX4_readLine_11 fl_185 ly_15 rfl ?_
    refine zi_callI (zc_virt (pc := 14) hX dX4_readLine_14 tm_862 md_X4_stemLine mi_X4_stemLine ly_28 (ct_Re_stemLine_16 hX.sane g2) rfl rfl rfl) (fun v45 g46 => ?_)
    exact zi_ret (pc := 17) hX dX4_readLine_17 rfl rfl rfl rfl
theorem ct_Re_readLine_15 {w : et_W} (hw : et_Sane w) (g : et_G) : et_C w yX4_readLine (Cond.code yX4_readLine cX4_readLine 2 (some .boolean)) rm_Re_readLine_15 et_eI [.ref (et_ad w 28), .ref (et_ad w 15)] g (fn_Re_readLine_15 g) := et_mk hw (by decide) rfl rfl (fun X hX => zw_Re_readLine_15 hX g)
def rm_Re_read_15 : Room := { frames := 8, cells := 0, slots := 0, locals := 172 }
def fn_Re_read_15_91 (g : et_G) : Option (Int32 × et_G) :=
  et_bd (fn_Tw_fillHours_15 g) (fun _ g10 =>
  some (g10.1 28 9, g10))
def fn_Re_read_15_47 : Nat → Int32 → Int32 → et_G → Option (Int32 × et_G)
  | 0, _, _, _ => none
  | n + 1, x3, x4, g =>
    if x3 = 0 then
      fn_Re_read_15_91 g
    else
      if (g.1 28 1) < x4 then
        fn_Re_read_15_91 g
      else
        et_bd (fn_Re_step g) (fun _ g12 =>
        if (g12.1 28 3) = 0 then
          et_b (x4 + (1 : Int32)) (fun v13 =>
          fn_Re_read_15_47 n (0 : Int32) v13 g12)
        else
          et_bd (fn_Re_readLine_15 g12) (fun v14 g15 =>
          if v14 = 0 then
            et_b (x4 + (1 : Int32)) (fun v16 =>
            fn_Re_read_15_47 n (0 : Int32) v16 g15)
          else
            et_b (x4 + (1 : Int32)) (fun v17 =>
            fn_Re_read_15_47 n (1 : Int32) v17 g15)))
def fn_Re_read_15 (p1 : Int32) (g : et_G) : Option (Int32 × et_G) :=
  et_b (et_si g 28 1 (if (800 : Int32) < p1 then (800 : Int32) else p1)) (fun g1 =>
  et_b (et_si g1 28 2 (0 : Int32)) (fun g2 =>
  et_b (et_si g2 28 7 (0 : Int32)) (fun g3 =>
  et_b (et_si g3 28 8 (0 : Int32)) (fun g4 =>
  et_b (et_si g4 28 9 (0 : Int32)) (fun g5 =>
  et_b (et_si g5 28 10 (-1 : Int32)) (fun g6 =>
  et_bd (fn_Tw_clear_15 g6) (fun _ g8 =>
  fn_Re_read_15_47 1000000 (1 : Int32) (0 : Int32) g8)))))))
theorem zp_Re_read_15_91 {X : et_X} {w : et_W} (hX : et_Gd X w cX4_read RX4 5 (some .int) [] rm_Re_read_15) (g : et_G) : et_Z X w 0 et_eI 91 [some (.ref (et_ad w 28)), none, some (.ref (et_ad w 15)), none, none] [] g (fn_Re_read_15_91 g) := by
  unfold fn_Re_read_15_91
  refine zi_aload2 (pc := 91) hX dX4_read_91 ?_
  refine zi_callU (zc_virt (pc := 92) hX dX4_read_92 tm_979 md_X6_fillHours mi_X6_fillHours ly_15 (ct_Tw_fillHours_15 hX.sane g) rfl rfl rfl) (fun g10 => ?_)
  refine zi_aload0 (pc := 95) hX dX4_read_95 ?_
  refine zi_geti (pc := 96) hX dX4_read_96 fl_276 ly_28 rfl ?_
  exact zi_ret (pc := 99) hX dX4_read_99 rfl rfl rfl rfl
theorem zp_Re_read_15_47 {X : et_X} {w : et_W} (hX : et_Gd X w cX4_read RX4 5 (some .int) [] rm_Re_read_15) : ∀ (n : Nat) (x3 : Int32) (x4 : Int32) (g : et_G), et_Z X w 0 et_eI 47 [some (.ref (et_ad w 28)), none, some (.ref (et_ad w 15)), some (.int x3), some (.int x4)] [] g (fn_Re_read_15_47 n x3 x4 g) := by
  intro n
  induction n with
  | zero =>
    intro x3 x4 g a g2 h
    cases h
  | succ n ih =>
    intro x3 x4 g
    rw [fn_Re_read_15_47]
    refine zi_iload3 (pc := 47) hX dX4_read_47 ?_
    refine zi_if_eq (pc := 48) 91 hX dX4_read_48 (by decide) (fun _ => ?_) (fun _ => ?_)
    · refine zi_drop (le_s (le_s (le_s (le_n (le_n le_nil))))) ?_; exact zp_Re_read_15_91 hX g
    · refine zi_iload4 (pc := 51) hX dX4_read_51 ?_
      refine zi_aload0 (pc := 53) hX dX4_read_53 ?_
      refine zi_geti (pc := 54) hX dX4_read_54 fl_268 ly_28 rfl ?_
      refine zi_icmp_gt (pc := 57) 91 hX dX4_read_57 (by decide) (fun _ => ?_) (fun _ => ?_)
      · refine zi_drop (le_s (le_s (le_s (le_n (le_n le_nil))))) ?_; exact zp_Re_read_15_91 hX g
      · refine zi_aload0 (pc := 60) hX dX4_read_60 ?_
        refine zi_callU (zc_virt (pc := 61) hX dX4_read_61 tm_788 md_X4_step mi_X4_step ly_28 (ct_Re_step hX.sane g) rfl rfl rfl) (fun g12 => ?_)
        refine zi_aload0 (pc := 64) hX dX4_read_64 ?_
        refine zi_geti (pc := 65) hX dX4_read_65 fl_270 ly_28 rfl ?_
        refine zi_if_eq (pc := 68) 83 hX dX4_read_68 (by decide) (fun _ => ?_) (fun _ => ?_)
        · refine zi_iconst (pc := 83) hX dX4_read_83 ki_0 ?_
          refine zi_istore3 (pc := 84) hX dX4_read_84 rfl rfl ?_
          refine zi_iincb4 (pc := 85) hX dX4_read_85 (kn_1 _) rfl rfl (fun v13 => ?_)
          refine zi_goto (pc := 88) 47 hX dX4_read_88 (by decide) ?_
          exact ih (0 : Int32) v13 g12
        · refine zi_aload0 (pc := 71) hX dX4_read_71 ?_
          refine zi_aload2 (pc := 72) hX dX4_read_72 ?_
          refine zi_callI (zc_virt (pc := 73) hX dX4_read_73 tm_805 md_X4_readLine mi_X4_readLine ly_28 (ct_Re_readLine_15 hX.sane g12) rfl rfl rfl) (fun v14 g15 => ?_)
          refine zi_if_eq (pc := 76) 83 hX dX4_read_76 (by decide) (fun _ => ?_) (fun _ => ?_)
          · refine zi_iconst (pc := 83) hX dX4_read_83 ki_0 ?_
            refine zi_istore3 (pc := 84) hX dX4_read_84 rfl rfl ?_
            refine zi_iincb4 (pc := 85) hX dX4_read_85 (kn_1 _) rfl rfl (fun v16 => ?_)
            refine zi_goto (pc := 88) 47 hX dX4_read_88 (by decide) ?_
            exact ih (0 : Int32) v16 g15
          · refine zi_iconst (pc := 79) hX dX4_read_79 ki_1 ?_
            refine zi_goto (pc := 80) 84 hX dX4_read_80 (by decide) ?_
            refine zi_istore3 (pc := 84) hX dX4_read_84 rfl rfl ?_
            refine zi_iincb4 (pc := 85) hX dX4_read_85 (kn_1 _) rfl rfl (fun v17 => ?_)
            refine zi_goto (pc := 88) 47 hX dX4_read_88 (by decide) ?_
            exact ih (1 : Int32) v17 g15
theorem zw_Re_read_15 {X : et_X} {w : et_W} (hX : et_Gd X w cX4_read RX4 5 (some .int) [] rm_Re_read_15) (p1 : Int32) (g : et_G) : et_Z X w 0 et_eI 0 [some (.ref (et_ad w 28)), some (.int p1), some (.ref (et_ad w 15)), none, none] [] g (fn_Re_read_15 p1 g) := by
  unfold fn_Re_read_15
  refine zi_aload0 (pc := 0) hX dX4_read_0 ?_
  refine zi_iload1 (pc := 1) hX dX4_read_1 ?_
  refine zi_aload0 (pc := 2) hX dX4_read_2 ?_
  refine zi_getr (q := 1) (pc := 3) hX dX4_read_3 fl_267 ly_28 rfl ?_
  refine zi_alen (pc := 6) hX dX4_read_6 ly_1 1 (et_t1 w) ka_800 ?_
  refine zi_min (pc := 7) hX dX4_read_7 tm_777 rfl rfl rfl rfl ?_
  refine zi_puti (pc := 10) hX dX4_read_10 fl_268 ly_28 rfl rfl rfl (zi_bg (fun g1 => ?_))
  refine zi_aload0 (pc := 13) hX dX4_read_13 ?_
  refine zi_iconst (pc := 14) hX dX4_read_14 ki_0 ?_
  refine zi_puti (pc := 15) hX dX4_read_15 fl_269 ly_28 rfl rfl rfl (zi_bg (fun g2 => ?_))
  refine zi_aload0 (pc := 18) hX dX4_read_18 ?_
  refine zi_iconst (pc := 19) hX dX4_read_19 ki_0 ?_
  refine zi_puti (pc := 20) hX dX4_read_20 fl_274 ly_28 rfl et_z0 et_f0 (zi_bg (fun g3 => ?_))
  refine zi_aload0 (pc := 23) hX dX4_read_23 ?_
  refine zi_iconst (pc := 24) hX dX4_read_24 ki_0 ?_
  refine zi_puti (pc := 25) hX dX4_read_25 fl_275 ly_28 rfl et_z0 et_f0 (zi_bg (fun g4 => ?_))
  refine zi_aload0 (pc := 28) hX dX4_read_28 ?_
  refine zi_iconst (pc := 29) hX dX4_read_29 ki_0 ?_
  refine zi_puti (pc := 30) hX dX4_read_30 fl_276 ly_28 rfl rfl rfl (zi_bg (fun g5 => ?_))
  refine zi_aload0 (pc := 33) hX dX4_read_33 ?_
  refine zi_iconst (pc := 34) hX dX4_read_34 ki_m1 ?_
  refine zi_puti (pc := 35) hX dX4_read_35 fl_277 ly_28 rfl rfl rfl (zi_bg (fun g6 => ?_))
  refine zi_aload2 (pc := 38) hX dX4_read_38 ?_
  refine zi_callU (zc_virt (pc := 39) hX dX4_read_39 tm_778 md_X6_clear mi_X6_clear ly_15 (ct_Tw_clear_15 hX.sane g6) rfl rfl rfl) (fun g8 => ?_)
  refine zi_iconst (pc := 42) hX dX4_read_42 ki_1 ?_
  refine zi_istore3 (pc := 43) hX dX4_read_43 rfl rfl ?_
  refine zi_iconst (pc := 44) hX dX4_read_44 ki_0 ?_
  refine zi_istore4 (pc := 45) hX dX4_read_45 rfl rfl ?_
  refine zi_drop (le_s (le_n (le_s (le_s (le_s le_nil))))) ?_; exact zp_Re_read_15_47 hX 1000000 (1 : Int32) (0 : Int32) g8
theorem ct_Re_read_15 {w : et_W} (hw : et_Sane w) (p1 : Int32) (g : et_G) : et_C w yX4_read (Cond.code yX4_read cX4_read 5 (some .int)) rm_Re_read_15 et_eI [.ref (et_ad w 28), .int p1, .ref (et_ad w 15)] g (fn_Re_read_15 p1 g) := et_mk hw (by decide) rfl rfl (fun X hX => zw_Re_read_15 hX p1 g)
def rm_To_copyFrom_16 : Room := { frames := 1, cells := 0, slots := 0, locals := 18 }
def fn_To_copyFrom_16 (g : et_G) : Option (Unit × et_G) :=
  et_ck (et_cf .byte g 17 (0 : Int32) (368 : Int32) && et_cc (0 : Int32) (0 : Int32) (368 : Int32) 368 368) (et_b (et_cp g 17 4 (0 : Int32).toNatClampNeg (0 : Int32).toNatClampNeg (368 : Int32).toNatClampNeg) (fun g1 =>
  et_ck (et_cc (0 : Int32) (0 : Int32) (46 : Int32) 46 46) (et_b (et_cp g1 18 5 (0 : Int32).toNatClampNeg (0 : Int32).toNatClampNeg (46 : Int32).toNatClampNeg) (fun g2 =>
  et_b (et_si g2 3 2 (g2.1 16 2)) (fun g3 =>
  et_b (et_si g3 3 3 (g3.1 16 3)) (fun g4 =>
  some ((), g4)))))))
theorem zw_To_copyFrom_16 {X : et_X} {w : et_W} (hX : et_Gd X w cX5_copyFrom RX5 2 (none) [] rm_To_copyFrom_16) (g : et_G) : et_Z X w 0 et_eU 0 [some (.ref (et_ad w 3)), some (.ref (et_ad w 16))] [] g (fn_To_copyFrom_16 g) := by
  unfold fn_To_copyFrom_16
  refine zi_aload1 (pc := 0) hX dX5_copyFrom_0 ?_
  refine zi_getr (q := 17) (pc := 1) hX dX5_copyFrom_1 fl_156 ly_16 rfl ?_
  refine zi_iconst (pc := 4) hX dX5_copyFrom_4 ki_0 ?_
  refine zi_aload0 (pc := 5) hX dX5_copyFrom_5 ?_
  refine zi_getr (q := 4) (pc := 6) hX dX5_copyFrom_6 fl_156 ly_3 rfl ?_
  refine zi_iconst (pc := 9) hX dX5_copyFrom_9 ki_0 ?_
  refine zi_aload0 (pc := 10) hX dX5_copyFrom_10 ?_
  refine zi_getr (q := 4) (pc := 11) hX dX5_copyFrom_11 fl_156 ly_3 rfl ?_
  refine zi_alen (pc := 14) hX dX5_copyFrom_14 ly_4 1 (et_t1 w) ka_368 ?_
  refine zi_cpb (pc := 15) hX dX5_copyFrom_15 tm_878 ly_17 ly_4 rfl rfl (zi_bg (fun g1 => ?_))
  refine zi_aload1 (pc := 18) hX dX5_copyFrom_18 ?_
  refine zi_getr (q := 18) (pc := 19) hX dX5_copyFrom_19 fl_157 ly_16 rfl ?_
  refine zi_iconst (pc := 22) hX dX5_copyFrom_22 ki_0 ?_
  refine zi_aload0 (pc := 23) hX dX5_copyFrom_23 ?_
  refine zi_getr (q := 5) (pc := 24) hX dX5_copyFrom_24 fl_157 ly_3 rfl ?_
  refine zi_iconst (pc := 27) hX dX5_copyFrom_27 ki_0 ?_
  refine zi_aload0 (pc := 28) hX dX5_copyFrom_28 ?_
  refine zi_getr (q := 5) (pc := 29) hX dX5_copyFrom_29 fl_157 ly_3 rfl ?_
  refine zi_alen (pc := 32) hX dX5_copyFrom_32 ly_5 0 (et_t0 w) ka_46 ?_
  refine zi_cpi (pc := 33) hX dX5_copyFrom_33 tm_878 ly_18 ly_5 rfl rfl (zi_bg (fun g2 => ?_))
  refine zi_aload0 (pc := 36) hX dX5_copyFrom_36 ?_
  refine zi_aload1 (pc := 37) hX dX5_copyFrom_37 ?_
  refine zi_geti (pc := 38) hX dX5_copyFrom_38 fl_158 ly_16 rfl ?_
  refine zi_puti (pc := 41) hX dX5_copyFrom_41 fl_158 ly_3 rfl rfl rfl (zi_bg (fun g3 => ?_))
  refine zi_aload0 (pc := 44) hX dX5_copyFrom_44 ?_
  refine zi_aload1 (pc := 45) hX dX5_copyFrom_45 ?_
  refine zi_geti (pc := 46) hX dX5_copyFrom_46 fl_162 ly_16 rfl ?_
  refine zi_puti (pc := 49) hX dX5_copyFrom_49 fl_162 ly_3 rfl rfl rfl (zi_bg (fun g4 => ?_))
  exact zi_vret (pc := 52) hX dX5_copyFrom_52 rfl rfl rfl
theorem ct_To_copyFrom_16 {w : et_W} (hw : et_Sane w) (g : et_G) : et_C w yX5_copyFrom (Cond.code yX5_copyFrom cX5_copyFrom 2 (none)) rm_To_copyFrom_16 et_eU [.ref (et_ad w 3), .ref (et_ad w 16)] g (fn_To_copyFrom_16 g) := et_mk hw (by decide) rfl rfl (fun X hX => zw_To_copyFrom_16 hX g)
def rm_Tw_copyFrom_15 : Room := { frames := 2, cells := 0, slots := 0, locals := 39 }
def fn_Tw_copyFrom_15 (g : et_G) : Option (Unit × et_G) :=
  et_bd (fn_To_copyFrom_16 g) (fun _ g2 =>
  et_b (et_si g2 2 1 (g2.1 15 1)) (fun g3 =>
  et_b (et_si g3 2 3 (g3.1 15 3)) (fun g4 =>
  et_b (et_si g4 2 5 (g4.1 15 5)) (fun g5 =>
  et_b (et_si g5 2 11 (g5.1 15 11)) (fun g6 =>
  et_b (et_si g6 2 9 (g6.1 15 9)) (fun g7 =>
  et_b (et_si g7 2 10 (g7.1 15 10)) (fun g8 =>
  et_ck (et_cc (0 : Int32) (0 : Int32) (6 : Int32) 6 6) (et_b (et_cp g8 20 7 (0 : Int32).toNatClampNeg (0 : Int32).toNatClampNeg (6 : Int32).toNatClampNeg) (fun g9 =>
  et_ck (et_cc (0 : Int32) (0 : Int32) (144 : Int32) 144 144) (et_b (et_cp g9 21 8 (0 : Int32).toNatClampNeg (0 : Int32).toNatClampNeg (144 : Int32).toNatClampNeg) (fun g10 =>
  et_ck (et_cc (0 : Int32) (0 : Int32) (8 : Int32) 8 8) (et_b (et_cp g10 22 9 (0 : Int32).toNatClampNeg (0 : Int32).toNatClampNeg (8 : Int32).toNatClampNeg) (fun g11 =>
  et_ck (et_cc (0 : Int32) (0 : Int32) (8 : Int32) 8 8) (et_b (et_cp g11 23 10 (0 : Int32).toNatClampNeg (0 : Int32).toNatClampNeg (8 : Int32).toNatClampNeg) (fun g12 =>
  et_ck (et_cc (0 : Int32) (0 : Int32) (8 : Int32) 8 8) (et_b (et_cp g12 24 11 (0 : Int32).toNatClampNeg (0 : Int32).toNatClampNeg (8 : Int32).toNatClampNeg) (fun g13 =>
  et_ck (et_cc (0 : Int32) (0 : Int32) (6 : Int32) 6 6) (et_b (et_cp g13 25 12 (0 : Int32).toNatClampNeg (0 : Int32).toNatClampNeg (6 : Int32).toNatClampNeg) (fun g14 =>
  et_ck (et_cc (0 : Int32) (0 : Int32) (6 : Int32) 6 6) (et_b (et_cp g14 26 13 (0 : Int32).toNatClampNeg (0 : Int32).toNatClampNeg (6 : Int32).toNatClampNeg) (fun g15 =>
  et_ck (et_cc (0 : Int32) (0 : Int32) (10 : Int32) 10 10) (et_b (et_cp g15 27 14 (0 : Int32).toNatClampNeg (0 : Int32).toNatClampNeg (10 : Int32).toNatClampNeg) (fun g16 =>
  some ((), g16))))))))))))))))))))))))
theorem zw_Tw_copyFrom_15 {X : et_X} {w : et_W} (hX : et_Gd X w cX6_copyFrom RX6 2 (none) [] rm_Tw_copyFrom_15) (g : et_G) : et_Z X w 0 et_eU 0 [some (.ref (et_ad w 2)), some (.ref (et_ad w 15))] [] g (fn_Tw_copyFrom_15 g) := by
  unfold fn_Tw_copyFrom_15
  refine zi_aload0 (pc := 0) hX dX6_copyFrom_0 ?_
  refine zi_getr (q := 3) (pc := 1) hX dX6_copyFrom_1 fl_183 ly_2 rfl ?_
  refine zi_aload1 (pc := 4) hX dX6_copyFrom_4 ?_
  refine zi_getr (q := 16) (pc := 5) hX dX6_copyFrom_5 fl_183 ly_15 rfl ?_
  refine zi_callU (zc_virt (pc := 8) hX dX6_copyFrom_8 tm_987 md_X5_copyFrom mi_X5_copyFrom ly_3 (ct_To_copyFrom_16 hX.sane g) rfl rfl rfl) (fun g2 => ?_)
  refine zi_aload0 (pc := 11) hX dX6_copyFrom_11 ?_
  refine zi_aload1 (pc := 12) hX dX6_copyFrom_12 ?_
  refine zi_geti (pc := 13) hX dX6_copyFrom_13 fl_187 ly_15 rfl ?_
  refine zi_puti (pc := 16) hX dX6_copyFrom_16 fl_187 ly_2 rfl rfl rfl (zi_bg (fun g3 => ?_))
  refine zi_aload0 (pc := 19) hX dX6_copyFrom_19 ?_
  refine zi_aload1 (pc := 20) hX dX6_copyFrom_20 ?_
  refine zi_geti (pc := 21) hX dX6_copyFrom_21 fl_192 ly_15 rfl ?_
  refine zi_puti (pc := 24) hX dX6_copyFrom_24 fl_192 ly_2 rfl rfl rfl (zi_bg (fun g4 => ?_))
  refine zi_aload0 (pc := 27) hX dX6_copyFrom_27 ?_
  refine zi_aload1 (pc := 28) hX dX6_copyFrom_28 ?_
  refine zi_geti (pc := 29) hX dX6_copyFrom_29 fl_198 ly_15 rfl ?_
  refine zi_puti (pc := 32) hX dX6_copyFrom_32 fl_198 ly_2 rfl rfl rfl (zi_bg (fun g5 => ?_))
  refine zi_aload0 (pc := 35) hX dX6_copyFrom_35 ?_
  refine zi_aload1 (pc := 36) hX dX6_copyFrom_36 ?_
  refine zi_geti (pc := 37) hX dX6_copyFrom_37 fl_219 ly_15 rfl ?_
  refine zi_puti (pc := 40) hX dX6_copyFrom_40 fl_219 ly_2 rfl rfl rfl (zi_bg (fun g6 => ?_))
  refine zi_aload0 (pc := 43) hX dX6_copyFrom_43 ?_
  refine zi_aload1 (pc := 44) hX dX6_copyFrom_44 ?_
  refine zi_geti (pc := 45) hX dX6_copyFrom_45 fl_212 ly_15 rfl ?_
  refine zi_puti (pc := 48) hX dX6_copyFrom_48 fl_212 ly_2 rfl rfl rfl (zi_bg (fun g7 => ?_))
  refine zi_aload0 (pc := 51) hX dX6_copyFrom_51 ?_
  refine zi_aload1 (pc := 52) hX dX6_copyFrom_52 ?_
  refine zi_geti (pc := 53) hX dX6_copyFrom_53 fl_215 ly_15 rfl ?_
  refine zi_puti (pc := 56) hX dX6_copyFrom_56 fl_215 ly_2 rfl rfl rfl (zi_bg (fun g8 => ?_))
  refine zi_aload1 (pc := 59) hX dX6_copyFrom_59 ?_
  refine zi_getr (q := 20) (pc := 60) hX dX6_copyFrom_60 fl_190 ly_15 rfl ?_
  refine zi_iconst (pc := 63) hX dX6_copyFrom_63 ki_0 ?_
  refine zi_aload0 (pc := 64) hX dX6_copyFrom_64 ?_
  refine zi_getr (q := 7) (pc := 65) hX dX6_copyFrom_65 fl_190 ly_2 rfl ?_
  refine zi_iconst (pc := 68) hX dX6_copyFrom_68 ki_0 ?_
  refine zi_aload0 (pc := 69) hX dX6_copyFrom_69 ?_
  refine zi_getr (q := 7) (pc := 70) hX dX6_copyFrom_70 fl_190 ly_2 rfl ?_
  refine zi_alen (pc := 73) hX dX6_copyFrom_73 ly_7 0 (et_t0 w) ka_6 ?_
  refine zi_cpi (pc := 74) hX dX6_copyFrom_74 tm_991 ly_20 ly_7 rfl rfl (zi_bg (fun g9 => ?_))
  refine zi_aload1 (pc := 77) hX dX6_copyFrom_77 ?_
  refine zi_getr (q := 21) (pc := 78) hX dX6_copyFrom_78 fl_196 ly_15 rfl ?_
  refine zi_iconst (pc := 81) hX dX6_copyFrom_81 ki_0 ?_
  refine zi_aload0 (pc := 82) hX dX6_copyFrom_82 ?_
  refine zi_getr (q := 8) (pc := 83) hX dX6_copyFrom_83 fl_196 ly_2 rfl ?_
  refine zi_iconst (pc := 86) hX dX6_copyFrom_86 ki_0 ?_
  refine zi_aload0 (pc := 87) hX dX6_copyFrom_87 ?_
  refine zi_getr (q := 8) (pc := 88) hX dX6_copyFrom_88 fl_196 ly_2 rfl ?_
  refine zi_alen (pc := 91) hX dX6_copyFrom_91 ly_8 0 (et_t0 w) ka_144 ?_
  refine zi_cpi (pc := 92) hX dX6_copyFrom_92 tm_991 ly_21 ly_8 rfl rfl (zi_bg (fun g10 => ?_))
  refine zi_aload1 (pc := 95) hX dX6_copyFrom_95 ?_
  refine zi_getr (q := 22) (pc := 96) hX dX6_copyFrom_96 fl_203 ly_15 rfl ?_
  refine zi_iconst (pc := 99) hX dX6_copyFrom_99 ki_0 ?_
  refine zi_aload0 (pc := 100) hX dX6_copyFrom_100 ?_
  refine zi_getr (q := 9) (pc := 101) hX dX6_copyFrom_101 fl_203 ly_2 rfl ?_
  refine zi_iconst (pc := 104) hX dX6_copyFrom_104 ki_0 ?_
  refine zi_aload0 (pc := 105) hX dX6_copyFrom_105 ?_
  refine zi_getr (q := 9) (pc := 106) hX dX6_copyFrom_106 fl_203 ly_2 rfl ?_
  refine zi_alen (pc := 109) hX dX6_copyFrom_109 ly_9 0 (et_t0 w) ka_8 ?_
  refine zi_cpi (pc := 110) hX dX6_copyFrom_110 tm_991 ly_22 ly_9 rfl rfl (zi_bg (fun g11 => ?_))
  refine zi_aload1 (pc := 113) hX dX6_copyFrom_113 ?_
  refine zi_getr (q := 23) (pc := 114) hX dX6_copyFrom_114 fl_206 ly_15 rfl ?_
  refine zi_iconst (pc := 117) hX dX6_copyFrom_117 ki_0 ?_
  refine zi_aload0 (pc := 118) hX dX6_copyFrom_118 ?_
  refine zi_getr (q := 10) (pc := 119) hX dX6_copyFrom_119 fl_206 ly_2 rfl ?_
  refine zi_iconst (pc := 122) hX dX6_copyFrom_122 ki_0 ?_
  refine zi_aload0 (pc := 123) hX dX6_copyFrom_123 ?_
  refine zi_getr (q := 10) (pc := 124) hX dX6_copyFrom_124 fl_206 ly_2 rfl ?_
  refine zi_alen (pc := 127) hX dX6_copyFrom_127 ly_10 0 (et_t0 w) ka_8 ?_
  refine zi_cpi (pc := 128) hX dX6_copyFrom_128 tm_991 ly_23 ly_10 rfl rfl (zi_bg (fun g12 => ?_))
  refine zi_aload1 (pc := 131) hX dX6_copyFrom_131 ?_
  refine zi_getr (q := 24) (pc := 132) hX dX6_copyFrom_132 fl_209 ly_15 rfl ?_
  refine zi_iconst (pc := 135) hX dX6_copyFrom_135 ki_0 ?_
  refine zi_aload0 (pc := 136) hX dX6_copyFrom_136 ?_
  refine zi_getr (q := 11) (pc := 137) hX dX6_copyFrom_137 fl_209 ly_2 rfl ?_
  refine zi_iconst (pc := 140) hX dX6_copyFrom_140 ki_0 ?_
  refine zi_aload0 (pc := 141) hX dX6_copyFrom_141 ?_
  refine zi_getr (q := 11) (pc := 142) hX dX6_copyFrom_142 fl_209 ly_2 rfl ?_
  refine zi_alen (pc := 145) hX dX6_copyFrom_145 ly_11 0 (et_t0 w) ka_8 ?_
  refine zi_cpi (pc := 146) hX dX6_copyFrom_146 tm_991 ly_24 ly_11 rfl rfl (zi_bg (fun g13 => ?_))
  refine zi_aload1 (pc := 149) hX dX6_copyFrom_149 ?_
  refine zi_getr (q := 25) (pc := 150) hX dX6_copyFrom_150 fl_223 ly_15 rfl ?_
  refine zi_iconst (pc := 153) hX dX6_copyFrom_153 ki_0 ?_
  refine zi_aload0 (pc := 154) hX dX6_copyFrom_154 ?_
  refine zi_getr (q := 12) (pc := 155) hX dX6_copyFrom_155 fl_223 ly_2 rfl ?_
  refine zi_iconst (pc := 158) hX dX6_copyFrom_158 ki_0 ?_
  refine zi_aload0 (pc := 159) hX dX6_copyFrom_159 ?_
  refine zi_getr (q := 12) (pc := 160) hX dX6_copyFrom_160 fl_223 ly_2 rfl ?_
  refine zi_alen (pc := 163) hX dX6_copyFrom_163 ly_12 0 (et_t0 w) ka_6 ?_
  refine zi_cpi (pc := 164) hX dX6_copyFrom_164 tm_991 ly_25 ly_12 rfl rfl (zi_bg (fun g14 => ?_))
  refine zi_aload1 (pc := 167) hX dX6_copyFrom_167 ?_
  refine zi_getr (q := 26) (pc := 168) hX dX6_copyFrom_168 fl_225 ly_15 rfl ?_
  refine zi_iconst (pc := 171) hX dX6_copyFrom_171 ki_0 ?_
  refine zi_aload0 (pc := 172) hX dX6_copyFrom_172 ?_
  refine zi_getr (q := 13) (pc := 173) hX dX6_copyFrom_173 fl_225 ly_2 rfl ?_
  refine zi_iconst (pc := 176) hX dX6_copyFrom_176 ki_0 ?_
  refine zi_aload0 (pc := 177) hX dX6_copyFrom_177 ?_
  refine zi_getr (q := 13) (pc := 178) hX dX6_copyFrom_178 fl_225 ly_2 rfl ?_
  refine zi_alen (pc := 181) hX dX6_copyFrom_181 ly_13 0 (et_t0 w) ka_6 ?_
  refine zi_cpi (pc := 182) hX dX6_copyFrom_182 tm_991 ly_26 ly_13 rfl rfl (zi_bg (fun g15 => ?_))
  refine zi_aload1 (pc := 185) hX dX6_copyFrom_185 ?_
  refine zi_getr (q := 27) (pc := 186) hX dX6_copyFrom_186 fl_228 ly_15 rfl ?_
  refine zi_iconst (pc := 189) hX dX6_copyFrom_189 ki_0 ?_
  refine zi_aload0 (pc := 190) hX dX6_copyFrom_190 ?_
  refine zi_getr (q := 14) (pc := 191) hX dX6_copyFrom_191 fl_228 ly_2 rfl ?_
  refine zi_iconst (pc := 194) hX dX6_copyFrom_194 ki_0 ?_
  refine zi_aload0 (pc := 195) hX dX6_copyFrom_195 ?_
  refine zi_getr (q := 14) (pc := 196) hX dX6_copyFrom_196 fl_228 ly_2 rfl ?_
  refine zi_alen (pc := 199) hX dX6_copyFrom_199 ly_14 0 (et_t0 w) ka_10 ?_
  refine zi_cpi (pc := 200) hX dX6_copyFrom_200 tm_991 ly_27 ly_14 rfl rfl (zi_bg (fun g16 => ?_))
  exact zi_vret (pc := 203) hX dX6_copyFrom_203 rfl rfl rfl
theorem ct_Tw_copyFrom_15 {w : et_W} (hw : et_Sane w) (g : et_G) : et_C w yX6_copyFrom (Cond.code yX6_copyFrom cX6_copyFrom 2 (none)) rm_Tw_copyFrom_15 et_eU [.ref (et_ad w 2), .ref (et_ad w 15)] g (fn_Tw_copyFrom_15 g) := et_mk hw (by decide) rfl rfl (fun X hX => zw_Tw_copyFrom_15 hX g)
def rm_Mi_clear : Room := { frames := 0, cells := 0, slots := 0, locals := 0 }
def fn_Mi_clear (g : et_G) : Option (Unit × et_G) :=
  et_b (et_si g 46 1 (0 : Int32)) (fun g1 =>
  et_b (et_si g1 46 2 (0 : Int32)) (fun g2 =>
  some ((), g2)))
theorem zw_Mi_clear {X : et_X} {w : et_W} (hX : et_Gd X w cX3_clear RX3 1 (none) [] rm_Mi_clear) (g : et_G) : et_Z X w 0 et_eU 0 [some (.ref (et_ad w 46))] [] g (fn_Mi_clear g) := by
  unfold fn_Mi_clear
  refine zi_aload0 (pc := 0) hX dX3_clear_0 ?_
  refine zi_iconst (pc := 1) hX dX3_clear_1 ki_0 ?_
  refine zi_puti (pc := 2) hX dX3_clear_2 fl_399 ly_46 rfl rfl rfl (zi_bg (fun g1 => ?_))
  refine zi_aload0 (pc := 5) hX dX3_clear_5 ?_
  refine zi_iconst (pc := 6) hX dX3_clear_6 ki_0 ?_
  refine zi_puti (pc := 7) hX dX3_clear_7 fl_400 ly_46 rfl rfl rfl (zi_bg (fun g2 => ?_))
  exact zi_vret (pc := 10) hX dX3_clear_10 rfl rfl rfl
theorem ct_Mi_clear {w : et_W} (hw : et_Sane w) (g : et_G) : et_C w yX3_clear (Cond.code yX3_clear cX3_clear 1 (none)) rm_Mi_clear et_eU [.ref (et_ad w 46)] g (fn_Mi_clear g) := et_mk hw (by decide) rfl rfl (fun X hX => zw_Mi_clear hX g)
def rm_Me_clear : Room := { frames := 0, cells := 0, slots := 0, locals := 0 }
def fn_Me_clear (g : et_G) : Option (Unit × et_G) :=
  et_b (et_si g 59 3 (-1 : Int32)) (fun g1 =>
  some ((), g1))
theorem zw_Me_clear {X : et_X} {w : et_W} (hX : et_Gd X w cX2_clear RX2 1 (none) [] rm_Me_clear) (g : et_G) : et_Z X w 0 et_eU 0 [some (.ref (et_ad w 59))] [] g (fn_Me_clear g) := by
  unfold fn_Me_clear
  refine zi_aload0 (pc := 0) hX dX2_clear_0 ?_
  refine zi_iconst (pc := 1) hX dX2_clear_1 ki_m1 ?_
  refine zi_puti (pc := 2) hX dX2_clear_2 fl_480 ly_59 rfl rfl rfl (zi_bg (fun g1 => ?_))
  exact zi_vret (pc := 5) hX dX2_clear_5 rfl rfl rfl
theorem ct_Me_clear {w : et_W} (hw : et_Sane w) (g : et_G) : et_C w yX2_clear (Cond.code yX2_clear cX2_clear 1 (none)) rm_Me_clear et_eU [.ref (et_ad w 59)] g (fn_Me_clear g) := et_mk hw (by decide) rfl rfl (fun X hX => zw_Me_clear hX g)
def rm_Et_village : Room := { frames := 9, cells := 1, slots := 6, locals := 196 }
def fn_Et_village (p1 : Int32) (g : et_G) : Option ((Nat ⊕ Int32) × et_G) :=
  et_bt (fn_Et_takeTape p1 g) (fun _ g2 =>
  et_bd (fn_Re_read_15 p1 g2) (fun v3 g4 =>
  et_b (et_si g4 0 14 (g4.1 28 10)) (fun g5 =>
  if v3 = 0 then
    et_bd (fn_Tw_copyFrom_15 g5) (fun _ g7 =>
    et_b (et_si g7 34 0 (0 : Int32)) (fun g8 =>
    et_bd (fn_Mi_clear g8) (fun _ g10 =>
    et_bd (fn_Me_clear g10) (fun _ g12 =>
    et_b (et_si g12 0 11 (0 : Int32)) (fun g13 =>
    et_bd (fn_Gr_forget g13) (fun _ g15 =>
    some (.inr ((0 : Int32)), g15)))))))
  else
    et_b (et_si g5 0 15 ((g5.1 0 15) + (1 : Int32))) (fun g16 =>
    some (.inr (v3), g16)))))
theorem zw_Et_village {X : et_X} {w : et_W} (hX : et_Gd X w cX9_village RX9 3 (some .int) [] rm_Et_village) (p1 : Int32) (g : et_G) : et_Z X w 0 et_tI 0 [some (.ref (et_ad w 0)), some (.int p1), none] [] g (fn_Et_village p1 g) := by
  unfold fn_Et_village
  refine zi_aload0 (pc := 0) hX dX9_village_0 ?_
  refine zi_iload1 (pc := 1) hX dX9_village_1 ?_
  refine zi_callTU hX (fun _ => rfl) rfl rfl (zc_virt (pc := 2) hX dX9_village_2 tm_707 md_X9_takeTape mi_X9_takeTape ly_0 (ct_Et_takeTape hX.sane p1 g) rfl rfl rfl) (fun g2 => ?_)
  refine zi_aload0 (pc := 5) hX dX9_village_5 ?_
  refine zi_getr (q := 28) (pc := 6) hX dX9_village_6 fl_495 ly_0 rfl ?_
  refine zi_iload1 (pc := 9) hX dX9_village_9 ?_
  refine zi_aload0 (pc := 10) hX dX9_village_10 ?_
  refine zi_getr (q := 15) (pc := 11) hX dX9_village_11 fl_494 ly_0 rfl ?_
  refine zi_callI (zc_virt (pc := 14) hX dX9_village_14 tm_773 md_X4_read mi_X4_read ly_28 (ct_Re_read_15 hX.sane p1 g2) rfl rfl rfl) (fun v3 g4 => ?_)
  refine zi_istore2 (pc := 17) hX dX9_village_17 rfl rfl ?_
  refine zi_aload0 (pc := 18) hX dX9_village_18 ?_
  refine zi_aload0 (pc := 19) hX dX9_village_19 ?_
  refine zi_getr (q := 28) (pc := 20) hX dX9_village_20 fl_495 ly_0 rfl ?_
  refine zi_geti (pc := 23) hX dX9_village_23 fl_278 ly_28 rfl ?_
  refine zi_puti (pc := 26) hX dX9_village_26 fl_505 ly_0 rfl rfl rfl (zi_bg (fun g5 => ?_))
  refine zi_iload2 (pc := 29) hX dX9_village_29 ?_
  refine zi_if_eq (pc := 30) 45 hX dX9_village_30 (by decide) (fun _ => ?_) (fun _ => ?_)
  · refine zi_aload0 (pc := 45) hX dX9_village_45 ?_
    refine zi_getr (q := 2) (pc := 46) hX dX9_village_46 fl_493 ly_0 rfl ?_
    refine zi_aload0 (pc := 49) hX dX9_village_49 ?_
    refine zi_getr (q := 15) (pc := 50) hX dX9_village_50 fl_494 ly_0 rfl ?_
    refine zi_callU (zc_virt (pc := 53) hX dX9_village_53 tm_983 md_X6_copyFrom mi_X6_copyFrom ly_2 (ct_Tw_copyFrom_15 hX.sane g5) rfl rfl rfl) (fun g7 => ?_)
    refine zi_aload0 (pc := 56) hX dX9_village_56 ?_
    refine zi_getr (q := 34) (pc := 57) hX dX9_village_57 fl_498 ly_0 rfl ?_
    refine zi_iconst (pc := 60) hX dX9_village_60 ki_0 ?_
    refine zi_puti (pc := 61) hX dX9_village_61 fl_360 ly_34 rfl rfl rfl (zi_bg (fun g8 => ?_))
    refine zi_aload0 (pc := 64) hX dX9_village_64 ?_
    refine zi_getr (q := 46) (pc := 65) hX dX9_village_65 fl_500 ly_0 rfl ?_
    refine zi_callU (zc_virt (pc := 68) hX dX9_village_68 tm_992 md_X3_clear mi_X3_clear ly_46 (ct_Mi_clear hX.sane g8) rfl rfl rfl) (fun g10 => ?_)
    refine zi_aload0 (pc := 71) hX dX9_village_71 ?_
    refine zi_getr (q := 59) (pc := 72) hX dX9_village_72 fl_504 ly_0 rfl ?_
    refine zi_callU (zc_virt (pc := 75) hX dX9_village_75 tm_996 md_X2_clear mi_X2_clear ly_59 (ct_Me_clear hX.sane g10) rfl rfl rfl) (fun g12 => ?_)
    refine zi_aload0 (pc := 78) hX dX9_village_78 ?_
    refine zi_iconst (pc := 79) hX dX9_village_79 ki_0 ?_
    refine zi_puti (pc := 80) hX dX9_village_80 fl_502 ly_0 rfl et_z0 et_f0 (zi_bg (fun g13 => ?_))
    refine zi_aload0 (pc := 83) hX dX9_village_83 ?_
    refine zi_getr (q := 48) (pc := 84) hX dX9_village_84 fl_503 ly_0 rfl ?_
    refine zi_callU (zc_virt (pc := 87) hX dX9_village_87 tm_562 md_X0_forget mi_X0_forget ly_48 (ct_Gr_forget hX.sane g13) rfl rfl rfl) (fun g15 => ?_)
    refine zi_iconst (pc := 90) hX dX9_village_90 ki_0 ?_
    exact zi_ret (pc := 91) hX dX9_village_91 rfl rfl rfl rfl
  · refine zi_aload0 (pc := 33) hX dX9_village_33 ?_
    refine zi_dup (pc := 34) hX dX9_village_34 rfl ?_
    refine zi_geti (pc := 35) hX dX9_village_35 fl_506 ly_0 rfl ?_
    refine zi_iconst (pc := 38) hX dX9_village_38 ki_1 ?_
    refine zi_iadd (pc := 39) hX dX9_village_39 ?_
    refine zi_puti (pc := 40) hX dX9_village_40 fl_506 ly_0 rfl rfl rfl (zi_bg (fun g16 => ?_))
    refine zi_iload2 (pc := 43) hX dX9_village_43 ?_
    exact zi_ret (pc := 44) hX dX9_village_44 rfl rfl rfl rfl
theorem ct_Et_village {w : et_W} (hw : et_Sane w) (p1 : Int32) (g : et_G) : et_C w yX9_village (Cond.code yX9_village cX9_village 3 (some .int)) rm_Et_village et_tI [.ref (et_ad w 0), .int p1] g (fn_Et_village p1 g) := et_mk hw (by decide) rfl rfl (fun X hX => zw_Et_village hX p1 g)
def rm_Et_way : Room := { frames := 6, cells := 1, slots := 6, locals := 81 }
def fn_Et_way (p1 : Int32) (g : et_G) : Option ((Nat ⊕ Int32) × et_G) :=
  if p1 < 0 then
    some (.inl 0, g)
  else
    if p1 < (g.1 29 1) then
      et_ck (et_ib p1 180) (
      some (.inr (g.1 30 p1.toNatClampNeg), g))
    else
      some (.inl 0, g)
theorem zw_Et_way {X : et_X} {w : et_W} (hX : et_Gd X w cX9_way RX9 2 (some .int) [] rm_Et_way) (p1 : Int32) (g : et_G) : et_Z X w 0 et_tI 0 [some (.ref (et_ad w 0)), some (.int p1)] [] g (fn_Et_way p1 g) := by
  unfold fn_Et_way
  refine zi_iload1 (pc := 0) hX dX9_way_0 ?_
  refine zi_if_lt (pc := 1) 15 hX dX9_way_1 (by decide) (fun _ => ?_) (fun _ => ?_)
  · exact zi_thr (pc := 15) hX dX9_way_15 dX9_way_18 dX9_way_19 dX9_way_22 th_0 rfl rfl rfl rfl rfl
  · refine zi_iload1 (pc := 4) hX dX9_way_4 ?_
    refine zi_aload0 (pc := 5) hX dX9_way_5 ?_
    refine zi_getr (q := 29) (pc := 6) hX dX9_way_6 fl_496 ly_0 rfl ?_
    refine zi_geti (pc := 9) hX dX9_way_9 fl_313 ly_29 rfl ?_
    refine zi_icmp_lt (pc := 12) 23 hX dX9_way_12 (by decide) (fun _ => ?_) (fun _ => ?_)
    · refine zi_aload0 (pc := 23) hX dX9_way_23 ?_
      refine zi_getr (q := 29) (pc := 24) hX dX9_way_24 fl_496 ly_0 rfl ?_
      refine zi_getr (q := 30) (pc := 27) hX dX9_way_27 fl_310 ly_29 rfl ?_
      refine zi_iload1 (pc := 30) hX dX9_way_30 ?_
      refine zi_iald (pc := 31) hX dX9_way_31 ly_30 ?_
      exact zi_ret (pc := 32) hX dX9_way_32 rfl rfl rfl rfl
    · exact zi_thr (pc := 15) hX dX9_way_15 dX9_way_18 dX9_way_19 dX9_way_22 th_0 rfl rfl rfl rfl rfl
theorem ct_Et_way {w : et_W} (hw : et_Sane w) (p1 : Int32) (g : et_G) : et_C w yX9_way (Cond.code yX9_way cX9_way 2 (some .int)) rm_Et_way et_tI [.ref (et_ad w 0), .int p1] g (fn_Et_way p1 g) := et_mk hw (by decide) rfl rfl (fun X hX => zw_Et_way hX p1 g)
def rm_Et_where : Room := { frames := 7, cells := 2, slots := 12, locals := 102 }
def fn_Et_where (p1 : Int32) (p2 : Int32) (g : et_G) : Option ((Nat ⊕ Int32) × et_G) :=
  et_bt (fn_Et_needPerson p1 g) (fun _ g2 =>
  et_bt (fn_Et_needHour p2 g2) (fun _ g4 =>
  et_bd (fn_Tw_placeAt p1 p2 g4) (fun v5 g6 =>
  some (.inr (v5), g6))))
theorem zw_Et_where {X : et_X} {w : et_W} (hX : et_Gd X w cX9_where RX9 3 (some .int) [] rm_Et_where) (p1 : Int32) (p2 : Int32) (g : et_G) : et_Z X w 0 et_tI 0 [some (.ref (et_ad w 0)), some (.int p1), some (.int p2)] [] g (fn_Et_where p1 p2 g) := by
  unfold fn_Et_where
  refine zi_aload0 (pc := 0) hX dX9_where_0 ?_
  refine zi_iload1 (pc := 1) hX dX9_where_1 ?_
  refine zi_callTU hX (fun _ => rfl) rfl rfl (zc_virt (pc := 2) hX dX9_where_2 tm_1031 md_X9_needPerson mi_X9_needPerson ly_0 (ct_Et_needPerson hX.sane p1 g) rfl rfl rfl) (fun g2 => ?_)
  refine zi_aload0 (pc := 5) hX dX9_where_5 ?_
  refine zi_iload2 (pc := 6) hX dX9_where_6 ?_
  refine zi_callTU hX (fun _ => rfl) rfl rfl (zc_virt (pc := 7) hX dX9_where_7 tm_1039 md_X9_needHour mi_X9_needHour ly_0 (ct_Et_needHour hX.sane p2 g2) rfl rfl rfl) (fun g4 => ?_)
  refine zi_aload0 (pc := 10) hX dX9_where_10 ?_
  refine zi_getr (q := 2) (pc := 11) hX dX9_where_11 fl_493 ly_0 rfl ?_
  refine zi_iload1 (pc := 14) hX dX9_where_14 ?_
  refine zi_iload2 (pc := 15) hX dX9_where_15 ?_
  refine zi_callI (zc_virt (pc := 16) hX dX9_where_16 tm_1046 md_X6_placeAt mi_X6_placeAt ly_2 (ct_Tw_placeAt hX.sane p1 p2 g4) rfl rfl rfl) (fun v5 g6 => ?_)
  exact zi_ret (pc := 19) hX dX9_where_19 rfl rfl rfl rfl
theorem ct_Et_where {w : et_W} (hw : et_Sane w) (p1 : Int32) (p2 : Int32) (g : et_G) : et_C w yX9_where (Cond.code yX9_where cX9_where 3 (some .int)) rm_Et_where et_tI [.ref (et_ad w 0), .int p1, .int p2] g (fn_Et_where p1 p2 g) := et_mk hw (by decide) rfl rfl (fun X hX => zw_Et_where hX p1 p2 g)
def rm_To_hasStem : Room := { frames := 0, cells := 0, slots := 0, locals := 0 }
def fn_To_hasStem (p1 : Int32) (g : et_G) : Option (Int32 × et_G) :=
  if p1 < 0 then
    some ((0 : Int32), g)
  else
    if (g.1 3 2) ≤ p1 then
      some ((0 : Int32), g)
    else
      some ((1 : Int32), g)
theorem zw_To_hasStem {X : et_X} {w : et_W} (hX : et_Gd X w cX5_hasStem RX5 2 (some .boolean) [] rm_To_hasStem) (p1 : Int32) (g : et_G) : et_Z X w 0 et_eI 0 [some (.ref (et_ad w 3)), some (.int p1)] [] g (fn_To_hasStem p1 g) := by
  unfold fn_To_hasStem
  refine zi_iload1 (pc := 0) hX dX5_hasStem_0 ?_
  refine zi_if_lt (pc := 1) 16 hX dX5_hasStem_1 (by decide) (fun _ => ?_) (fun _ => ?_)
  · refine zi_iconst (pc := 16) hX dX5_hasStem_16 ki_0 ?_
    exact zi_ret (pc := 17) hX dX5_hasStem_17 et_z0 rfl rfl rfl
  · refine zi_iload1 (pc := 4) hX dX5_hasStem_4 ?_
    refine zi_aload0 (pc := 5) hX dX5_hasStem_5 ?_
    refine zi_geti (pc := 6) hX dX5_hasStem_6 fl_158 ly_3 rfl ?_
    refine zi_icmp_ge (pc := 9) 16 hX dX5_hasStem_9 (by decide) (fun _ => ?_) (fun _ => ?_)
    · refine zi_iconst (pc := 16) hX dX5_hasStem_16 ki_0 ?_
      exact zi_ret (pc := 17) hX dX5_hasStem_17 et_z0 rfl rfl rfl
    · refine zi_iconst (pc := 12) hX dX5_hasStem_12 ki_1 ?_
      refine zi_goto (pc := 13) 17 hX dX5_hasStem_13 (by decide) ?_
      exact zi_ret (pc := 17) hX dX5_hasStem_17 et_z1 rfl rfl rfl
theorem ct_To_hasStem {w : et_W} (hw : et_Sane w) (p1 : Int32) (g : et_G) : et_C w yX5_hasStem (Cond.code yX5_hasStem cX5_hasStem 2 (some .boolean)) rm_To_hasStem et_eI [.ref (et_ad w 3), .int p1] g (fn_To_hasStem p1 g) := et_mk hw (by decide) rfl rfl (fun X hX => zw_To_hasStem hX p1 g)
def rm_Et_word : Room := { frames := 6, cells := 1, slots := 6, locals := 98 }
def fn_Et_word (p1 : Int32) (p2 : Int32) (p3 : Int32) (p4 : Int32) (g : et_G) : Option ((Nat ⊕ Int32) × et_G) :=
  et_bd (fn_To_hasStem p1 g) (fun v1 g2 =>
  if v1 = 0 then
    some (.inl 0, g2)
  else
    if p2 < 0 then
      some (.inl 0, g2)
    else
      if (3 : Int32) ≤ p2 then
        some (.inl 0, g2)
      else
        if p3 < 0 then
          some (.inl 0, g2)
        else
          if p3 < (5 : Int32) then
            et_bd (fn_To_make p1 p2 p3 g2) (fun v3 g4 =>
            if p4 = (-1 : Int32) then
              some (.inr (v3), g4)
            else
              if p4 < 0 then
                some (.inl 0, g4)
              else
                if p4 < v3 then
                  et_ck (et_ib p4 24) (
                  some (.inr (g4.1 6 p4.toNatClampNeg), g4))
                else
                  some (.inl 0, g4))
          else
            some (.inl 0, g2))
theorem zw_Et_word {X : et_X} {w : et_W} (hX : et_Gd X w cX9_word RX9 7 (some .int) [] rm_Et_word) (p1 : Int32) (p2 : Int32) (p3 : Int32) (p4 : Int32) (g : et_G) : et_Z X w 0 et_tI 0 [some (.ref (et_ad w 0)), some (.int p1), some (.int p2), some (.int p3), some (.int p4), none, none] [] g (fn_Et_word p1 p2 p3 p4 g) := by
  unfold fn_Et_word
  refine zi_aload0 (pc := 0) hX dX9_word_0 ?_
  refine zi_getr (q := 2) (pc := 1) hX dX9_word_1 fl_493 ly_0 rfl ?_
  refine zi_getr (q := 3) (pc := 4) hX dX9_word_4 fl_186 ly_2 rfl ?_
  refine zi_astore5 (pc := 7) hX dX9_word_7 rfl rfl ?_
  refine zi_aload5 (pc := 9) hX dX9_word_9 ?_
  refine zi_iload1 (pc := 11) hX dX9_word_11 ?_
  refine zi_callI (zc_virt (pc := 12) hX dX9_word_12 tm_1070 md_X5_hasStem mi_X5_hasStem ly_3 (ct_To_hasStem hX.sane p1 g) rfl rfl rfl) (fun v1 g2 => ?_)
  refine zi_if_eq (pc := 15) 36 hX dX9_word_15 (by decide) (fun _ => ?_) (fun _ => ?_)
  · exact zi_thr (pc := 36) hX dX9_word_36 dX9_word_39 dX9_word_40 dX9_word_43 th_0 rfl rfl rfl rfl rfl
  · refine zi_iload2 (pc := 18) hX dX9_word_18 ?_
    refine zi_if_lt (pc := 19) 36 hX dX9_word_19 (by decide) (fun _ => ?_) (fun _ => ?_)
    · exact zi_thr (pc := 36) hX dX9_word_36 dX9_word_39 dX9_word_40 dX9_word_43 th_0 rfl rfl rfl rfl rfl
    · refine zi_iload2 (pc := 22) hX dX9_word_22 ?_
      refine zi_iconst (pc := 23) hX dX9_word_23 ki_3 ?_
      refine zi_icmp_ge (pc := 24) 36 hX dX9_word_24 (by decide) (fun _ => ?_) (fun _ => ?_)
      · exact zi_thr (pc := 36) hX dX9_word_36 dX9_word_39 dX9_word_40 dX9_word_43 th_0 rfl rfl rfl rfl rfl
      · refine zi_iload3 (pc := 27) hX dX9_word_27 ?_
        refine zi_if_lt (pc := 28) 36 hX dX9_word_28 (by decide) (fun _ => ?_) (fun _ => ?_)
        · exact zi_thr (pc := 36) hX dX9_word_36 dX9_word_39 dX9_word_40 dX9_word_43 th_0 rfl rfl rfl rfl rfl
        · refine zi_iload3 (pc := 31) hX dX9_word_31 ?_
          refine zi_iconst (pc := 32) hX dX9_word_32 ki_5 ?_
          refine zi_icmp_lt (pc := 33) 44 hX dX9_word_33 (by decide) (fun _ => ?_) (fun _ => ?_)
          · refine zi_aload5 (pc := 44) hX dX9_word_44 ?_
            refine zi_iload1 (pc := 46) hX dX9_word_46 ?_
            refine zi_iload2 (pc := 47) hX dX9_word_47 ?_
            refine zi_iload3 (pc := 48) hX dX9_word_48 ?_
            refine zi_callI (zc_virt (pc := 49) hX dX9_word_49 tm_1074 md_X5_make mi_X5_make ly_3 (ct_To_make hX.sane p1 p2 p3 g2) rfl rfl rfl) (fun v3 g4 => ?_)
            refine zi_istore6 (pc := 52) hX dX9_word_52 rfl rfl ?_
            refine zi_iload4 (pc := 54) hX dX9_word_54 ?_
            refine zi_iconst (pc := 56) hX dX9_word_56 ki_m1 ?_
            refine zi_icmp_ne (pc := 57) 63 hX dX9_word_57 (by decide) (fun _ => ?_) (fun _ => ?_)
            · refine zi_iload6 (pc := 60) hX dX9_word_60 ?_
              exact zi_ret (pc := 62) hX dX9_word_62 rfl rfl rfl rfl
            · refine zi_iload4 (pc := 63) hX dX9_word_63 ?_
              refine zi_if_lt (pc := 65) 75 hX dX9_word_65 (by decide) (fun _ => ?_) (fun _ => ?_)
              · exact zi_thr (pc := 75) hX dX9_word_75 dX9_word_78 dX9_word_79 dX9_word_82 th_0 rfl rfl rfl rfl rfl
              · refine zi_iload4 (pc := 68) hX dX9_word_68 ?_
                refine zi_iload6 (pc := 70) hX dX9_word_70 ?_
                refine zi_icmp_lt (pc := 72) 83 hX dX9_word_72 (by decide) (fun _ => ?_) (fun _ => ?_)
                · refine zi_aload5 (pc := 83) hX dX9_word_83 ?_
                  refine zi_getr (q := 6) (pc := 85) hX dX9_word_85 fl_166 ly_3 rfl ?_
                  refine zi_iload4 (pc := 88) hX dX9_word_88 ?_
                  refine zi_bald (pc := 90) hX dX9_word_90 ly_6 ?_
                  exact zi_ret (pc := 91) hX dX9_word_91 rfl rfl rfl rfl
                · exact zi_thr (pc := 75) hX dX9_word_75 dX9_word_78 dX9_word_79 dX9_word_82 th_0 rfl rfl rfl rfl rfl
          · exact zi_thr (pc := 36) hX dX9_word_36 dX9_word_39 dX9_word_40 dX9_word_43 th_0 rfl rfl rfl rfl rfl
theorem ct_Et_word {w : et_W} (hw : et_Sane w) (p1 : Int32) (p2 : Int32) (p3 : Int32) (p4 : Int32) (g : et_G) : et_C w yX9_word (Cond.code yX9_word cX9_word 7 (some .int)) rm_Et_word et_tI [.ref (et_ad w 0), .int p1, .int p2, .int p3, .int p4] g (fn_Et_word p1 p2 p3 p4 g) := et_mk hw (by decide) rfl rfl (fun X hX => zw_Et_word hX p1 p2 p3 p4 g)
def rm_Mi_open : Room := { frames := 1, cells := 0, slots := 0, locals := 20 }
def fn_Mi_open (p1 : Int32) (g : et_G) : Option (Unit × et_G) :=
  et_b (et_si g 46 1 p1) (fun g1 =>
  et_bd (fn_Ji_bitCount p1 g1) (fun v2 g3 =>
  et_b (et_si g3 46 2 (((1 : Int32) <<< (((1 : Int32) <<< (v2 &&& 31)) &&& 31)) - (1 : Int32))) (fun g4 =>
  some ((), g4))))
theorem zw_Mi_open {X : et_X} {w : et_W} (hX : et_Gd X w cX3_open RX3 2 (none) [] rm_Mi_open) (p1 : Int32) (g : et_G) : et_Z X w 0 et_eU 0 [some (.ref (et_ad w 46)), some (.int p1)] [] g (fn_Mi_open p1 g) := by
  unfold fn_Mi_open
  refine zi_aload0 (pc := 0) hX dX3_open_0 ?_
  refine zi_iload1 (pc := 1) hX dX3_open_1 ?_
  refine zi_puti (pc := 2) hX dX3_open_2 fl_399 ly_46 rfl rfl rfl (zi_bg (fun g1 => ?_))
  refine zi_aload0 (pc := 5) hX dX3_open_5 ?_
  refine zi_iconst (pc := 6) hX dX3_open_6 ki_1 ?_
  refine zi_iconst (pc := 7) hX dX3_open_7 ki_1 ?_
  refine zi_iload1 (pc := 8) hX dX3_open_8 ?_
  refine zi_callI (zc_stat (pc := 9) hX dX3_open_9 tm_1289 md_J6_bitCount_0f7a4 st_J6_bitCount_0f7a4 (ct_Ji_bitCount hX.sane p1 g1) rfl rfl rfl) (fun v2 g3 => ?_)
  refine zi_ishl (pc := 12) hX dX3_open_12 ?_
  refine zi_ishl (pc := 13) hX dX3_open_13 ?_
  refine zi_iconst (pc := 14) hX dX3_open_14 ki_1 ?_
  refine zi_isub (pc := 15) hX dX3_open_15 ?_
  refine zi_puti (pc := 16) hX dX3_open_16 fl_400 ly_46 rfl rfl rfl (zi_bg (fun g4 => ?_))
  exact zi_vret (pc := 19) hX dX3_open_19 rfl rfl rfl
theorem ct_Mi_open {w : et_W} (hw : et_Sane w) (p1 : Int32) (g : et_G) : et_C w yX3_open (Cond.code yX3_open cX3_open 2 (none)) rm_Mi_open et_eU [.ref (et_ad w 46), .int p1] g (fn_Mi_open p1 g) := et_mk hw (by decide) rfl rfl (fun X hX => zw_Mi_open hX p1 g)
def rm_Et_worlds : Room := { frames := 6, cells := 1, slots := 6, locals := 81 }
def fn_Et_worlds (p1 : Int32) (g : et_G) : Option ((Nat ⊕ Int32) × et_G) :=
  et_b (((1 : Int32) <<< ((g.1 2 5) &&& 31)) - (1 : Int32)) (fun v1 =>
  if p1 = 0 then
    some (.inl 1, g)
  else
    if (p1 &&& (v1 ^^^ (-1 : Int32))) = 0 then
      et_bd (fn_Ji_bitCount p1 g) (fun v2 g3 =>
      if v2 ≤ (4 : Int32) then
        et_bd (fn_Mi_open p1 g3) (fun _ g5 =>
        et_bd (fn_Ji_bitCount (g5.1 46 2) g5) (fun v6 g7 =>
        some (.inr (v6), g7)))
      else
        some (.inl 1, g3))
    else
      some (.inl 1, g))
theorem zw_Et_worlds {X : et_X} {w : et_W} (hX : et_Gd X w cX9_worlds RX9 3 (some .int) [] rm_Et_worlds) (p1 : Int32) (g : et_G) : et_Z X w 0 et_tI 0 [some (.ref (et_ad w 0)), some (.int p1), none] [] g (fn_Et_worlds p1 g) := by
  unfold fn_Et_worlds
  refine zi_iconst (pc := 0) hX dX9_worlds_0 ki_1 ?_
  refine zi_aload0 (pc := 1) hX dX9_worlds_1 ?_
  refine zi_getr (q := 2) (pc := 2) hX dX9_worlds_2 fl_493 ly_0 rfl ?_
  refine zi_geti (pc := 5) hX dX9_worlds_5 fl_200 ly_2 rfl ?_
  refine zi_ishl (pc := 8) hX dX9_worlds_8 ?_
  refine zi_iconst (pc := 9) hX dX9_worlds_9 ki_1 ?_
  refine zi_isub (pc := 10) hX dX9_worlds_10 ?_
  refine zi_bi (fun v1 => ?_)
  refine zi_istore2 (pc := 11) hX dX9_worlds_11 rfl rfl ?_
  refine zi_iload1 (pc := 12) hX dX9_worlds_12 ?_
  refine zi_if_eq (pc := 13) 32 hX dX9_worlds_13 (by decide) (fun _ => ?_) (fun _ => ?_)
  · exact zi_thr (pc := 32) hX dX9_worlds_32 dX9_worlds_35 dX9_worlds_36 dX9_worlds_39 th_1 rfl rfl rfl rfl rfl
  · refine zi_iload1 (pc := 16) hX dX9_worlds_16 ?_
    refine zi_iload2 (pc := 17) hX dX9_worlds_17 ?_
    refine zi_iconst (pc := 18) hX dX9_worlds_18 ki_m1 ?_
    refine zi_ixor (pc := 19) hX dX9_worlds_19 ?_
    refine zi_iand (pc := 20) hX dX9_worlds_20 ?_
    refine zi_if_ne (pc := 21) 32 hX dX9_worlds_21 (by decide) (fun _ => ?_) (fun _ => ?_)
    · refine zi_iload1 (pc := 24) hX dX9_worlds_24 ?_
      refine zi_callI (zc_stat (pc := 25) hX dX9_worlds_25 tm_1008 md_J6_bitCount_0f7a4 st_J6_bitCount_0f7a4 (ct_Ji_bitCount hX.sane p1 g) rfl rfl rfl) (fun v2 g3 => ?_)
      refine zi_iconst (pc := 28) hX dX9_worlds_28 ki_4 ?_
      refine zi_icmp_le (pc := 29) 40 hX dX9_worlds_29 (by decide) (fun _ => ?_) (fun _ => ?_)
      · refine zi_aload0 (pc := 40) hX dX9_worlds_40 ?_
        refine zi_getr (q := 46) (pc := 41) hX dX9_worlds_41 fl_500 ly_0 rfl ?_
        refine zi_iload1 (pc := 44) hX dX9_worlds_44 ?_
        refine zi_callU (zc_virt (pc := 45) hX dX9_worlds_45 tm_1285 md_X3_open mi_X3_open ly_46 (ct_Mi_open hX.sane p1 g3) rfl rfl rfl) (fun g5 => ?_)
        refine zi_aload0 (pc := 48) hX dX9_worlds_48 ?_
        refine zi_getr (q := 46) (pc := 49) hX dX9_worlds_49 fl_500 ly_0 rfl ?_
        refine zi_geti (pc := 52) hX dX9_worlds_52 fl_401 ly_46 rfl ?_
        refine zi_callI (zc_stat (pc := 55) hX dX9_worlds_55 tm_1008 md_J6_bitCount_0f7a4 st_J6_bitCount_0f7a4 (ct_Ji_bitCount hX.sane (g5.1 46 2) g5) rfl rfl rfl) (fun v6 g7 => ?_)
        exact zi_ret (pc := 58) hX dX9_worlds_58 rfl rfl rfl rfl
      · exact zi_thr (pc := 32) hX dX9_worlds_32 dX9_worlds_35 dX9_worlds_36 dX9_worlds_39 th_1 rfl rfl rfl rfl rfl
    · exact zi_thr (pc := 32) hX dX9_worlds_32 dX9_worlds_35 dX9_worlds_36 dX9_worlds_39 th_1 rfl rfl rfl rfl rfl
theorem ct_Et_worlds {w : et_W} (hw : et_Sane w) (p1 : Int32) (g : et_G) : et_C w yX9_worlds (Cond.code yX9_worlds cX9_worlds 3 (some .int)) rm_Et_worlds et_tI [.ref (et_ad w 0), .int p1] g (fn_Et_worlds p1 g) := et_mk hw (by decide) rfl rfl (fun X hX => zw_Et_worlds hX p1 g)
def rm_Gr_unheld : Room := { frames := 6, cells := 0, slots := 0, locals := 143 }
def fn_Gr_unheld (g : et_G) : Option (Int32 × et_G) :=
  et_bd (fn_Gr_settle g) (fun _ g2 =>
  et_bd (fn_Le_every g2) (fun v3 g4 =>
  some (v3 &&& ((g4.1 48 13) ^^^ (-1 : Int32)), g4)))
theorem zw_Gr_unheld {X : et_X} {w : et_W} (hX : et_Gd X w cX0_unheld RX0 1 (some .int) [] rm_Gr_unheld) (g : et_G) : et_Z X w 0 et_eI 0 [some (.ref (et_ad w 48))] [] g (fn_Gr_unheld g) := by
  unfold fn_Gr_unheld
  refine zi_aload0 (pc := 0) hX dX0_unheld_0 ?_
  refine zi_callU (zc_virt (pc := 1) hX dX0_unheld_1 tm_1176 md_X0_settle mi_X0_settle ly_48 (ct_Gr_settle hX.sane g) rfl rfl rfl) (fun g2 => ?_)
  refine zi_aload0 (pc := 4) hX dX0_unheld_4 ?_
  refine zi_getr (q := 34) (pc := 5) hX dX0_unheld_5 fl_416 ly_48 rfl ?_
  refine zi_callI (zc_virt (pc := 8) hX dX0_unheld_8 tm_1181 md_X1_every mi_X1_every ly_34 (ct_Le_every hX.sane g2) rfl rfl rfl) (fun v3 g4 => ?_)
  refine zi_aload0 (pc := 11) hX dX0_unheld_11 ?_
  refine zi_geti (pc := 12) hX dX0_unheld_12 fl_430 ly_48 rfl ?_
  refine zi_iconst (pc := 15) hX dX0_unheld_15 ki_m1 ?_
  refine zi_ixor (pc := 16) hX dX0_unheld_16 ?_
  refine zi_iand (pc := 17) hX dX0_unheld_17 ?_
  exact zi_ret (pc := 18) hX dX0_unheld_18 rfl rfl rfl rfl
theorem ct_Gr_unheld {w : et_W} (hw : et_Sane w) (g : et_G) : et_C w yX0_unheld (Cond.code yX0_unheld cX0_unheld 1 (some .int)) rm_Gr_unheld et_eI [.ref (et_ad w 48)] g (fn_Gr_unheld g) := et_mk hw (by decide) rfl rfl (fun X hX => zw_Gr_unheld hX g)
def rm_Gr_rings : Room := { frames := 6, cells := 0, slots := 0, locals := 143 }
def fn_Gr_rings_40 (x1 : Int32) (g : et_G) : Option (Int32 × et_G) :=
  some (x1 &&& ((g.1 48 13) ^^^ (-1 : Int32)), g)
def fn_Gr_rings_14 : Nat → Int32 → Int32 → et_G → Option (Int32 × et_G)
  | 0, _, _, _ => none
  | n + 1, x1, x2, g =>
    if (20 : Int32) < x2 then
      fn_Gr_rings_40 x1 g
    else
      et_bd (fn_Gr_standing x1 (x1 &&& ((g.1 48 12) ^^^ (-1 : Int32))) g) (fun v5 g6 =>
      et_b (x2 + (1 : Int32)) (fun v7 =>
      fn_Gr_rings_14 n v5 v7 g6))
def fn_Gr_rings (g : et_G) : Option (Int32 × et_G) :=
  et_bd (fn_Gr_settle g) (fun _ g2 =>
  et_bd (fn_Le_every g2) (fun v3 g4 =>
  fn_Gr_rings_14 1000000 v3 (0 : Int32) g4))
theorem zp_Gr_rings_40 {X : et_X} {w : et_W} (hX : et_Gd X w cX0_rings RX0 3 (some .int) [] rm_Gr_rings) (x1 : Int32) (g : et_G) : et_Z X w 0 et_eI 40 [some (.ref (et_ad w 48)), some (.int x1), none] [] g (fn_Gr_rings_40 x1 g) := by
  unfold fn_Gr_rings_40
  refine zi_iload1 (pc := 40) hX dX0_rings_40 ?_
  refine zi_aload0 (pc := 41) hX dX0_rings_41 ?_
  refine zi_geti (pc := 42) hX dX0_rings_42 fl_430 ly_48 rfl ?_
  refine zi_iconst (pc := 45) hX dX0_rings_45 ki_m1 ?_
  refine zi_ixor (pc := 46) hX dX0_rings_46 ?_
  refine zi_iand (pc := 47) hX dX0_rings_47 ?_
  exact zi_ret (pc := 48) hX dX0_rings_48 rfl rfl rfl rfl
theorem zp_Gr_rings_14 {X : et_X} {w : et_W} (hX : et_Gd X w cX0_rings RX0 3 (some .int) [] rm_Gr_rings) : ∀ (n : Nat) (x1 : Int32) (x2 : Int32) (g : et_G), et_Z X w 0 et_eI 14 [some (.ref (et_ad w 48)), some (.int x1), some (.int x2)] [] g (fn_Gr_rings_14 n x1 x2 g) := by
  intro n
  induction n with
  | zero =>
    intro x1 x2 g a g2 h
    cases h
  | succ n ih =>
    intro x1 x2 g
    rw [fn_Gr_rings_14]
    refine zi_iload2 (pc := 14) hX dX0_rings_14 ?_
    refine zi_bipush (pc := 15) hX dX0_rings_15 kb_20 ?_
    refine zi_icmp_gt (pc := 17) 40 hX dX0_rings_17 (by decide) (fun _ => ?_) (fun _ => ?_)
    · refine zi_drop (le_s (le_s (le_n le_nil))) ?_; exact zp_Gr_rings_40 hX x1 g
    · refine zi_aload0 (pc := 20) hX dX0_rings_20 ?_
      refine zi_iload1 (pc := 21) hX dX0_rings_21 ?_
      refine zi_iload1 (pc := 22) hX dX0_rings_22 ?_
      refine zi_aload0 (pc := 23) hX dX0_rings_23 ?_
      refine zi_geti (pc := 24) hX dX0_rings_24 fl_428 ly_48 rfl ?_
      refine zi_iconst (pc := 27) hX dX0_rings_27 ki_m1 ?_
      refine zi_ixor (pc := 28) hX dX0_rings_28 ?_
      refine zi_iand (pc := 29) hX dX0_rings_29 ?_
      refine zi_callI (zc_virt (pc := 30) hX dX0_rings_30 tm_1238 md_X0_standing mi_X0_standing ly_48 (ct_Gr_standing hX.sane x1 (x1 &&& ((g.1 48 12) ^^^ (-1 : Int32))) g) rfl rfl rfl) (fun v5 g6 => ?_)
      refine zi_istore1 (pc := 33) hX dX0_rings_33 rfl rfl ?_
      refine zi_iincb2 (pc := 34) hX dX0_rings_34 (kn_1 _) rfl rfl (fun v7 => ?_)
      refine zi_goto (pc := 37) 14 hX dX0_rings_37 (by decide) ?_
      exact ih v5 v7 g6
theorem zw_Gr_rings {X : et_X} {w : et_W} (hX : et_Gd X w cX0_rings RX0 3 (some .int) [] rm_Gr_rings) (g : et_G) : et_Z X w 0 et_eI 0 [some (.ref (et_ad w 48)), none, none] [] g (fn_Gr_rings g) := by
  unfold fn_Gr_rings
  refine zi_aload0 (pc := 0) hX dX0_rings_0 ?_
  refine zi_callU (zc_virt (pc := 1) hX dX0_rings_1 tm_1176 md_X0_settle mi_X0_settle ly_48 (ct_Gr_settle hX.sane g) rfl rfl rfl) (fun g2 => ?_)
  refine zi_aload0 (pc := 4) hX dX0_rings_4 ?_
  refine zi_getr (q := 34) (pc := 5) hX dX0_rings_5 fl_416 ly_48 rfl ?_
  refine zi_callI (zc_virt (pc := 8) hX dX0_rings_8 tm_1181 md_X1_every mi_X1_every ly_34 (ct_Le_every hX.sane g2) rfl rfl rfl) (fun v3 g4 => ?_)
  refine zi_istore1 (pc := 11) hX dX0_rings_11 rfl rfl ?_
  refine zi_iconst (pc := 12) hX dX0_rings_12 ki_0 ?_
  refine zi_istore2 (pc := 13) hX dX0_rings_13 rfl rfl ?_
  exact zp_Gr_rings_14 hX 1000000 v3 (0 : Int32) g4
theorem ct_Gr_rings {w : et_W} (hw : et_Sane w) (g : et_G) : et_C w yX0_rings (Cond.code yX0_rings cX0_rings 3 (some .int)) rm_Gr_rings et_eI [.ref (et_ad w 48)] g (fn_Gr_rings g) := et_mk hw (by decide) rfl rfl (fun X hX => zw_Gr_rings hX g)
def rm_Et_wrong : Room := { frames := 7, cells := 1, slots := 6, locals := 165 }
def fn_Et_wrong (p1 : Int32) (g : et_G) : Option ((Nat ⊕ Int32) × et_G) :=
  if p1 = 0 then
    et_bd (fn_Gr_unheld g) (fun v1 g2 =>
    some (.inr (v1), g2))
  else
  if p1 = 1 then
    et_bd (fn_Gr_rings g) (fun v3 g4 =>
    some (.inr (v3), g4))
  else
  some (.inl 0, g)
theorem zw_Et_wrong {X : et_X} {w : et_W} (hX : et_Gd X w cX9_wrong RX9 2 (some .int) [] rm_Et_wrong) (p1 : Int32) (g : et_G) : et_Z X w 0 et_tI 0 [some (.ref (et_ad w 0)), some (.int p1)] [] g (fn_Et_wrong p1 g) := by
  unfold fn_Et_wrong
  refine zi_iload1 (pc := 0) hX dX9_wrong_0 ?_
  refine zi_ite (fun h0 => ?_) (fun h0 => ?_)
  · refine zi_lkp (pc := 1) 28 hX dX9_wrong_1 (by decide) (by rw [h0] <;> rfl) (by decide) ?_
    refine zi_aload0 (pc := 28) hX dX9_wrong_28 ?_
    refine zi_getr (q := 48) (pc := 29) hX dX9_wrong_29 fl_503 ly_0 rfl ?_
    refine zi_callI (zc_virt (pc := 32) hX dX9_wrong_32 tm_1230 md_X0_unheld mi_X0_unheld ly_48 (ct_Gr_unheld hX.sane g) rfl rfl rfl) (fun v1 g2 => ?_)
    exact zi_ret (pc := 35) hX dX9_wrong_35 rfl rfl rfl rfl
  refine zi_ite (fun h1 => ?_) (fun h1 => ?_)
  · refine zi_lkp (pc := 1) 36 hX dX9_wrong_1 (by decide) (by rw [h1] <;> rfl) (by decide) ?_
    refine zi_aload0 (pc := 36) hX dX9_wrong_36 ?_
    refine zi_getr (q := 48) (pc := 37) hX dX9_wrong_37 fl_503 ly_0 rfl ?_
    refine zi_callI (zc_virt (pc := 40) hX dX9_wrong_40 tm_1234 md_X0_rings mi_X0_rings ly_48 (ct_Gr_rings hX.sane g) rfl rfl rfl) (fun v3 g4 => ?_)
    exact zi_ret (pc := 43) hX dX9_wrong_43 rfl rfl rfl rfl
  refine zi_lkp (off := 43) (pc := 1) 44 hX dX9_wrong_1 (by decide) (by rw [lv_osw h0 (by decide), lv_osw h1 (by decide)]; rfl) (by decide) ?_
  exact zi_thr (pc := 44) hX dX9_wrong_44 dX9_wrong_47 dX9_wrong_48 dX9_wrong_51 th_0 rfl rfl rfl rfl rfl
theorem ct_Et_wrong {w : et_W} (hw : et_Sane w) (p1 : Int32) (g : et_G) : et_C w yX9_wrong (Cond.code yX9_wrong cX9_wrong 2 (some .int)) rm_Et_wrong et_tI [.ref (et_ad w 0), .int p1] g (fn_Et_wrong p1 g) := et_mk hw (by decide) rfl rfl (fun X hX => zw_Et_wrong hX p1 g)
