def rm_Mo_readsRule : Room := { frames := 2, cells := 0, slots := 0, locals := 42 }
def fn_Mo_readsRule_194 (g : et_G) : Option (Unit × et_G) :=
  et_bd (fn_Mo_isGood g) (fun v7 g8 =>
  if v7 = 0 then
    some ((), g8)
  else
    et_b (et_si g8 61 33 ((g8.1 61 33) + (1 : Int32))) (fun g9 =>
    some ((), g9)))
def fn_Mo_readsRule_160 (r42 : Int32 → et_G → Option (Unit × et_G)) (x1 : Int32) (g : et_G) : Option (Unit × et_G) :=
  et_bd (fn_Mo_isGood g) (fun v14 g15 =>
  if v14 = 0 then
    r42 (0 : Int32) g15
  else
    if (g15.1 61 23) = (2 : Int32) then
      r42 (1 : Int32) g15
    else
      et_ck (et_ib x1 30) (
      if (2 : Int32) ≤ (g15.1 78 x1.toNatClampNeg) then
        r42 (0 : Int32) g15
      else
        r42 (1 : Int32) g15))
def fn_Mo_readsRule_120 (r42 : Int32 → et_G → Option (Unit × et_G)) (x1 : Int32) (g : et_G) : Option (Unit × et_G) :=
  et_bd (fn_Mo_isGood g) (fun v12 g13 =>
  if v12 = 0 then
    fn_Mo_readsRule_160 r42 x1 g13
  else
    et_ck (et_ib x1 30) (
    et_ck (et_ib ((x1 + (1 : Int32)) + (g13.1 78 x1.toNatClampNeg)) 30) (et_b (et_si g13 78 ((x1 + (1 : Int32)) + (g13.1 78 x1.toNatClampNeg)).toNatClampNeg (g13.1 61 26)) (fun g16 =>
    et_ck (et_ib x1 30) (
    et_ck (et_ib x1 30) (et_b (et_si g16 78 x1.toNatClampNeg ((g16.1 78 x1.toNatClampNeg) + (1 : Int32))) (fun g17 =>
    et_bd (fn_Mo_steps g17) (fun _ g19 =>
    fn_Mo_readsRule_160 r42 x1 g19))))))))
def fn_Mo_readsRule_82 (r42 : Int32 → et_G → Option (Unit × et_G)) (x1 : Int32) : Nat → Int32 → et_G → Option (Unit × et_G)
  | 0, _, _ => none
  | n + 1, x3, g =>
    et_ck (et_ib x1 30) (
    if (g.1 78 x1.toNatClampNeg) ≤ x3 then
      fn_Mo_readsRule_120 r42 x1 g
    else
      et_ck (et_ib ((x1 + (1 : Int32)) + x3) 30) (
      if (g.1 78 ((x1 + (1 : Int32)) + x3).toNatClampNeg) = (g.1 61 26) then
        et_bd (fn_Mo_faults (4 : Int32) g) (fun _ g22 =>
        et_b (x3 + (1 : Int32)) (fun v23 =>
        fn_Mo_readsRule_82 r42 x1 n v23 g22))
      else
        et_b (x3 + (1 : Int32)) (fun v20 =>
        fn_Mo_readsRule_82 r42 x1 n v20 g)))
def fn_Mo_readsRule_69 (r42 : Int32 → et_G → Option (Unit × et_G)) (x1 : Int32) (g : et_G) : Option (Unit × et_G) :=
  et_bd (fn_Mo_amongHere (g.1 61 32) g) (fun v10 g11 =>
  if v10 = 0 then
    fn_Mo_readsRule_120 r42 x1 g11
  else
    fn_Mo_readsRule_82 r42 x1 1000000 (0 : Int32) g11)
def fn_Mo_readsRule_42 (x1 : Int32) : Nat → Int32 → et_G → Option (Unit × et_G)
  | 0, _, _ => none
  | n + 1, x2, g =>
    if x2 = 0 then
      fn_Mo_readsRule_194 g
    else
      if (g.1 61 23) = (2 : Int32) then
        et_ck (et_ib x1 30) (
        if (g.1 78 x1.toNatClampNeg) = (4 : Int32) then
          et_bd (fn_Mo_faults (2 : Int32) g) (fun _ g25 =>
          fn_Mo_readsRule_69 (fun z2 g => fn_Mo_readsRule_42 x1 n z2 g) x1 g25)
        else
          fn_Mo_readsRule_69 (fun z2 g => fn_Mo_readsRule_42 x1 n z2 g) x1 g)
      else
        fn_Mo_readsRule_69 (fun z2 g => fn_Mo_readsRule_42 x1 n z2 g) x1 g
def fn_Mo_readsRule_14 (g : et_G) : Option (Unit × et_G) :=
  et_bd (fn_Mo_isGood g) (fun v1 g2 =>
  if v1 = 0 then
    some ((), g2)
  else
    et_bd (fn_Mo_steps g2) (fun _ g4 =>
    et_b ((5 : Int32) * (g4.1 61 33)) (fun v5 =>
    et_ck (et_ib v5 30) (et_b (et_si g4 78 v5.toNatClampNeg (0 : Int32)) (fun g6 =>
    fn_Mo_readsRule_42 v5 1000000 (1 : Int32) g6)))))
def fn_Mo_readsRule (g : et_G) : Option (Unit × et_G) :=
  if (g.1 61 33) = (6 : Int32) then
    et_bd (fn_Mo_faults (2 : Int32) g) (fun _ g27 =>
    fn_Mo_readsRule_14 g27)
  else
    fn_Mo_readsRule_14 g
theorem zp_Mo_readsRule_194 {X : et_X} {w : et_W} (hX : et_Gd X w cX10_readsRule RX10 4 (none) [] rm_Mo_readsRule) (g : et_G) : et_Z X w 0 et_eU 194 [some (.ref (et_ad w 61)), none, none, none] [] g (fn_Mo_readsRule_194 g) := by
  unfold fn_Mo_readsRule_194
  refine zi_aload0 (pc := 194) hX dX10_readsRule_194 ?_
  refine zi_callI (zc_virt (pc := 195) hX dX10_readsRule_195 tm_1609 md_X10_isGood mi_X10_isGood ly_61 (ct_Mo_isGood hX.sane g) rfl rfl rfl) (fun v7 g8 => ?_)
  refine zi_if_eq (pc := 198) 211 hX dX10_readsRule_198 (by decide) (fun _ => ?_) (fun _ => ?_)
  · exact zi_vret (pc := 211) hX dX10_readsRule_211 rfl rfl rfl
  · refine zi_aload0 (pc := 201) hX dX10_readsRule_201 ?_
    refine zi_dup (pc := 202) hX dX10_readsRule_202 rfl ?_
    refine zi_geti (pc := 203) hX dX10_readsRule_203 fl_1381 ly_61 rfl ?_
    refine zi_iconst (pc := 206) hX dX10_readsRule_206 ki_1 ?_
    refine zi_iadd (pc := 207) hX dX10_readsRule_207 ?_
    refine zi_puti (pc := 208) hX dX10_readsRule_208 fl_1381 ly_61 rfl rfl rfl (zi_bg (fun g9 => ?_))
    exact zi_vret (pc := 211) hX dX10_readsRule_211 rfl rfl rfl
theorem zp_Mo_readsRule_160 {X : et_X} {w : et_W} (hX : et_Gd X w cX10_readsRule RX10 4 (none) [] rm_Mo_readsRule) (r42 : Int32 → et_G → Option (Unit × et_G)) (x1 : Int32) (hr42 : ∀ (y2 : Int32) (g : et_G), et_Z X w 0 et_eU 42 [some (.ref (et_ad w 61)), some (.int x1), some (.int y2), none] [] g (r42 y2 g)) (g : et_G) : et_Z X w 0 et_eU 160 [some (.ref (et_ad w 61)), some (.int x1), none, none] [] g (fn_Mo_readsRule_160 r42 x1 g) := by
  unfold fn_Mo_readsRule_160
  refine zi_aload0 (pc := 160) hX dX10_readsRule_160 ?_
  refine zi_callI (zc_virt (pc := 161) hX dX10_readsRule_161 tm_1609 md_X10_isGood mi_X10_isGood ly_61 (ct_Mo_isGood hX.sane g) rfl rfl rfl) (fun v14 g15 => ?_)
  refine zi_if_eq (pc := 164) 189 hX dX10_readsRule_164 (by decide) (fun _ => ?_) (fun _ => ?_)
  · refine zi_iconst (pc := 189) hX dX10_readsRule_189 ki_0 ?_
    refine zi_istore2 (pc := 190) hX dX10_readsRule_190 rfl rfl ?_
    refine zi_goto (pc := 191) 42 hX dX10_readsRule_191 (by decide) ?_
    exact hr42 (0 : Int32) g15
  · refine zi_aload0 (pc := 167) hX dX10_readsRule_167 ?_
    refine zi_geti (pc := 168) hX dX10_readsRule_168 fl_1371 ly_61 rfl ?_
    refine zi_iconst (pc := 171) hX dX10_readsRule_171 ki_2 ?_
    refine zi_icmp_eq (pc := 172) 185 hX dX10_readsRule_172 (by decide) (fun _ => ?_) (fun _ => ?_)
    · refine zi_iconst (pc := 185) hX dX10_readsRule_185 ki_1 ?_
      refine zi_goto (pc := 186) 190 hX dX10_readsRule_186 (by decide) ?_
      refine zi_istore2 (pc := 190) hX dX10_readsRule_190 rfl rfl ?_
      refine zi_goto (pc := 191) 42 hX dX10_readsRule_191 (by decide) ?_
      exact hr42 (1 : Int32) g15
    · refine zi_aload0 (pc := 175) hX dX10_readsRule_175 ?_
      refine zi_getr (q := 78) (pc := 176) hX dX10_readsRule_176 fl_1390 ly_61 rfl ?_
      refine zi_iload1 (pc := 179) hX dX10_readsRule_179 ?_
      refine zi_iald (pc := 180) hX dX10_readsRule_180 ly_78 ?_
      refine zi_iconst (pc := 181) hX dX10_readsRule_181 ki_2 ?_
      refine zi_icmp_ge (pc := 182) 189 hX dX10_readsRule_182 (by decide) (fun _ => ?_) (fun _ => ?_)
      · refine zi_iconst (pc := 189) hX dX10_readsRule_189 ki_0 ?_
        refine zi_istore2 (pc := 190) hX dX10_readsRule_190 rfl rfl ?_
        refine zi_goto (pc := 191) 42 hX dX10_readsRule_191 (by decide) ?_
        exact hr42 (0 : Int32) g15
      · refine zi_iconst (pc := 185) hX dX10_readsRule_185 ki_1 ?_
        refine zi_goto (pc := 186) 190 hX dX10_readsRule_186 (by decide) ?_
        refine zi_istore2 (pc := 190) hX dX10_readsRule_190 rfl rfl ?_
        refine zi_goto (pc := 191) 42 hX dX10_readsRule_191 (by decide) ?_
        exact hr42 (1 : Int32) g15
theorem zp_Mo_readsRule_120 {X : et_X} {w : et_W} (hX : et_Gd X w cX10_readsRule RX10 4 (none) [] rm_Mo_readsRule) (r42 : Int32 → et_G → Option (Unit × et_G)) (x1 : Int32) (hr42 : ∀ (y2 : Int32) (g : et_G), et_Z X w 0 et_eU 42 [some (.ref (et_ad w 61)), some (.int x1), some (.int y2), none] [] g (r42 y2 g)) (g : et_G) : et_Z X w 0 et_eU 120 [some (.ref (et_ad w 61)), some (.int x1), none, none] [] g (fn_Mo_readsRule_120 r42 x1 g) := by
  unfold fn_Mo_readsRule_120
  refine zi_aload0 (pc := 120) hX dX10_readsRule_120 ?_
  refine zi_callI (zc_virt (pc := 121) hX dX10_readsRule_121 tm_1609 md_X10_isGood mi_X10_isGood ly_61 (ct_Mo_isGood hX.sane g) rfl rfl rfl) (fun v12 g13 => ?_)
  refine zi_if_eq (pc := 124) 160 hX dX10_readsRule_124 (by decide) (fun _ => ?_) (fun _ => ?_)
  · exact zp_Mo_readsRule_160 hX r42 x1 hr42 g13
  · refine zi_aload0 (pc := 127) hX dX10_readsRule_127 ?_
    refine zi_getr (q := 78) (pc := 128) hX dX10_readsRule_128 fl_1390 ly_61 rfl ?_
    refine zi_iload1 (pc := 131) hX dX10_readsRule_131 ?_
    refine zi_iconst (pc := 132) hX dX10_readsRule_132 ki_1 ?_
    refine zi_iadd (pc := 133) hX dX10_readsRule_133 ?_
    refine zi_aload0 (pc := 134) hX dX10_readsRule_134 ?_
    refine zi_getr (q := 78) (pc := 135) hX dX10_readsRule_135 fl_1390 ly_61 rfl ?_
    refine zi_iload1 (pc := 138) hX dX10_readsRule_138 ?_
    refine zi_iald (pc := 139) hX dX10_readsRule_139 ly_78 ?_
    refine zi_iadd (pc := 140) hX dX10_readsRule_140 ?_
    refine zi_aload0 (pc := 141) hX dX10_readsRule_141 ?_
    refine zi_geti (pc := 142) hX dX10_readsRule_142 fl_1374 ly_61 rfl ?_
    refine zi_iast (pc := 145) hX dX10_readsRule_145 ly_78 (zi_bg (fun g16 => ?_))
    refine zi_aload0 (pc := 146) hX dX10_readsRule_146 ?_
    refine zi_getr (q := 78) (pc := 147) hX dX10_readsRule_147 fl_1390 ly_61 rfl ?_
    refine zi_iload1 (pc := 150) hX dX10_readsRule_150 ?_
    refine zi_dup2 (pc := 151) hX dX10_readsRule_151 rfl rfl ?_
    refine zi_iald (pc := 152) hX dX10_readsRule_152 ly_78 ?_
    refine zi_iconst (pc := 153) hX dX10_readsRule_153 ki_1 ?_
    refine zi_iadd (pc := 154) hX dX10_readsRule_154 ?_
    refine zi_iast (pc := 155) hX dX10_readsRule_155 ly_78 (zi_bg (fun g17 => ?_))
    refine zi_aload0 (pc := 156) hX dX10_readsRule_156 ?_
    refine zi_callU (zc_virt (pc := 157) hX dX10_readsRule_157 tm_1595 md_X10_steps mi_X10_steps ly_61 (ct_Mo_steps hX.sane g17) rfl rfl rfl) (fun g19 => ?_)
    exact zp_Mo_readsRule_160 hX r42 x1 hr42 g19
theorem zp_Mo_readsRule_82 {X : et_X} {w : et_W} (hX : et_Gd X w cX10_readsRule RX10 4 (none) [] rm_Mo_readsRule) (r42 : Int32 → et_G → Option (Unit × et_G)) (x1 : Int32) (hr42 : ∀ (y2 : Int32) (g : et_G), et_Z X w 0 et_eU 42 [some (.ref (et_ad w 61)), some (.int x1), some (.int y2), none] [] g (r42 y2 g)) : ∀ (n : Nat) (x3 : Int32) (g : et_G), et_Z X w 0 et_eU 82 [some (.ref (et_ad w 61)), some (.int x1), none, some (.int x3)] [] g (fn_Mo_readsRule_82 r42 x1 n x3 g) := by
  intro n
  induction n with
  | zero =>
    intro x3 g a g2 h
    cases h
  | succ n ih =>
    intro x3 g
    rw [fn_Mo_readsRule_82]
    refine zi_iload3 (pc := 82) hX dX10_readsRule_82 ?_
    refine zi_aload0 (pc := 83) hX dX10_readsRule_83 ?_
    refine zi_getr (q := 78) (pc := 84) hX dX10_readsRule_84 fl_1390 ly_61 rfl ?_
    refine zi_iload1 (pc := 87) hX dX10_readsRule_87 ?_
    refine zi_iald (pc := 88) hX dX10_readsRule_88 ly_78 ?_
    refine zi_icmp_ge (pc := 89) 120 hX dX10_readsRule_89 (by decide) (fun _ => ?_) (fun _ => ?_)
    · refine zi_drop (le_s (le_s (le_s (le_n le_nil)))) ?_; exact zp_Mo_readsRule_120 hX r42 x1 hr42 g
    · refine zi_aload0 (pc := 92) hX dX10_readsRule_92 ?_
      refine zi_getr (q := 78) (pc := 93) hX dX10_readsRule_93 fl_1390 ly_61 rfl ?_
      refine zi_iload1 (pc := 96) hX dX10_readsRule_96 ?_
      refine zi_iconst (pc := 97) hX dX10_readsRule_97 ki_1 ?_
      refine zi_iadd (pc := 98) hX dX10_readsRule_98 ?_
      refine zi_iload3 (pc := 99) hX dX10_readsRule_99 ?_
      refine zi_iadd (pc := 100) hX dX10_readsRule_100 ?_
      refine zi_iald (pc := 101) hX dX10_readsRule_101 ly_78 ?_
      refine zi_aload0 (pc := 102) hX dX10_readsRule_102 ?_
      refine zi_geti (pc := 103) hX dX10_readsRule_103 fl_1374 ly_61 rfl ?_
      refine zi_icmp_ne (pc := 106) 114 hX dX10_readsRule_106 (by decide) (fun _ => ?_) (fun _ => ?_)
      · refine zi_aload0 (pc := 109) hX dX10_readsRule_109 ?_
        refine zi_iconst (pc := 110) hX dX10_readsRule_110 ki_4 ?_
        refine zi_callU (zc_virt (pc := 111) hX dX10_readsRule_111 tm_1627 md_X10_faults mi_X10_faults ly_61 (ct_Mo_faults hX.sane (4 : Int32) g) rfl rfl rfl) (fun g22 => ?_)
        refine zi_iincb3 (pc := 114) hX dX10_readsRule_114 (kn_1 _) rfl rfl (fun v23 => ?_)
        refine zi_goto (pc := 117) 82 hX dX10_readsRule_117 (by decide) ?_
        exact ih v23 g22
      · refine zi_iincb3 (pc := 114) hX dX10_readsRule_114 (kn_1 _) rfl rfl (fun v20 => ?_)
        refine zi_goto (pc := 117) 82 hX dX10_readsRule_117 (by decide) ?_
        exact ih v20 g
theorem zp_Mo_readsRule_69 {X : et_X} {w : et_W} (hX : et_Gd X w cX10_readsRule RX10 4 (none) [] rm_Mo_readsRule) (r42 : Int32 → et_G → Option (Unit × et_G)) (x1 : Int32) (hr42 : ∀ (y2 : Int32) (g : et_G), et_Z X w 0 et_eU 42 [some (.ref (et_ad w 61)), some (.int x1), some (.int y2), none] [] g (r42 y2 g)) (g : et_G) : et_Z X w 0 et_eU 69 [some (.ref (et_ad w 61)), some (.int x1), none, none] [] g (fn_Mo_readsRule_69 r42 x1 g) := by
  unfold fn_Mo_readsRule_69
  refine zi_aload0 (pc := 69) hX dX10_readsRule_69 ?_
  refine zi_aload0 (pc := 70) hX dX10_readsRule_70 ?_
  refine zi_geti (pc := 71) hX dX10_readsRule_71 fl_1380 ly_61 rfl ?_
  refine zi_callI (zc_virt (pc := 74) hX dX10_readsRule_74 tm_1651 md_X10_amongHere mi_X10_amongHere ly_61 (ct_Mo_amongHere hX.sane (g.1 61 32) g) rfl rfl rfl) (fun v10 g11 => ?_)
  refine zi_if_eq (pc := 77) 120 hX dX10_readsRule_77 (by decide) (fun _ => ?_) (fun _ => ?_)
  · exact zp_Mo_readsRule_120 hX r42 x1 hr42 g11
  · refine zi_iconst (pc := 80) hX dX10_readsRule_80 ki_0 ?_
    refine zi_istore3 (pc := 81) hX dX10_readsRule_81 rfl rfl ?_
    exact zp_Mo_readsRule_82 hX r42 x1 hr42 1000000 (0 : Int32) g11
theorem zp_Mo_readsRule_42 {X : et_X} {w : et_W} (hX : et_Gd X w cX10_readsRule RX10 4 (none) [] rm_Mo_readsRule) (x1 : Int32) : ∀ (n : Nat) (x2 : Int32) (g : et_G), et_Z X w 0 et_eU 42 [some (.ref (et_ad w 61)), some (.int x1), some (.int x2), none] [] g (fn_Mo_readsRule_42 x1 n x2 g) := by
  intro n
  induction n with
  | zero =>
    intro x2 g a g2 h
    cases h
  | succ n ih =>
    intro x2 g
    rw [fn_Mo_readsRule_42]
    refine zi_iload2 (pc := 42) hX dX10_readsRule_42 ?_
    refine zi_if_eq (pc := 43) 194 hX dX10_readsRule_43 (by decide) (fun _ => ?_) (fun _ => ?_)
    · refine zi_drop (le_s (le_n (le_n (le_s le_nil)))) ?_; exact zp_Mo_readsRule_194 hX g
    · refine zi_aload0 (pc := 46) hX dX10_readsRule_46 ?_
      refine zi_geti (pc := 47) hX dX10_readsRule_47 fl_1371 ly_61 rfl ?_
      refine zi_iconst (pc := 50) hX dX10_readsRule_50 ki_2 ?_
      refine zi_icmp_ne (pc := 51) 69 hX dX10_readsRule_51 (by decide) (fun _ => ?_) (fun _ => ?_)
      · refine zi_aload0 (pc := 54) hX dX10_readsRule_54 ?_
        refine zi_getr (q := 78) (pc := 55) hX dX10_readsRule_55 fl_1390 ly_61 rfl ?_
        refine zi_iload1 (pc := 58) hX dX10_readsRule_58 ?_
        refine zi_iald (pc := 59) hX dX10_readsRule_59 ly_78 ?_
        refine zi_iconst (pc := 60) hX dX10_readsRule_60 ki_4 ?_
        refine zi_icmp_ne (pc := 61) 69 hX dX10_readsRule_61 (by decide) (fun _ => ?_) (fun _ => ?_)
        · refine zi_aload0 (pc := 64) hX dX10_readsRule_64 ?_
          refine zi_iconst (pc := 65) hX dX10_readsRule_65 ki_2 ?_
          refine zi_callU (zc_virt (pc := 66) hX dX10_readsRule_66 tm_1627 md_X10_faults mi_X10_faults ly_61 (ct_Mo_faults hX.sane (2 : Int32) g) rfl rfl rfl) (fun g25 => ?_)
          refine zi_drop (le_s (le_s (le_n (le_s le_nil)))) ?_; exact zp_Mo_readsRule_69 hX (fun z2 g => fn_Mo_readsRule_42 x1 n z2 g) x1 (fun z2 g => ih z2 g) g25
        · refine zi_drop (le_s (le_s (le_n (le_s le_nil)))) ?_; exact zp_Mo_readsRule_69 hX (fun z2 g => fn_Mo_readsRule_42 x1 n z2 g) x1 (fun z2 g => ih z2 g) g
      · refine zi_drop (le_s (le_s (le_n (le_s le_nil)))) ?_; exact zp_Mo_readsRule_69 hX (fun z2 g => fn_Mo_readsRule_42 x1 n z2 g) x1 (fun z2 g => ih z2 g) g
theorem zp_Mo_readsRule_14 {X : et_X} {w : et_W} (hX : et_Gd X w cX10_readsRule RX10 4 (none) [] rm_Mo_readsRule) (g : et_G) : et_Z X w 0 et_eU 14 [some (.ref (et_ad w 61)), none, none, none] [] g (fn_Mo_readsRule_14 g) := by
  unfold fn_Mo_readsRule_14
  refine zi_aload0 (pc := 14) hX dX10_readsRule_14 ?_
  refine zi_callI (zc_virt (pc := 15) hX dX10_readsRule_15 tm_1609 md_X10_isGood mi_X10_isGood ly_61 (ct_Mo_isGood hX.sane g) rfl rfl rfl) (fun v1 g2 => ?_)
  refine zi_if_ne (pc := 18) 22 hX dX10_readsRule_18 (by decide) (fun _ => ?_) (fun _ => ?_)
  · exact zi_vret (pc := 21) hX dX10_readsRule_21 rfl rfl rfl
  · refine zi_aload0 (pc := 22) hX dX10_readsRule_22 ?_
    refine zi_callU (zc_virt (pc := 23) hX dX10_readsRule_23 tm_1595 md_X10_steps mi_X10_steps ly_61 (ct_Mo_steps hX.sane g2) rfl rfl rfl) (fun g4 => ?_)
    refine zi_iconst (pc := 26) hX dX10_readsRule_26 ki_5 ?_
    refine zi_aload0 (pc := 27) hX dX10_readsRule_27 ?_
    refine zi_geti (pc := 28) hX dX10_readsRule_28 fl_1381 ly_61 rfl ?_
    refine zi_imul (pc := 31) hX dX10_readsRule_31 ?_
    refine zi_bi (fun v5 => ?_)
    refine zi_istore1 (pc := 32) hX dX10_readsRule_32 rfl rfl ?_
    refine zi_aload0 (pc := 33) hX dX10_readsRule_33 ?_
    refine zi_getr (q := 78) (pc := 34) hX dX10_readsRule_34 fl_1390 ly_61 rfl ?_
    refine zi_iload1 (pc := 37) hX dX10_readsRule_37 ?_
    refine zi_iconst (pc := 38) hX dX10_readsRule_38 ki_0 ?_
    refine zi_iast (pc := 39) hX dX10_readsRule_39 ly_78 (zi_bg (fun g6 => ?_))
    refine zi_iconst (pc := 40) hX dX10_readsRule_40 ki_1 ?_
    refine zi_istore2 (pc := 41) hX dX10_readsRule_41 rfl rfl ?_
    exact zp_Mo_readsRule_42 hX v5 1000000 (1 : Int32) g6
theorem zw_Mo_readsRule {X : et_X} {w : et_W} (hX : et_Gd X w cX10_readsRule RX10 4 (none) [] rm_Mo_readsRule) (g : et_G) : et_Z X w 0 et_eU 0 [some (.ref (et_ad w 61)), none, none, none] [] g (fn_Mo_readsRule g) := by
  unfold fn_Mo_readsRule
  refine zi_aload0 (pc := 0) hX dX10_readsRule_0 ?_
  refine zi_geti (pc := 1) hX dX10_readsRule_1 fl_1381 ly_61 rfl ?_
  refine zi_bipush (pc := 4) hX dX10_readsRule_4 kb_6 ?_
  refine zi_icmp_ne (pc := 6) 14 hX dX10_readsRule_6 (by decide) (fun _ => ?_) (fun _ => ?_)
  · refine zi_aload0 (pc := 9) hX dX10_readsRule_9 ?_
    refine zi_iconst (pc := 10) hX dX10_readsRule_10 ki_2 ?_
    refine zi_callU (zc_virt (pc := 11) hX dX10_readsRule_11 tm_1627 md_X10_faults mi_X10_faults ly_61 (ct_Mo_faults hX.sane (2 : Int32) g) rfl rfl rfl) (fun g27 => ?_)
    exact zp_Mo_readsRule_14 hX g27
  · exact zp_Mo_readsRule_14 hX g
theorem ct_Mo_readsRule {w : et_W} (hw : et_Sane w) (g : et_G) : et_C w yX10_readsRule (Cond.code yX10_readsRule cX10_readsRule 4 (none)) rm_Mo_readsRule et_eU [.ref (et_ad w 61)] g (fn_Mo_readsRule g) := et_mk hw (by decide) rfl rfl (fun X hX => zw_Mo_readsRule hX g)
def rm_Mo_readsThing : Room := { frames := 3, cells := 0, slots := 0, locals := 68 }
def fn_Mo_readsThing_227 (g : et_G) : Option (Unit × et_G) :=
  et_bd (fn_Mo_isGood g) (fun v24 g25 =>
  if v24 = 0 then
    some ((), g25)
  else
    et_b (et_si g25 61 32 ((g25.1 61 32) + (1 : Int32))) (fun g26 =>
    some ((), g26)))
def fn_Mo_readsThing_210 (x1 : Int32) (s0 : Int32) (s1 : Int32) (g : et_G) : Option (Unit × et_G) :=
  et_ck (et_ib s1 40) (et_b (et_si g 77 s1.toNatClampNeg s0) (fun g23 =>
  et_ck (et_ib (x1 + (4 : Int32)) 40) (
  if (g23.1 77 (x1 + (4 : Int32)).toNatClampNeg) = (1 : Int32) then
    et_bd (fn_Mo_steps g23) (fun _ g28 =>
    fn_Mo_readsThing_227 g28)
  else
    fn_Mo_readsThing_227 g23)))
def fn_Mo_readsThing_209 (x1 : Int32) (s0 : Int32) (g : et_G) : Option (Unit × et_G) :=
  fn_Mo_readsThing_210 x1 (0 : Int32) s0 g
def fn_Mo_readsThing_182 (x1 : Int32) (g : et_G) : Option (Unit × et_G) :=
  et_bd (fn_Mo_isGood g) (fun v21 g22 =>
  if v21 = 0 then
    fn_Mo_readsThing_209 x1 (x1 + (4 : Int32)) g22
  else
    et_bd (fn_Mo_is (12 : Int32) g22) (fun v29 g30 =>
    if v29 = 0 then
      fn_Mo_readsThing_209 x1 (x1 + (4 : Int32)) g30
    else
      fn_Mo_readsThing_210 x1 (1 : Int32) (x1 + (4 : Int32)) g30))
def fn_Mo_readsThing_165 (x1 : Int32) (s0 : Int32) (s1 : Int32) (g : et_G) : Option (Unit × et_G) :=
  et_ck (et_ib s1 40) (et_b (et_si g 77 s1.toNatClampNeg s0) (fun g20 =>
  et_ck (et_ib (x1 + (3 : Int32)) 40) (
  if (g20.1 77 (x1 + (3 : Int32)).toNatClampNeg) = (1 : Int32) then
    et_bd (fn_Mo_steps g20) (fun _ g32 =>
    fn_Mo_readsThing_182 x1 g32)
  else
    fn_Mo_readsThing_182 x1 g20)))
def fn_Mo_readsThing_164 (x1 : Int32) (s0 : Int32) (g : et_G) : Option (Unit × et_G) :=
  fn_Mo_readsThing_165 x1 (0 : Int32) s0 g
def fn_Mo_readsThing_106 (x1 : Int32) (g : et_G) : Option (Unit × et_G) :=
  et_bd (fn_Mo_among (g.1 61 30) g) (fun v12 g13 =>
  et_ck (et_ib (x1 + (1 : Int32)) 40) (et_b (et_si g13 77 (x1 + (1 : Int32)).toNatClampNeg v12) (fun g14 =>
  et_bd (fn_Mo_number (0 : Int32) (23 : Int32) g14) (fun v15 g16 =>
  et_ck (et_ib (x1 + (2 : Int32)) 40) (et_b (et_si g16 77 (x1 + (2 : Int32)).toNatClampNeg v15) (fun g17 =>
  et_bd (fn_Mo_isGood g17) (fun v18 g19 =>
  if v18 = 0 then
    fn_Mo_readsThing_164 x1 (x1 + (3 : Int32)) g19
  else
    et_bd (fn_Mo_is (11 : Int32) g19) (fun v33 g34 =>
    if v33 = 0 then
      fn_Mo_readsThing_164 x1 (x1 + (3 : Int32)) g34
    else
      fn_Mo_readsThing_165 x1 (1 : Int32) (x1 + (3 : Int32)) g34))))))))
def fn_Mo_readsThing_85 (x1 : Int32) (g : et_G) : Option (Unit × et_G) :=
  et_ck (et_ib x1 40) (et_b (et_si g 77 x1.toNatClampNeg (g.1 61 26)) (fun g9 =>
  et_bd (fn_Mo_isGood g9) (fun v10 g11 =>
  if v10 = 0 then
    fn_Mo_readsThing_106 x1 g11
  else
    et_bd (fn_Mo_steps g11) (fun _ g36 =>
    fn_Mo_readsThing_106 x1 g36))))
def fn_Mo_readsThing_51 (x1 : Int32) : Nat → Int32 → et_G → Option (Unit × et_G)
  | 0, _, _ => none
  | n + 1, x2, g =>
    if (g.1 61 32) ≤ x2 then
      fn_Mo_readsThing_85 x1 g
    else
      et_ck (et_ib ((5 : Int32) * x2) 40) (
      if (g.1 77 ((5 : Int32) * x2).toNatClampNeg) = (g.1 61 26) then
        et_bd (fn_Mo_faults (4 : Int32) g) (fun _ g39 =>
        et_b (x2 + (1 : Int32)) (fun v40 =>
        fn_Mo_readsThing_51 x1 n v40 g39))
      else
        et_b (x2 + (1 : Int32)) (fun v37 =>
        fn_Mo_readsThing_51 x1 n v37 g))
def fn_Mo_readsThing_14 (g : et_G) : Option (Unit × et_G) :=
  et_bd (fn_Mo_isGood g) (fun v1 g2 =>
  if v1 = 0 then
    some ((), g2)
  else
    et_b (et_si g2 61 36 (1 : Int32)) (fun g3 =>
    et_bd (fn_Mo_steps g3) (fun _ g5 =>
    et_b ((5 : Int32) * (g5.1 61 32)) (fun v6 =>
    et_bd (fn_Mo_amongHere (g5.1 61 28) g5) (fun v7 g8 =>
    if v7 = 0 then
      fn_Mo_readsThing_85 v6 g8
    else
      fn_Mo_readsThing_51 v6 1000000 (0 : Int32) g8)))))
def fn_Mo_readsThing (g : et_G) : Option (Unit × et_G) :=
  if (g.1 61 32) = (8 : Int32) then
    et_bd (fn_Mo_faults (2 : Int32) g) (fun _ g42 =>
    fn_Mo_readsThing_14 g42)
  else
    fn_Mo_readsThing_14 g
theorem zp_Mo_readsThing_227 {X : et_X} {w : et_W} (hX : et_Gd X w cX10_readsThing RX10 3 (none) [] rm_Mo_readsThing) (g : et_G) : et_Z X w 0 et_eU 227 [some (.ref (et_ad w 61)), none, none] [] g (fn_Mo_readsThing_227 g) := by
  unfold fn_Mo_readsThing_227
  refine zi_aload0 (pc := 227) hX dX10_readsThing_227 ?_
  refine zi_callI (zc_virt (pc := 228) hX dX10_readsThing_228 tm_1609 md_X10_isGood mi_X10_isGood ly_61 (ct_Mo_isGood hX.sane g) rfl rfl rfl) (fun v24 g25 => ?_)
  refine zi_if_eq (pc := 231) 244 hX dX10_readsThing_231 (by decide) (fun _ => ?_) (fun _ => ?_)
  · exact zi_vret (pc := 244) hX dX10_readsThing_244 rfl rfl rfl
  · refine zi_aload0 (pc := 234) hX dX10_readsThing_234 ?_
    refine zi_dup (pc := 235) hX dX10_readsThing_235 rfl ?_
    refine zi_geti (pc := 236) hX dX10_readsThing_236 fl_1380 ly_61 rfl ?_
    refine zi_iconst (pc := 239) hX dX10_readsThing_239 ki_1 ?_
    refine zi_iadd (pc := 240) hX dX10_readsThing_240 ?_
    refine zi_puti (pc := 241) hX dX10_readsThing_241 fl_1380 ly_61 rfl rfl rfl (zi_bg (fun g26 => ?_))
    exact zi_vret (pc := 244) hX dX10_readsThing_244 rfl rfl rfl
theorem zp_Mo_readsThing_210 {X : et_X} {w : et_W} (hX : et_Gd X w cX10_readsThing RX10 3 (none) [] rm_Mo_readsThing) (x1 : Int32) (s0 : Int32) (s1 : Int32) (g : et_G) : et_Z X w 0 et_eU 210 [some (.ref (et_ad w 61)), some (.int x1), none] [.int s0, .int s1, .ref (et_ad w 77)] g (fn_Mo_readsThing_210 x1 s0 s1 g) := by
  unfold fn_Mo_readsThing_210
  refine zi_iast (pc := 210) hX dX10_readsThing_210 ly_77 (zi_bg (fun g23 => ?_))
  refine zi_aload0 (pc := 211) hX dX10_readsThing_211 ?_
  refine zi_getr (q := 77) (pc := 212) hX dX10_readsThing_212 fl_1389 ly_61 rfl ?_
  refine zi_iload1 (pc := 215) hX dX10_readsThing_215 ?_
  refine zi_iconst (pc := 216) hX dX10_readsThing_216 ki_4 ?_
  refine zi_iadd (pc := 217) hX dX10_readsThing_217 ?_
  refine zi_iald (pc := 218) hX dX10_readsThing_218 ly_77 ?_
  refine zi_iconst (pc := 219) hX dX10_readsThing_219 ki_1 ?_
  refine zi_icmp_ne (pc := 220) 227 hX dX10_readsThing_220 (by decide) (fun _ => ?_) (fun _ => ?_)
  · refine zi_aload0 (pc := 223) hX dX10_readsThing_223 ?_
    refine zi_callU (zc_virt (pc := 224) hX dX10_readsThing_224 tm_1595 md_X10_steps mi_X10_steps ly_61 (ct_Mo_steps hX.sane g23) rfl rfl rfl) (fun g28 => ?_)
    refine zi_drop (le_s (le_n (le_s le_nil))) ?_; exact zp_Mo_readsThing_227 hX g28
  · refine zi_drop (le_s (le_n (le_s le_nil))) ?_; exact zp_Mo_readsThing_227 hX g23
theorem zp_Mo_readsThing_209 {X : et_X} {w : et_W} (hX : et_Gd X w cX10_readsThing RX10 3 (none) [] rm_Mo_readsThing) (x1 : Int32) (s0 : Int32) (g : et_G) : et_Z X w 0 et_eU 209 [some (.ref (et_ad w 61)), some (.int x1), none] [.int s0, .ref (et_ad w 77)] g (fn_Mo_readsThing_209 x1 s0 g) := by
  unfold fn_Mo_readsThing_209
  refine zi_iconst (pc := 209) hX dX10_readsThing_209 ki_0 ?_
  exact zp_Mo_readsThing_210 hX x1 (0 : Int32) s0 g
theorem zp_Mo_readsThing_182 {X : et_X} {w : et_W} (hX : et_Gd X w cX10_readsThing RX10 3 (none) [] rm_Mo_readsThing) (x1 : Int32) (g : et_G) : et_Z X w 0 et_eU 182 [some (.ref (et_ad w 61)), some (.int x1), none] [] g (fn_Mo_readsThing_182 x1 g) := by
  unfold fn_Mo_readsThing_182
  refine zi_aload0 (pc := 182) hX dX10_readsThing_182 ?_
  refine zi_getr (q := 77) (pc := 183) hX dX10_readsThing_183 fl_1389 ly_61 rfl ?_
  refine zi_iload1 (pc := 186) hX dX10_readsThing_186 ?_
  refine zi_iconst (pc := 187) hX dX10_readsThing_187 ki_4 ?_
  refine zi_iadd (pc := 188) hX dX10_readsThing_188 ?_
  refine zi_aload0 (pc := 189) hX dX10_readsThing_189 ?_
  refine zi_callI (zc_virt (pc := 190) hX dX10_readsThing_190 tm_1609 md_X10_isGood mi_X10_isGood ly_61 (ct_Mo_isGood hX.sane g) rfl rfl rfl) (fun v21 g22 => ?_)
  refine zi_if_eq (pc := 193) 209 hX dX10_readsThing_193 (by decide) (fun _ => ?_) (fun _ => ?_)
  · exact zp_Mo_readsThing_209 hX x1 (x1 + (4 : Int32)) g22
  · refine zi_aload0 (pc := 196) hX dX10_readsThing_196 ?_
    refine zi_bipush (pc := 197) hX dX10_readsThing_197 kb_12 ?_
    refine zi_callI (zc_virt (pc := 199) hX dX10_readsThing_199 tm_1617 md_X10_is mi_X10_is ly_61 (ct_Mo_is hX.sane (12 : Int32) g22) rfl rfl rfl) (fun v29 g30 => ?_)
    refine zi_if_eq (pc := 202) 209 hX dX10_readsThing_202 (by decide) (fun _ => ?_) (fun _ => ?_)
    · exact zp_Mo_readsThing_209 hX x1 (x1 + (4 : Int32)) g30
    · refine zi_iconst (pc := 205) hX dX10_readsThing_205 ki_1 ?_
      refine zi_goto (pc := 206) 210 hX dX10_readsThing_206 (by decide) ?_
      exact zp_Mo_readsThing_210 hX x1 (1 : Int32) (x1 + (4 : Int32)) g30
theorem zp_Mo_readsThing_165 {X : et_X} {w : et_W} (hX : et_Gd X w cX10_readsThing RX10 3 (none) [] rm_Mo_readsThing) (x1 : Int32) (s0 : Int32) (s1 : Int32) (g : et_G) : et_Z X w 0 et_eU 165 [some (.ref (et_ad w 61)), some (.int x1), none] [.int s0, .int s1, .ref (et_ad w 77)] g (fn_Mo_readsThing_165 x1 s0 s1 g) := by
  unfold fn_Mo_readsThing_165
  refine zi_iast (pc := 165) hX dX10_readsThing_165 ly_77 (zi_bg (fun g20 => ?_))
  refine zi_aload0 (pc := 166) hX dX10_readsThing_166 ?_
  refine zi_getr (q := 77) (pc := 167) hX dX10_readsThing_167 fl_1389 ly_61 rfl ?_
  refine zi_iload1 (pc := 170) hX dX10_readsThing_170 ?_
  refine zi_iconst (pc := 171) hX dX10_readsThing_171 ki_3 ?_
  refine zi_iadd (pc := 172) hX dX10_readsThing_172 ?_
  refine zi_iald (pc := 173) hX dX10_readsThing_173 ly_77 ?_
  refine zi_iconst (pc := 174) hX dX10_readsThing_174 ki_1 ?_
  refine zi_icmp_ne (pc := 175) 182 hX dX10_readsThing_175 (by decide) (fun _ => ?_) (fun _ => ?_)
  · refine zi_aload0 (pc := 178) hX dX10_readsThing_178 ?_
    refine zi_callU (zc_virt (pc := 179) hX dX10_readsThing_179 tm_1595 md_X10_steps mi_X10_steps ly_61 (ct_Mo_steps hX.sane g20) rfl rfl rfl) (fun g32 => ?_)
    exact zp_Mo_readsThing_182 hX x1 g32
  · exact zp_Mo_readsThing_182 hX x1 g20
theorem zp_Mo_readsThing_164 {X : et_X} {w : et_W} (hX : et_Gd X w cX10_readsThing RX10 3 (none) [] rm_Mo_readsThing) (x1 : Int32) (s0 : Int32) (g : et_G) : et_Z X w 0 et_eU 164 [some (.ref (et_ad w 61)), some (.int x1), none] [.int s0, .ref (et_ad w 77)] g (fn_Mo_readsThing_164 x1 s0 g) := by
  unfold fn_Mo_readsThing_164
  refine zi_iconst (pc := 164) hX dX10_readsThing_164 ki_0 ?_
  exact zp_Mo_readsThing_165 hX x1 (0 : Int32) s0 g
theorem zp_Mo_readsThing_106 {X : et_X} {w : et_W} (hX : et_Gd X w cX10_readsThing RX10 3 (none) [] rm_Mo_readsThing) (x1 : Int32) (g : et_G) : et_Z X w 0 et_eU 106 [some (.ref (et_ad w 61)), some (.int x1), none] [] g (fn_Mo_readsThing_106 x1 g) := by
  unfold fn_Mo_readsThing_106
  refine zi_aload0 (pc := 106) hX dX10_readsThing_106 ?_
  refine zi_getr (q := 77) (pc := 107) hX dX10_readsThing_107 fl_1389 ly_61 rfl ?_
  refine zi_iload1 (pc := 110) hX dX10_readsThing_110 ?_
  refine zi_iconst (pc := 111) hX dX10_readsThing_111 ki_1 ?_
  refine zi_iadd (pc := 112) hX dX10_readsThing_112 ?_
  refine zi_aload0 (pc := 113) hX dX10_readsThing_113 ?_
  refine zi_aload0 (pc := 114) hX dX10_readsThing_114 ?_
  refine zi_geti (pc := 115) hX dX10_readsThing_115 fl_1378 ly_61 rfl ?_
  refine zi_callI (zc_virt (pc := 118) hX dX10_readsThing_118 tm_1647 md_X10_among mi_X10_among ly_61 (ct_Mo_among hX.sane (g.1 61 30) g) rfl rfl rfl) (fun v12 g13 => ?_)
  refine zi_iast (pc := 121) hX dX10_readsThing_121 ly_77 (zi_bg (fun g14 => ?_))
  refine zi_aload0 (pc := 122) hX dX10_readsThing_122 ?_
  refine zi_getr (q := 77) (pc := 123) hX dX10_readsThing_123 fl_1389 ly_61 rfl ?_
  refine zi_iload1 (pc := 126) hX dX10_readsThing_126 ?_
  refine zi_iconst (pc := 127) hX dX10_readsThing_127 ki_2 ?_
  refine zi_iadd (pc := 128) hX dX10_readsThing_128 ?_
  refine zi_aload0 (pc := 129) hX dX10_readsThing_129 ?_
  refine zi_iconst (pc := 130) hX dX10_readsThing_130 ki_0 ?_
  refine zi_bipush (pc := 131) hX dX10_readsThing_131 kb_23 ?_
  refine zi_callI (zc_virt (pc := 133) hX dX10_readsThing_133 tm_1639 md_X10_number mi_X10_number ly_61 (ct_Mo_number hX.sane (0 : Int32) (23 : Int32) g14) rfl rfl rfl) (fun v15 g16 => ?_)
  refine zi_iast (pc := 136) hX dX10_readsThing_136 ly_77 (zi_bg (fun g17 => ?_))
  refine zi_aload0 (pc := 137) hX dX10_readsThing_137 ?_
  refine zi_getr (q := 77) (pc := 138) hX dX10_readsThing_138 fl_1389 ly_61 rfl ?_
  refine zi_iload1 (pc := 141) hX dX10_readsThing_141 ?_
  refine zi_iconst (pc := 142) hX dX10_readsThing_142 ki_3 ?_
  refine zi_iadd (pc := 143) hX dX10_readsThing_143 ?_
  refine zi_aload0 (pc := 144) hX dX10_readsThing_144 ?_
  refine zi_callI (zc_virt (pc := 145) hX dX10_readsThing_145 tm_1609 md_X10_isGood mi_X10_isGood ly_61 (ct_Mo_isGood hX.sane g17) rfl rfl rfl) (fun v18 g19 => ?_)
  refine zi_if_eq (pc := 148) 164 hX dX10_readsThing_148 (by decide) (fun _ => ?_) (fun _ => ?_)
  · exact zp_Mo_readsThing_164 hX x1 (x1 + (3 : Int32)) g19
  · refine zi_aload0 (pc := 151) hX dX10_readsThing_151 ?_
    refine zi_bipush (pc := 152) hX dX10_readsThing_152 kb_11 ?_
    refine zi_callI (zc_virt (pc := 154) hX dX10_readsThing_154 tm_1617 md_X10_is mi_X10_is ly_61 (ct_Mo_is hX.sane (11 : Int32) g19) rfl rfl rfl) (fun v33 g34 => ?_)
    refine zi_if_eq (pc := 157) 164 hX dX10_readsThing_157 (by decide) (fun _ => ?_) (fun _ => ?_)
    · exact zp_Mo_readsThing_164 hX x1 (x1 + (3 : Int32)) g34
    · refine zi_iconst (pc := 160) hX dX10_readsThing_160 ki_1 ?_
      refine zi_goto (pc := 161) 165 hX dX10_readsThing_161 (by decide) ?_
      exact zp_Mo_readsThing_165 hX x1 (1 : Int32) (x1 + (3 : Int32)) g34
theorem zp_Mo_readsThing_85 {X : et_X} {w : et_W} (hX : et_Gd X w cX10_readsThing RX10 3 (none) [] rm_Mo_readsThing) (x1 : Int32) (g : et_G) : et_Z X w 0 et_eU 85 [some (.ref (et_ad w 61)), some (.int x1), none] [] g (fn_Mo_readsThing_85 x1 g) := by
  unfold fn_Mo_readsThing_85
  refine zi_aload0 (pc := 85) hX dX10_readsThing_85 ?_
  refine zi_getr (q := 77) (pc := 86) hX dX10_readsThing_86 fl_1389 ly_61 rfl ?_
  refine zi_iload1 (pc := 89) hX dX10_readsThing_89 ?_
  refine zi_aload0 (pc := 90) hX dX10_readsThing_90 ?_
  refine zi_geti (pc := 91) hX dX10_readsThing_91 fl_1374 ly_61 rfl ?_
  refine zi_iast (pc := 94) hX dX10_readsThing_94 ly_77 (zi_bg (fun g9 => ?_))
  refine zi_aload0 (pc := 95) hX dX10_readsThing_95 ?_
  refine zi_callI (zc_virt (pc := 96) hX dX10_readsThing_96 tm_1609 md_X10_isGood mi_X10_isGood ly_61 (ct_Mo_isGood hX.sane g9) rfl rfl rfl) (fun v10 g11 => ?_)
  refine zi_if_eq (pc := 99) 106 hX dX10_readsThing_99 (by decide) (fun _ => ?_) (fun _ => ?_)
  · exact zp_Mo_readsThing_106 hX x1 g11
  · refine zi_aload0 (pc := 102) hX dX10_readsThing_102 ?_
    refine zi_callU (zc_virt (pc := 103) hX dX10_readsThing_103 tm_1595 md_X10_steps mi_X10_steps ly_61 (ct_Mo_steps hX.sane g11) rfl rfl rfl) (fun g36 => ?_)
    exact zp_Mo_readsThing_106 hX x1 g36
theorem zp_Mo_readsThing_51 {X : et_X} {w : et_W} (hX : et_Gd X w cX10_readsThing RX10 3 (none) [] rm_Mo_readsThing) (x1 : Int32) : ∀ (n : Nat) (x2 : Int32) (g : et_G), et_Z X w 0 et_eU 51 [some (.ref (et_ad w 61)), some (.int x1), some (.int x2)] [] g (fn_Mo_readsThing_51 x1 n x2 g) := by
  intro n
  induction n with
  | zero =>
    intro x2 g a g2 h
    cases h
  | succ n ih =>
    intro x2 g
    rw [fn_Mo_readsThing_51]
    refine zi_iload2 (pc := 51) hX dX10_readsThing_51 ?_
    refine zi_aload0 (pc := 52) hX dX10_readsThing_52 ?_
    refine zi_geti (pc := 53) hX dX10_readsThing_53 fl_1380 ly_61 rfl ?_
    refine zi_icmp_ge (pc := 56) 85 hX dX10_readsThing_56 (by decide) (fun _ => ?_) (fun _ => ?_)
    · refine zi_drop (le_s (le_s (le_n le_nil))) ?_; exact zp_Mo_readsThing_85 hX x1 g
    · refine zi_aload0 (pc := 59) hX dX10_readsThing_59 ?_
      refine zi_getr (q := 77) (pc := 60) hX dX10_readsThing_60 fl_1389 ly_61 rfl ?_
      refine zi_iconst (pc := 63) hX dX10_readsThing_63 ki_5 ?_
      refine zi_iload2 (pc := 64) hX dX10_readsThing_64 ?_
      refine zi_imul (pc := 65) hX dX10_readsThing_65 ?_
      refine zi_iald (pc := 66) hX dX10_readsThing_66 ly_77 ?_
      refine zi_aload0 (pc := 67) hX dX10_readsThing_67 ?_
      refine zi_geti (pc := 68) hX dX10_readsThing_68 fl_1374 ly_61 rfl ?_
      refine zi_icmp_ne (pc := 71) 79 hX dX10_readsThing_71 (by decide) (fun _ => ?_) (fun _ => ?_)
      · refine zi_aload0 (pc := 74) hX dX10_readsThing_74 ?_
        refine zi_iconst (pc := 75) hX dX10_readsThing_75 ki_4 ?_
        refine zi_callU (zc_virt (pc := 76) hX dX10_readsThing_76 tm_1627 md_X10_faults mi_X10_faults ly_61 (ct_Mo_faults hX.sane (4 : Int32) g) rfl rfl rfl) (fun g39 => ?_)
        refine zi_iincb2 (pc := 79) hX dX10_readsThing_79 (kn_1 _) rfl rfl (fun v40 => ?_)
        refine zi_goto (pc := 82) 51 hX dX10_readsThing_82 (by decide) ?_
        exact ih v40 g39
      · refine zi_iincb2 (pc := 79) hX dX10_readsThing_79 (kn_1 _) rfl rfl (fun v37 => ?_)
        refine zi_goto (pc := 82) 51 hX dX10_readsThing_82 (by decide) ?_
        exact ih v37 g
theorem zp_Mo_readsThing_14 {X : et_X} {w : et_W} (hX : et_Gd X w cX10_readsThing RX10 3 (none) [] rm_Mo_readsThing) (g : et_G) : et_Z X w 0 et_eU 14 [some (.ref (et_ad w 61)), none, none] [] g (fn_Mo_readsThing_14 g) := by
  unfold fn_Mo_readsThing_14
  refine zi_aload0 (pc := 14) hX dX10_readsThing_14 ?_
  refine zi_callI (zc_virt (pc := 15) hX dX10_readsThing_15 tm_1609 md_X10_isGood mi_X10_isGood ly_61 (ct_Mo_isGood hX.sane g) rfl rfl rfl) (fun v1 g2 => ?_)
  refine zi_if_ne (pc := 18) 22 hX dX10_readsThing_18 (by decide) (fun _ => ?_) (fun _ => ?_)
  · exact zi_vret (pc := 21) hX dX10_readsThing_21 rfl rfl rfl
  · refine zi_aload0 (pc := 22) hX dX10_readsThing_22 ?_
    refine zi_iconst (pc := 23) hX dX10_readsThing_23 ki_1 ?_
    refine zi_puti (pc := 24) hX dX10_readsThing_24 fl_1384 ly_61 rfl et_z1 et_f1 (zi_bg (fun g3 => ?_))
    refine zi_aload0 (pc := 27) hX dX10_readsThing_27 ?_
    refine zi_callU (zc_virt (pc := 28) hX dX10_readsThing_28 tm_1595 md_X10_steps mi_X10_steps ly_61 (ct_Mo_steps hX.sane g3) rfl rfl rfl) (fun g5 => ?_)
    refine zi_iconst (pc := 31) hX dX10_readsThing_31 ki_5 ?_
    refine zi_aload0 (pc := 32) hX dX10_readsThing_32 ?_
    refine zi_geti (pc := 33) hX dX10_readsThing_33 fl_1380 ly_61 rfl ?_
    refine zi_imul (pc := 36) hX dX10_readsThing_36 ?_
    refine zi_bi (fun v6 => ?_)
    refine zi_istore1 (pc := 37) hX dX10_readsThing_37 rfl rfl ?_
    refine zi_aload0 (pc := 38) hX dX10_readsThing_38 ?_
    refine zi_aload0 (pc := 39) hX dX10_readsThing_39 ?_
    refine zi_geti (pc := 40) hX dX10_readsThing_40 fl_1376 ly_61 rfl ?_
    refine zi_callI (zc_virt (pc := 43) hX dX10_readsThing_43 tm_1651 md_X10_amongHere mi_X10_amongHere ly_61 (ct_Mo_amongHere hX.sane (g5.1 61 28) g5) rfl rfl rfl) (fun v7 g8 => ?_)
    refine zi_if_eq (pc := 46) 85 hX dX10_readsThing_46 (by decide) (fun _ => ?_) (fun _ => ?_)
    · exact zp_Mo_readsThing_85 hX v6 g8
    · refine zi_iconst (pc := 49) hX dX10_readsThing_49 ki_0 ?_
      refine zi_istore2 (pc := 50) hX dX10_readsThing_50 rfl rfl ?_
      exact zp_Mo_readsThing_51 hX v6 1000000 (0 : Int32) g8
theorem zw_Mo_readsThing {X : et_X} {w : et_W} (hX : et_Gd X w cX10_readsThing RX10 3 (none) [] rm_Mo_readsThing) (g : et_G) : et_Z X w 0 et_eU 0 [some (.ref (et_ad w 61)), none, none] [] g (fn_Mo_readsThing g) := by
  unfold fn_Mo_readsThing
  refine zi_aload0 (pc := 0) hX dX10_readsThing_0 ?_
  refine zi_geti (pc := 1) hX dX10_readsThing_1 fl_1380 ly_61 rfl ?_
  refine zi_bipush (pc := 4) hX dX10_readsThing_4 kb_8 ?_
  refine zi_icmp_ne (pc := 6) 14 hX dX10_readsThing_6 (by decide) (fun _ => ?_) (fun _ => ?_)
  · refine zi_aload0 (pc := 9) hX dX10_readsThing_9 ?_
    refine zi_iconst (pc := 10) hX dX10_readsThing_10 ki_2 ?_
    refine zi_callU (zc_virt (pc := 11) hX dX10_readsThing_11 tm_1627 md_X10_faults mi_X10_faults ly_61 (ct_Mo_faults hX.sane (2 : Int32) g) rfl rfl rfl) (fun g42 => ?_)
    exact zp_Mo_readsThing_14 hX g42
  · exact zp_Mo_readsThing_14 hX g
theorem ct_Mo_readsThing {w : et_W} (hw : et_Sane w) (g : et_G) : et_C w yX10_readsThing (Cond.code yX10_readsThing cX10_readsThing 3 (none)) rm_Mo_readsThing et_eU [.ref (et_ad w 61)] g (fn_Mo_readsThing g) := et_mk hw (by decide) rfl rfl (fun X hX => zw_Mo_readsThing hX g)
def rm_Mo_readsNear : Room := { frames := 3, cells := 0, slots := 0, locals := 64 }
def fn_Mo_readsNear_42 (x1 : Int32) (g : et_G) : Option (Unit × et_G) :=
  et_bd (fn_Mo_isGood g) (fun v8 g9 =>
  if v8 = 0 then
    some ((), g9)
  else
    et_ck (et_ib x1 6) (
    et_ck (et_ib x1 6) (et_b (et_si g9 79 x1.toNatClampNeg ((g9.1 79 x1.toNatClampNeg) ||| ((1 : Int32) <<< ((g9.1 61 26) &&& 31)))) (fun g10 =>
    et_ck (et_ib (g10.1 61 26) 6) (
    et_ck (et_ib (g10.1 61 26) 6) (et_b (et_si g10 79 (g10.1 61 26).toNatClampNeg ((g10.1 79 (g10.1 61 26).toNatClampNeg) ||| ((1 : Int32) <<< (x1 &&& 31)))) (fun g11 =>
    et_bd (fn_Mo_steps g11) (fun _ g13 =>
    some ((), g13)))))))))
def fn_Mo_readsNear (g : et_G) : Option (Unit × et_G) :=
  et_b (et_si g 61 36 (1 : Int32)) (fun g1 =>
  et_bd (fn_Mo_steps g1) (fun _ g3 =>
  et_bd (fn_Mo_among (g3.1 61 30) g3) (fun v4 g5 =>
  et_bd (fn_Mo_amongHere (g5.1 61 30) g5) (fun v6 g7 =>
  if v6 = 0 then
    fn_Mo_readsNear_42 v4 g7
  else
    if (g7.1 61 26) = v4 then
      et_bd (fn_Mo_faults (4 : Int32) g7) (fun _ g15 =>
      fn_Mo_readsNear_42 v4 g15)
    else
      fn_Mo_readsNear_42 v4 g7))))
theorem zp_Mo_readsNear_42 {X : et_X} {w : et_W} (hX : et_Gd X w cX10_readsNear RX10 2 (none) [] rm_Mo_readsNear) (x1 : Int32) (g : et_G) : et_Z X w 0 et_eU 42 [some (.ref (et_ad w 61)), some (.int x1)] [] g (fn_Mo_readsNear_42 x1 g) := by
  unfold fn_Mo_readsNear_42
  refine zi_aload0 (pc := 42) hX dX10_readsNear_42 ?_
  refine zi_callI (zc_virt (pc := 43) hX dX10_readsNear_43 tm_1609 md_X10_isGood mi_X10_isGood ly_61 (ct_Mo_isGood hX.sane g) rfl rfl rfl) (fun v8 g9 => ?_)
  refine zi_if_ne (pc := 46) 50 hX dX10_readsNear_46 (by decide) (fun _ => ?_) (fun _ => ?_)
  · exact zi_vret (pc := 49) hX dX10_readsNear_49 rfl rfl rfl
  · refine zi_aload0 (pc := 50) hX dX10_readsNear_50 ?_
    refine zi_getr (q := 79) (pc := 51) hX dX10_readsNear_51 fl_1391 ly_61 rfl ?_
    refine zi_iload1 (pc := 54) hX dX10_readsNear_54 ?_
    refine zi_dup2 (pc := 55) hX dX10_readsNear_55 rfl rfl ?_
    refine zi_iald (pc := 56) hX dX10_readsNear_56 ly_79 ?_
    refine zi_iconst (pc := 57) hX dX10_readsNear_57 ki_1 ?_
    refine zi_aload0 (pc := 58) hX dX10_readsNear_58 ?_
    refine zi_geti (pc := 59) hX dX10_readsNear_59 fl_1374 ly_61 rfl ?_
    refine zi_ishl (pc := 62) hX dX10_readsNear_62 ?_
    refine zi_ior (pc := 63) hX dX10_readsNear_63 ?_
    refine zi_iast (pc := 64) hX dX10_readsNear_64 ly_79 (zi_bg (fun g10 => ?_))
    refine zi_aload0 (pc := 65) hX dX10_readsNear_65 ?_
    refine zi_getr (q := 79) (pc := 66) hX dX10_readsNear_66 fl_1391 ly_61 rfl ?_
    refine zi_aload0 (pc := 69) hX dX10_readsNear_69 ?_
    refine zi_geti (pc := 70) hX dX10_readsNear_70 fl_1374 ly_61 rfl ?_
    refine zi_dup2 (pc := 73) hX dX10_readsNear_73 rfl rfl ?_
    refine zi_iald (pc := 74) hX dX10_readsNear_74 ly_79 ?_
    refine zi_iconst (pc := 75) hX dX10_readsNear_75 ki_1 ?_
    refine zi_iload1 (pc := 76) hX dX10_readsNear_76 ?_
    refine zi_ishl (pc := 77) hX dX10_readsNear_77 ?_
    refine zi_ior (pc := 78) hX dX10_readsNear_78 ?_
    refine zi_iast (pc := 79) hX dX10_readsNear_79 ly_79 (zi_bg (fun g11 => ?_))
    refine zi_aload0 (pc := 80) hX dX10_readsNear_80 ?_
    refine zi_callU (zc_virt (pc := 81) hX dX10_readsNear_81 tm_1595 md_X10_steps mi_X10_steps ly_61 (ct_Mo_steps hX.sane g11) rfl rfl rfl) (fun g13 => ?_)
    exact zi_vret (pc := 84) hX dX10_readsNear_84 rfl rfl rfl
theorem zw_Mo_readsNear {X : et_X} {w : et_W} (hX : et_Gd X w cX10_readsNear RX10 2 (none) [] rm_Mo_readsNear) (g : et_G) : et_Z X w 0 et_eU 0 [some (.ref (et_ad w 61)), none] [] g (fn_Mo_readsNear g) := by
  unfold fn_Mo_readsNear
  refine zi_aload0 (pc := 0) hX dX10_readsNear_0 ?_
  refine zi_iconst (pc := 1) hX dX10_readsNear_1 ki_1 ?_
  refine zi_puti (pc := 2) hX dX10_readsNear_2 fl_1384 ly_61 rfl et_z1 et_f1 (zi_bg (fun g1 => ?_))
  refine zi_aload0 (pc := 5) hX dX10_readsNear_5 ?_
  refine zi_callU (zc_virt (pc := 6) hX dX10_readsNear_6 tm_1595 md_X10_steps mi_X10_steps ly_61 (ct_Mo_steps hX.sane g1) rfl rfl rfl) (fun g3 => ?_)
  refine zi_aload0 (pc := 9) hX dX10_readsNear_9 ?_
  refine zi_aload0 (pc := 10) hX dX10_readsNear_10 ?_
  refine zi_geti (pc := 11) hX dX10_readsNear_11 fl_1378 ly_61 rfl ?_
  refine zi_callI (zc_virt (pc := 14) hX dX10_readsNear_14 tm_1647 md_X10_among mi_X10_among ly_61 (ct_Mo_among hX.sane (g3.1 61 30) g3) rfl rfl rfl) (fun v4 g5 => ?_)
  refine zi_istore1 (pc := 17) hX dX10_readsNear_17 rfl rfl ?_
  refine zi_aload0 (pc := 18) hX dX10_readsNear_18 ?_
  refine zi_aload0 (pc := 19) hX dX10_readsNear_19 ?_
  refine zi_geti (pc := 20) hX dX10_readsNear_20 fl_1378 ly_61 rfl ?_
  refine zi_callI (zc_virt (pc := 23) hX dX10_readsNear_23 tm_1651 md_X10_amongHere mi_X10_amongHere ly_61 (ct_Mo_amongHere hX.sane (g5.1 61 30) g5) rfl rfl rfl) (fun v6 g7 => ?_)
  refine zi_if_eq (pc := 26) 42 hX dX10_readsNear_26 (by decide) (fun _ => ?_) (fun _ => ?_)
  · exact zp_Mo_readsNear_42 hX v4 g7
  · refine zi_aload0 (pc := 29) hX dX10_readsNear_29 ?_
    refine zi_geti (pc := 30) hX dX10_readsNear_30 fl_1374 ly_61 rfl ?_
    refine zi_iload1 (pc := 33) hX dX10_readsNear_33 ?_
    refine zi_icmp_ne (pc := 34) 42 hX dX10_readsNear_34 (by decide) (fun _ => ?_) (fun _ => ?_)
    · refine zi_aload0 (pc := 37) hX dX10_readsNear_37 ?_
      refine zi_iconst (pc := 38) hX dX10_readsNear_38 ki_4 ?_
      refine zi_callU (zc_virt (pc := 39) hX dX10_readsNear_39 tm_1627 md_X10_faults mi_X10_faults ly_61 (ct_Mo_faults hX.sane (4 : Int32) g7) rfl rfl rfl) (fun g15 => ?_)
      exact zp_Mo_readsNear_42 hX v4 g15
    · exact zp_Mo_readsNear_42 hX v4 g7
theorem ct_Mo_readsNear {w : et_W} (hw : et_Sane w) (g : et_G) : et_C w yX10_readsNear (Cond.code yX10_readsNear cX10_readsNear 2 (none)) rm_Mo_readsNear et_eU [.ref (et_ad w 61)] g (fn_Mo_readsNear g) := et_mk hw (by decide) rfl rfl (fun X hX => zw_Mo_readsNear hX g)
def rm_Mo_word0_76 : Room := { frames := 2, cells := 0, slots := 0, locals := 42 }
def fn_Mo_word0_76_86 (g : et_G) : Option (Unit × et_G) :=
  et_bd (fn_Mo_steps g) (fun _ g7 =>
  some ((), g7))
def fn_Mo_word0_76_55 (x2 : Int32) : Nat → Int32 → et_G → Option (Unit × et_G)
  | 0, _, _ => none
  | n + 1, x3, g =>
    if (g.1 61 25) ≤ x3 then
      fn_Mo_word0_76_86 g
    else
      et_bd (fn_Mo_byteAt ((g.1 61 24) + x3) g) (fun v8 g9 =>
      et_ck (et_ib ((x2 + (1 : Int32)) + x3) 9) (et_b (et_si g9 76 ((x2 + (1 : Int32)) + x3).toNatClampNeg v8) (fun g10 =>
      et_b (x3 + (1 : Int32)) (fun v11 =>
      fn_Mo_word0_76_55 x2 n v11 g10))))
def fn_Mo_word0_76_38 (x2 : Int32) (g : et_G) : Option (Unit × et_G) :=
  et_bd (fn_Mo_isGood g) (fun v3 g4 =>
  if v3 = 0 then
    some ((), g4)
  else
    et_ck (et_ib x2 9) (et_b (et_si g4 76 x2.toNatClampNeg (g4.1 61 25)) (fun g5 =>
    fn_Mo_word0_76_55 x2 1000000 (0 : Int32) g5)))
def fn_Mo_word0_76 (p2 : Int32) (g : et_G) : Option (Unit × et_G) :=
  et_bd (fn_Mo_isGood g) (fun v1 g2 =>
  if v1 = 0 then
    some ((), g2)
  else
    if (g2.1 61 23) = (1 : Int32) then
      if (g2.1 61 25) ≤ (8 : Int32) then
        fn_Mo_word0_76_38 p2 g2
      else
        et_bd (fn_Mo_faults (2 : Int32) g2) (fun _ g13 =>
        fn_Mo_word0_76_38 p2 g13)
    else
      et_bd (fn_Mo_faults (1 : Int32) g2) (fun _ g15 =>
      fn_Mo_word0_76_38 p2 g15))
theorem zp_Mo_word0_76_86 {X : et_X} {w : et_W} (hX : et_Gd X w cX10_word0 RX10 4 (none) [] rm_Mo_word0_76) (g : et_G) : et_Z X w 0 et_eU 86 [some (.ref (et_ad w 61)), none, none, none] [] g (fn_Mo_word0_76_86 g) := by
  unfold fn_Mo_word0_76_86
  refine zi_aload0 (pc := 86) hX dX10_word0_86 ?_
  refine zi_callU (zc_virt (pc := 87) hX dX10_word0_87 tm_1595 md_X10_steps mi_X10_steps ly_61 (ct_Mo_steps hX.sane g) rfl rfl rfl) (fun g7 => ?_)
  exact zi_vret (pc := 90) hX dX10_word0_90 rfl rfl rfl
theorem zp_Mo_word0_76_55 {X : et_X} {w : et_W} (hX : et_Gd X w cX10_word0 RX10 4 (none) [] rm_Mo_word0_76) (x2 : Int32) : ∀ (n : Nat) (x3 : Int32) (g : et_G), et_Z X w 0 et_eU 55 [some (.ref (et_ad w 61)), some (.ref (et_ad w 76)), some (.int x2), some (.int x3)] [] g (fn_Mo_word0_76_55 x2 n x3 g) := by
  intro n
  induction n with
  | zero =>
    intro x3 g a g2 h
    cases h
  | succ n ih =>
    intro x3 g
    rw [fn_Mo_word0_76_55]
    refine zi_iload3 (pc := 55) hX dX10_word0_55 ?_
    refine zi_aload0 (pc := 56) hX dX10_word0_56 ?_
    refine zi_geti (pc := 57) hX dX10_word0_57 fl_1373 ly_61 rfl ?_
    refine zi_icmp_ge (pc := 60) 86 hX dX10_word0_60 (by decide) (fun _ => ?_) (fun _ => ?_)
    · refine zi_drop (le_s (le_n (le_n (le_n le_nil)))) ?_; exact zp_Mo_word0_76_86 hX g
    · refine zi_aload1 (pc := 63) hX dX10_word0_63 ?_
      refine zi_iload2 (pc := 64) hX dX10_word0_64 ?_
      refine zi_iconst (pc := 65) hX dX10_word0_65 ki_1 ?_
      refine zi_iadd (pc := 66) hX dX10_word0_66 ?_
      refine zi_iload3 (pc := 67) hX dX10_word0_67 ?_
      refine zi_iadd (pc := 68) hX dX10_word0_68 ?_
      refine zi_aload0 (pc := 69) hX dX10_word0_69 ?_
      refine zi_aload0 (pc := 70) hX dX10_word0_70 ?_
      refine zi_geti (pc := 71) hX dX10_word0_71 fl_1372 ly_61 rfl ?_
      refine zi_iload3 (pc := 74) hX dX10_word0_74 ?_
      refine zi_iadd (pc := 75) hX dX10_word0_75 ?_
      refine zi_callI (zc_virt (pc := 76) hX dX10_word0_76 tm_1599 md_X10_byteAt mi_X10_byteAt ly_61 (ct_Mo_byteAt hX.sane ((g.1 61 24) + x3) g) rfl rfl rfl) (fun v8 g9 => ?_)
      refine zi_iast (pc := 79) hX dX10_word0_79 ly_76 (zi_bg (fun g10 => ?_))
      refine zi_iincb3 (pc := 80) hX dX10_word0_80 (kn_1 _) rfl rfl (fun v11 => ?_)
      refine zi_goto (pc := 83) 55 hX dX10_word0_83 (by decide) ?_
      exact ih v11 g10
theorem zp_Mo_word0_76_38 {X : et_X} {w : et_W} (hX : et_Gd X w cX10_word0 RX10 4 (none) [] rm_Mo_word0_76) (x2 : Int32) (g : et_G) : et_Z X w 0 et_eU 38 [some (.ref (et_ad w 61)), some (.ref (et_ad w 76)), some (.int x2), none] [] g (fn_Mo_word0_76_38 x2 g) := by
  unfold fn_Mo_word0_76_38
  refine zi_aload0 (pc := 38) hX dX10_word0_38 ?_
  refine zi_callI (zc_virt (pc := 39) hX dX10_word0_39 tm_1609 md_X10_isGood mi_X10_isGood ly_61 (ct_Mo_isGood hX.sane g) rfl rfl rfl) (fun v3 g4 => ?_)
  refine zi_if_ne (pc := 42) 46 hX dX10_word0_42 (by decide) (fun _ => ?_) (fun _ => ?_)
  · exact zi_vret (pc := 45) hX dX10_word0_45 rfl rfl rfl
  · refine zi_aload1 (pc := 46) hX dX10_word0_46 ?_
    refine zi_iload2 (pc := 47) hX dX10_word0_47 ?_
    refine zi_aload0 (pc := 48) hX dX10_word0_48 ?_
    refine zi_geti (pc := 49) hX dX10_word0_49 fl_1373 ly_61 rfl ?_
    refine zi_iast (pc := 52) hX dX10_word0_52 ly_76 (zi_bg (fun g5 => ?_))
    refine zi_iconst (pc := 53) hX dX10_word0_53 ki_0 ?_
    refine zi_istore3 (pc := 54) hX dX10_word0_54 rfl rfl ?_
    exact zp_Mo_word0_76_55 hX x2 1000000 (0 : Int32) g5
theorem zw_Mo_word0_76 {X : et_X} {w : et_W} (hX : et_Gd X w cX10_word0 RX10 4 (none) [] rm_Mo_word0_76) (p2 : Int32) (g : et_G) : et_Z X w 0 et_eU 0 [some (.ref (et_ad w 61)), some (.ref (et_ad w 76)), some (.int p2), none] [] g (fn_Mo_word0_76 p2 g) := by
  unfold fn_Mo_word0_76
  refine zi_aload0 (pc := 0) hX dX10_word0_0 ?_
  refine zi_callI (zc_virt (pc := 1) hX dX10_word0_1 tm_1609 md_X10_isGood mi_X10_isGood ly_61 (ct_Mo_isGood hX.sane g) rfl rfl rfl) (fun v1 g2 => ?_)
  refine zi_if_ne (pc := 4) 8 hX dX10_word0_4 (by decide) (fun _ => ?_) (fun _ => ?_)
  · exact zi_vret (pc := 7) hX dX10_word0_7 rfl rfl rfl
  · refine zi_aload0 (pc := 8) hX dX10_word0_8 ?_
    refine zi_geti (pc := 9) hX dX10_word0_9 fl_1371 ly_61 rfl ?_
    refine zi_iconst (pc := 12) hX dX10_word0_12 ki_1 ?_
    refine zi_icmp_eq (pc := 13) 24 hX dX10_word0_13 (by decide) (fun _ => ?_) (fun _ => ?_)
    · refine zi_aload0 (pc := 24) hX dX10_word0_24 ?_
      refine zi_geti (pc := 25) hX dX10_word0_25 fl_1373 ly_61 rfl ?_
      refine zi_bipush (pc := 28) hX dX10_word0_28 kb_8 ?_
      refine zi_icmp_le (pc := 30) 38 hX dX10_word0_30 (by decide) (fun _ => ?_) (fun _ => ?_)
      · exact zp_Mo_word0_76_38 hX p2 g2
      · refine zi_aload0 (pc := 33) hX dX10_word0_33 ?_
        refine zi_iconst (pc := 34) hX dX10_word0_34 ki_2 ?_
        refine zi_callU (zc_virt (pc := 35) hX dX10_word0_35 tm_1627 md_X10_faults mi_X10_faults ly_61 (ct_Mo_faults hX.sane (2 : Int32) g2) rfl rfl rfl) (fun g13 => ?_)
        exact zp_Mo_word0_76_38 hX p2 g13
    · refine zi_aload0 (pc := 16) hX dX10_word0_16 ?_
      refine zi_iconst (pc := 17) hX dX10_word0_17 ki_1 ?_
      refine zi_callU (zc_virt (pc := 18) hX dX10_word0_18 tm_1627 md_X10_faults mi_X10_faults ly_61 (ct_Mo_faults hX.sane (1 : Int32) g2) rfl rfl rfl) (fun g15 => ?_)
      refine zi_goto (pc := 21) 38 hX dX10_word0_21 (by decide) ?_
      exact zp_Mo_word0_76_38 hX p2 g15
theorem ct_Mo_word0_76 {w : et_W} (hw : et_Sane w) (p2 : Int32) (g : et_G) : et_C w yX10_word0 (Cond.code yX10_word0 cX10_word0 4 (none)) rm_Mo_word0_76 et_eU [.ref (et_ad w 61), .ref (et_ad w 76), .int p2] g (fn_Mo_word0_76 p2 g) := et_mk hw (by decide) rfl rfl (fun X hX => zw_Mo_word0_76 hX p2 g)
def rm_Mo_word0_75 : Room := { frames := 2, cells := 0, slots := 0, locals := 42 }
def fn_Mo_word0_75_86 (g : et_G) : Option (Unit × et_G) :=
  et_bd (fn_Mo_steps g) (fun _ g7 =>
  some ((), g7))
def fn_Mo_word0_75_55 (x2 : Int32) : Nat → Int32 → et_G → Option (Unit × et_G)
  | 0, _, _ => none
  | n + 1, x3, g =>
    if (g.1 61 25) ≤ x3 then
      fn_Mo_word0_75_86 g
    else
      et_bd (fn_Mo_byteAt ((g.1 61 24) + x3) g) (fun v8 g9 =>
      et_ck (et_ib ((x2 + (1 : Int32)) + x3) 162) (et_b (et_si g9 75 ((x2 + (1 : Int32)) + x3).toNatClampNeg v8) (fun g10 =>
      et_b (x3 + (1 : Int32)) (fun v11 =>
      fn_Mo_word0_75_55 x2 n v11 g10))))
def fn_Mo_word0_75_38 (x2 : Int32) (g : et_G) : Option (Unit × et_G) :=
  et_bd (fn_Mo_isGood g) (fun v3 g4 =>
  if v3 = 0 then
    some ((), g4)
  else
    et_ck (et_ib x2 162) (et_b (et_si g4 75 x2.toNatClampNeg (g4.1 61 25)) (fun g5 =>
    fn_Mo_word0_75_55 x2 1000000 (0 : Int32) g5)))
def fn_Mo_word0_75 (p2 : Int32) (g : et_G) : Option (Unit × et_G) :=
  et_bd (fn_Mo_isGood g) (fun v1 g2 =>
  if v1 = 0 then
    some ((), g2)
  else
    if (g2.1 61 23) = (1 : Int32) then
      if (g2.1 61 25) ≤ (8 : Int32) then
        fn_Mo_word0_75_38 p2 g2
      else
        et_bd (fn_Mo_faults (2 : Int32) g2) (fun _ g13 =>
        fn_Mo_word0_75_38 p2 g13)
    else
      et_bd (fn_Mo_faults (1 : Int32) g2) (fun _ g15 =>
      fn_Mo_word0_75_38 p2 g15))
theorem zp_Mo_word0_75_86 {X : et_X} {w : et_W} (hX : et_Gd X w cX10_word0 RX10 4 (none) [] rm_Mo_word0_75) (g : et_G) : et_Z X w 0 et_eU 86 [some (.ref (et_ad w 61)), none, none, none] [] g (fn_Mo_word0_75_86 g) := by
  unfold fn_Mo_word0_75_86
  refine zi_aload0 (pc := 86) hX dX10_word0_86 ?_
  refine zi_callU (zc_virt (pc := 87) hX dX10_word0_87 tm_1595 md_X10_steps mi_X10_steps ly_61 (ct_Mo_steps hX.sane g) rfl rfl rfl) (fun g7 => ?_)
  exact zi_vret (pc := 90) hX dX10_word0_90 rfl rfl rfl
theorem zp_Mo_word0_75_55 {X : et_X} {w : et_W} (hX : et_Gd X w cX10_word0 RX10 4 (none) [] rm_Mo_word0_75) (x2 : Int32) : ∀ (n : Nat) (x3 : Int32) (g : et_G), et_Z X w 0 et_eU 55 [some (.ref (et_ad w 61)), some (.ref (et_ad w 75)), some (.int x2), some (.int x3)] [] g (fn_Mo_word0_75_55 x2 n x3 g) := by
  intro n
  induction n with
  | zero =>
    intro x3 g a g2 h
    cases h
  | succ n ih =>
    intro x3 g
    rw [fn_Mo_word0_75_55]
    refine zi_iload3 (pc := 55) hX dX10_word0_55 ?_
    refine zi_aload0 (pc := 56) hX dX10_word0_56 ?_
    refine zi_geti (pc := 57) hX dX10_word0_57 fl_1373 ly_61 rfl ?_
    refine zi_icmp_ge (pc := 60) 86 hX dX10_word0_60 (by decide) (fun _ => ?_) (fun _ => ?_)
    · refine zi_drop (le_s (le_n (le_n (le_n le_nil)))) ?_; exact zp_Mo_word0_75_86 hX g
    · refine zi_aload1 (pc := 63) hX dX10_word0_63 ?_
      refine zi_iload2 (pc := 64) hX dX10_word0_64 ?_
      refine zi_iconst (pc := 65) hX dX10_word0_65 ki_1 ?_
      refine zi_iadd (pc := 66) hX dX10_word0_66 ?_
      refine zi_iload3 (pc := 67) hX dX10_word0_67 ?_
      refine zi_iadd (pc := 68) hX dX10_word0_68 ?_
      refine zi_aload0 (pc := 69) hX dX10_word0_69 ?_
      refine zi_aload0 (pc := 70) hX dX10_word0_70 ?_
      refine zi_geti (pc := 71) hX dX10_word0_71 fl_1372 ly_61 rfl ?_
      refine zi_iload3 (pc := 74) hX dX10_word0_74 ?_
      refine zi_iadd (pc := 75) hX dX10_word0_75 ?_
      refine zi_callI (zc_virt (pc := 76) hX dX10_word0_76 tm_1599 md_X10_byteAt mi_X10_byteAt ly_61 (ct_Mo_byteAt hX.sane ((g.1 61 24) + x3) g) rfl rfl rfl) (fun v8 g9 => ?_)
      refine zi_iast (pc := 79) hX dX10_word0_79 ly_75 (zi_bg (fun g10 => ?_))
      refine zi_iincb3 (pc := 80) hX dX10_word0_80 (kn_1 _) rfl rfl (fun v11 => ?_)
      refine zi_goto (pc := 83) 55 hX dX10_word0_83 (by decide) ?_
      exact ih v11 g10
theorem zp_Mo_word0_75_38 {X : et_X} {w : et_W} (hX : et_Gd X w cX10_word0 RX10 4 (none) [] rm_Mo_word0_75) (x2 : Int32) (g : et_G) : et_Z X w 0 et_eU 38 [some (.ref (et_ad w 61)), some (.ref (et_ad w 75)), some (.int x2), none] [] g (fn_Mo_word0_75_38 x2 g) := by
  unfold fn_Mo_word0_75_38
  refine zi_aload0 (pc := 38) hX dX10_word0_38 ?_
  refine zi_callI (zc_virt (pc := 39) hX dX10_word0_39 tm_1609 md_X10_isGood mi_X10_isGood ly_61 (ct_Mo_isGood hX.sane g) rfl rfl rfl) (fun v3 g4 => ?_)
  refine zi_if_ne (pc := 42) 46 hX dX10_word0_42 (by decide) (fun _ => ?_) (fun _ => ?_)
  · exact zi_vret (pc := 45) hX dX10_word0_45 rfl rfl rfl
  · refine zi_aload1 (pc := 46) hX dX10_word0_46 ?_
    refine zi_iload2 (pc := 47) hX dX10_word0_47 ?_
    refine zi_aload0 (pc := 48) hX dX10_word0_48 ?_
    refine zi_geti (pc := 49) hX dX10_word0_49 fl_1373 ly_61 rfl ?_
    refine zi_iast (pc := 52) hX dX10_word0_52 ly_75 (zi_bg (fun g5 => ?_))
    refine zi_iconst (pc := 53) hX dX10_word0_53 ki_0 ?_
    refine zi_istore3 (pc := 54) hX dX10_word0_54 rfl rfl ?_
    exact zp_Mo_word0_75_55 hX x2 1000000 (0 : Int32) g5
theorem zw_Mo_word0_75 {X : et_X} {w : et_W} (hX : et_Gd X w cX10_word0 RX10 4 (none) [] rm_Mo_word0_75) (p2 : Int32) (g : et_G) : et_Z X w 0 et_eU 0 [some (.ref (et_ad w 61)), some (.ref (et_ad w 75)), some (.int p2), none] [] g (fn_Mo_word0_75 p2 g) := by
  unfold fn_Mo_word0_75
  refine zi_aload0 (pc := 0) hX dX10_word0_0 ?_
  refine zi_callI (zc_virt (pc := 1) hX dX10_word0_1 tm_1609 md_X10_isGood mi_X10_isGood ly_61 (ct_Mo_isGood hX.sane g) rfl rfl rfl) (fun v1 g2 => ?_)
  refine zi_if_ne (pc := 4) 8 hX dX10_word0_4 (by decide) (fun _ => ?_) (fun _ => ?_)
  · exact zi_vret (pc := 7) hX dX10_word0_7 rfl rfl rfl
  · refine zi_aload0 (pc := 8) hX dX10_word0_8 ?_
    refine zi_geti (pc := 9) hX dX10_word0_9 fl_1371 ly_61 rfl ?_
    refine zi_iconst (pc := 12) hX dX10_word0_12 ki_1 ?_
    refine zi_icmp_eq (pc := 13) 24 hX dX10_word0_13 (by decide) (fun _ => ?_) (fun _ => ?_)
    · refine zi_aload0 (pc := 24) hX dX10_word0_24 ?_
      refine zi_geti (pc := 25) hX dX10_word0_25 fl_1373 ly_61 rfl ?_
      refine zi_bipush (pc := 28) hX dX10_word0_28 kb_8 ?_
      refine zi_icmp_le (pc := 30) 38 hX dX10_word0_30 (by decide) (fun _ => ?_) (fun _ => ?_)
      · exact zp_Mo_word0_75_38 hX p2 g2
      · refine zi_aload0 (pc := 33) hX dX10_word0_33 ?_
        refine zi_iconst (pc := 34) hX dX10_word0_34 ki_2 ?_
        refine zi_callU (zc_virt (pc := 35) hX dX10_word0_35 tm_1627 md_X10_faults mi_X10_faults ly_61 (ct_Mo_faults hX.sane (2 : Int32) g2) rfl rfl rfl) (fun g13 => ?_)
        exact zp_Mo_word0_75_38 hX p2 g13
    · refine zi_aload0 (pc := 16) hX dX10_word0_16 ?_
      refine zi_iconst (pc := 17) hX dX10_word0_17 ki_1 ?_
      refine zi_callU (zc_virt (pc := 18) hX dX10_word0_18 tm_1627 md_X10_faults mi_X10_faults ly_61 (ct_Mo_faults hX.sane (1 : Int32) g2) rfl rfl rfl) (fun g15 => ?_)
      refine zi_goto (pc := 21) 38 hX dX10_word0_21 (by decide) ?_
      exact zp_Mo_word0_75_38 hX p2 g15
theorem ct_Mo_word0_75 {w : et_W} (hw : et_Sane w) (p2 : Int32) (g : et_G) : et_C w yX10_word0 (Cond.code yX10_word0 cX10_word0 4 (none)) rm_Mo_word0_75 et_eU [.ref (et_ad w 61), .ref (et_ad w 75), .int p2] g (fn_Mo_word0_75 p2 g) := et_mk hw (by decide) rfl rfl (fun X hX => zw_Mo_word0_75 hX p2 g)
def rm_Mo_word0_74 : Room := { frames := 2, cells := 0, slots := 0, locals := 42 }
def fn_Mo_word0_74_86 (g : et_G) : Option (Unit × et_G) :=
  et_bd (fn_Mo_steps g) (fun _ g7 =>
  some ((), g7))
def fn_Mo_word0_74_55 (x2 : Int32) : Nat → Int32 → et_G → Option (Unit × et_G)
  | 0, _, _ => none
  | n + 1, x3, g =>
    if (g.1 61 25) ≤ x3 then
      fn_Mo_word0_74_86 g
    else
      et_bd (fn_Mo_byteAt ((g.1 61 24) + x3) g) (fun v8 g9 =>
      et_ck (et_ib ((x2 + (1 : Int32)) + x3) 135) (et_b (et_si g9 74 ((x2 + (1 : Int32)) + x3).toNatClampNeg v8) (fun g10 =>
      et_b (x3 + (1 : Int32)) (fun v11 =>
      fn_Mo_word0_74_55 x2 n v11 g10))))
def fn_Mo_word0_74_38 (x2 : Int32) (g : et_G) : Option (Unit × et_G) :=
  et_bd (fn_Mo_isGood g) (fun v3 g4 =>
  if v3 = 0 then
    some ((), g4)
  else
    et_ck (et_ib x2 135) (et_b (et_si g4 74 x2.toNatClampNeg (g4.1 61 25)) (fun g5 =>
    fn_Mo_word0_74_55 x2 1000000 (0 : Int32) g5)))
def fn_Mo_word0_74 (p2 : Int32) (g : et_G) : Option (Unit × et_G) :=
  et_bd (fn_Mo_isGood g) (fun v1 g2 =>
  if v1 = 0 then
    some ((), g2)
  else
    if (g2.1 61 23) = (1 : Int32) then
      if (g2.1 61 25) ≤ (8 : Int32) then
        fn_Mo_word0_74_38 p2 g2
      else
        et_bd (fn_Mo_faults (2 : Int32) g2) (fun _ g13 =>
        fn_Mo_word0_74_38 p2 g13)
    else
      et_bd (fn_Mo_faults (1 : Int32) g2) (fun _ g15 =>
      fn_Mo_word0_74_38 p2 g15))
theorem zp_Mo_word0_74_86 {X : et_X} {w : et_W} (hX : et_Gd X w cX10_word0 RX10 4 (none) [] rm_Mo_word0_74) (g : et_G) : et_Z X w 0 et_eU 86 [some (.ref (et_ad w 61)), none, none, none] [] g (fn_Mo_word0_74_86 g) := by
  unfold fn_Mo_word0_74_86
  refine zi_aload0 (pc := 86) hX dX10_word0_86 ?_
  refine zi_callU (zc_virt (pc := 87) hX dX10_word0_87 tm_1595 md_X10_steps mi_X10_steps ly_61 (ct_Mo_steps hX.sane g) rfl rfl rfl) (fun g7 => ?_)
  exact zi_vret (pc := 90) hX dX10_word0_90 rfl rfl rfl
theorem zp_Mo_word0_74_55 {X : et_X} {w : et_W} (hX : et_Gd X w cX10_word0 RX10 4 (none) [] rm_Mo_word0_74) (x2 : Int32) : ∀ (n : Nat) (x3 : Int32) (g : et_G), et_Z X w 0 et_eU 55 [some (.ref (et_ad w 61)), some (.ref (et_ad w 74)), some (.int x2), some (.int x3)] [] g (fn_Mo_word0_74_55 x2 n x3 g) := by
  intro n
  induction n with
  | zero =>
    intro x3 g a g2 h
    cases h
  | succ n ih =>
    intro x3 g
    rw [fn_Mo_word0_74_55]
    refine zi_iload3 (pc := 55) hX dX10_word0_55 ?_
    refine zi_aload0 (pc := 56) hX dX10_word0_56 ?_
    refine zi_geti (pc := 57) hX dX10_word0_57 fl_1373 ly_61 rfl ?_
    refine zi_icmp_ge (pc := 60) 86 hX dX10_word0_60 (by decide) (fun _ => ?_) (fun _ => ?_)
    · refine zi_drop (le_s (le_n (le_n (le_n le_nil)))) ?_; exact zp_Mo_word0_74_86 hX g
    · refine zi_aload1 (pc := 63) hX dX10_word0_63 ?_
      refine zi_iload2 (pc := 64) hX dX10_word0_64 ?_
      refine zi_iconst (pc := 65) hX dX10_word0_65 ki_1 ?_
      refine zi_iadd (pc := 66) hX dX10_word0_66 ?_
      refine zi_iload3 (pc := 67) hX dX10_word0_67 ?_
      refine zi_iadd (pc := 68) hX dX10_word0_68 ?_
      refine zi_aload0 (pc := 69) hX dX10_word0_69 ?_
      refine zi_aload0 (pc := 70) hX dX10_word0_70 ?_
      refine zi_geti (pc := 71) hX dX10_word0_71 fl_1372 ly_61 rfl ?_
      refine zi_iload3 (pc := 74) hX dX10_word0_74 ?_
      refine zi_iadd (pc := 75) hX dX10_word0_75 ?_
      refine zi_callI (zc_virt (pc := 76) hX dX10_word0_76 tm_1599 md_X10_byteAt mi_X10_byteAt ly_61 (ct_Mo_byteAt hX.sane ((g.1 61 24) + x3) g) rfl rfl rfl) (fun v8 g9 => ?_)
      refine zi_iast (pc := 79) hX dX10_word0_79 ly_74 (zi_bg (fun g10 => ?_))
      refine zi_iincb3 (pc := 80) hX dX10_word0_80 (kn_1 _) rfl rfl (fun v11 => ?_)
      refine zi_goto (pc := 83) 55 hX dX10_word0_83 (by decide) ?_
      exact ih v11 g10
theorem zp_Mo_word0_74_38 {X : et_X} {w : et_W} (hX : et_Gd X w cX10_word0 RX10 4 (none) [] rm_Mo_word0_74) (x2 : Int32) (g : et_G) : et_Z X w 0 et_eU 38 [some (.ref (et_ad w 61)), some (.ref (et_ad w 74)), some (.int x2), none] [] g (fn_Mo_word0_74_38 x2 g) := by
  unfold fn_Mo_word0_74_38
  refine zi_aload0 (pc := 38) hX dX10_word0_38 ?_
  refine zi_callI (zc_virt (pc := 39) hX dX10_word0_39 tm_1609 md_X10_isGood mi_X10_isGood ly_61 (ct_Mo_isGood hX.sane g) rfl rfl rfl) (fun v3 g4 => ?_)
  refine zi_if_ne (pc := 42) 46 hX dX10_word0_42 (by decide) (fun _ => ?_) (fun _ => ?_)
  · exact zi_vret (pc := 45) hX dX10_word0_45 rfl rfl rfl
  · refine zi_aload1 (pc := 46) hX dX10_word0_46 ?_
    refine zi_iload2 (pc := 47) hX dX10_word0_47 ?_
    refine zi_aload0 (pc := 48) hX dX10_word0_48 ?_
    refine zi_geti (pc := 49) hX dX10_word0_49 fl_1373 ly_61 rfl ?_
    refine zi_iast (pc := 52) hX dX10_word0_52 ly_74 (zi_bg (fun g5 => ?_))
    refine zi_iconst (pc := 53) hX dX10_word0_53 ki_0 ?_
    refine zi_istore3 (pc := 54) hX dX10_word0_54 rfl rfl ?_
    exact zp_Mo_word0_74_55 hX x2 1000000 (0 : Int32) g5
theorem zw_Mo_word0_74 {X : et_X} {w : et_W} (hX : et_Gd X w cX10_word0 RX10 4 (none) [] rm_Mo_word0_74) (p2 : Int32) (g : et_G) : et_Z X w 0 et_eU 0 [some (.ref (et_ad w 61)), some (.ref (et_ad w 74)), some (.int p2), none] [] g (fn_Mo_word0_74 p2 g) := by
  unfold fn_Mo_word0_74
  refine zi_aload0 (pc := 0) hX dX10_word0_0 ?_
  refine zi_callI (zc_virt (pc := 1) hX dX10_word0_1 tm_1609 md_X10_isGood mi_X10_isGood ly_61 (ct_Mo_isGood hX.sane g) rfl rfl rfl) (fun v1 g2 => ?_)
  refine zi_if_ne (pc := 4) 8 hX dX10_word0_4 (by decide) (fun _ => ?_) (fun _ => ?_)
  · exact zi_vret (pc := 7) hX dX10_word0_7 rfl rfl rfl
  · refine zi_aload0 (pc := 8) hX dX10_word0_8 ?_
    refine zi_geti (pc := 9) hX dX10_word0_9 fl_1371 ly_61 rfl ?_
    refine zi_iconst (pc := 12) hX dX10_word0_12 ki_1 ?_
    refine zi_icmp_eq (pc := 13) 24 hX dX10_word0_13 (by decide) (fun _ => ?_) (fun _ => ?_)
    · refine zi_aload0 (pc := 24) hX dX10_word0_24 ?_
      refine zi_geti (pc := 25) hX dX10_word0_25 fl_1373 ly_61 rfl ?_
      refine zi_bipush (pc := 28) hX dX10_word0_28 kb_8 ?_
      refine zi_icmp_le (pc := 30) 38 hX dX10_word0_30 (by decide) (fun _ => ?_) (fun _ => ?_)
      · exact zp_Mo_word0_74_38 hX p2 g2
      · refine zi_aload0 (pc := 33) hX dX10_word0_33 ?_
        refine zi_iconst (pc := 34) hX dX10_word0_34 ki_2 ?_
        refine zi_callU (zc_virt (pc := 35) hX dX10_word0_35 tm_1627 md_X10_faults mi_X10_faults ly_61 (ct_Mo_faults hX.sane (2 : Int32) g2) rfl rfl rfl) (fun g13 => ?_)
        exact zp_Mo_word0_74_38 hX p2 g13
    · refine zi_aload0 (pc := 16) hX dX10_word0_16 ?_
      refine zi_iconst (pc := 17) hX dX10_word0_17 ki_1 ?_
      refine zi_callU (zc_virt (pc := 18) hX dX10_word0_18 tm_1627 md_X10_faults mi_X10_faults ly_61 (ct_Mo_faults hX.sane (1 : Int32) g2) rfl rfl rfl) (fun g15 => ?_)
      refine zi_goto (pc := 21) 38 hX dX10_word0_21 (by decide) ?_
      exact zp_Mo_word0_74_38 hX p2 g15
theorem ct_Mo_word0_74 {w : et_W} (hw : et_Sane w) (p2 : Int32) (g : et_G) : et_C w yX10_word0 (Cond.code yX10_word0 cX10_word0 4 (none)) rm_Mo_word0_74 et_eU [.ref (et_ad w 61), .ref (et_ad w 74), .int p2] g (fn_Mo_word0_74 p2 g) := et_mk hw (by decide) rfl rfl (fun X hX => zw_Mo_word0_74 hX p2 g)
def rm_Mo_readsEnding : Room := { frames := 3, cells := 0, slots := 0, locals := 65 }
def fn_Mo_readsEnding_66 (x1 : Int32) (g : et_G) : Option (Unit × et_G) :=
  et_bd (fn_Mo_number (0 : Int32) (4 : Int32) g) (fun v7 g8 =>
  et_bd (fn_Mo_word0_74 ((9 : Int32) * (((5 : Int32) * x1) + v7)) g8) (fun _ g10 =>
  some ((), g10)))
def fn_Mo_readsEnding (g : et_G) : Option (Unit × et_G) :=
  et_bd (fn_Mo_steps g) (fun _ g2 =>
  et_bd (fn_Mo_number (0 : Int32) (2 : Int32) g2) (fun v3 g4 =>
  et_bd (fn_Mo_isGood g4) (fun v5 g6 =>
  if v5 = 0 then
    fn_Mo_readsEnding_66 v3 g6
  else
    if (g6.1 61 23) = (2 : Int32) then
      if (3 : Int32) < (g6.1 61 25) then
        fn_Mo_readsEnding_66 v3 g6
      else
        if (5 : Int32) ≤ (g6.1 61 26) then
          fn_Mo_readsEnding_66 v3 g6
        else
          et_ck (et_ib ((9 : Int32) * (((5 : Int32) * v3) + (g6.1 61 26))) 135) (
          if (g6.1 74 ((9 : Int32) * (((5 : Int32) * v3) + (g6.1 61 26))).toNatClampNeg) ≤ 0 then
            fn_Mo_readsEnding_66 v3 g6
          else
            et_bd (fn_Mo_faults (4 : Int32) g6) (fun _ g12 =>
            fn_Mo_readsEnding_66 v3 g12))
    else
      fn_Mo_readsEnding_66 v3 g6)))
theorem zp_Mo_readsEnding_66 {X : et_X} {w : et_W} (hX : et_Gd X w cX10_readsEnding RX10 3 (none) [] rm_Mo_readsEnding) (x1 : Int32) (g : et_G) : et_Z X w 0 et_eU 66 [some (.ref (et_ad w 61)), some (.int x1), none] [] g (fn_Mo_readsEnding_66 x1 g) := by
  unfold fn_Mo_readsEnding_66
  refine zi_aload0 (pc := 66) hX dX10_readsEnding_66 ?_
  refine zi_iconst (pc := 67) hX dX10_readsEnding_67 ki_0 ?_
  refine zi_iconst (pc := 68) hX dX10_readsEnding_68 ki_4 ?_
  refine zi_callI (zc_virt (pc := 69) hX dX10_readsEnding_69 tm_1639 md_X10_number mi_X10_number ly_61 (ct_Mo_number hX.sane (0 : Int32) (4 : Int32) g) rfl rfl rfl) (fun v7 g8 => ?_)
  refine zi_istore2 (pc := 72) hX dX10_readsEnding_72 rfl rfl ?_
  refine zi_aload0 (pc := 73) hX dX10_readsEnding_73 ?_
  refine zi_aload0 (pc := 74) hX dX10_readsEnding_74 ?_
  refine zi_getr (q := 74) (pc := 75) hX dX10_readsEnding_75 fl_1386 ly_61 rfl ?_
  refine zi_bipush (pc := 78) hX dX10_readsEnding_78 kb_9 ?_
  refine zi_iconst (pc := 80) hX dX10_readsEnding_80 ki_5 ?_
  refine zi_iload1 (pc := 81) hX dX10_readsEnding_81 ?_
  refine zi_imul (pc := 82) hX dX10_readsEnding_82 ?_
  refine zi_iload2 (pc := 83) hX dX10_readsEnding_83 ?_
  refine zi_iadd (pc := 84) hX dX10_readsEnding_84 ?_
  refine zi_imul (pc := 85) hX dX10_readsEnding_85 ?_
  refine zi_callU (zc_virt (pc := 86) hX dX10_readsEnding_86 tm_1631 md_X10_word0 mi_X10_word0 ly_61 (ct_Mo_word0_74 hX.sane ((9 : Int32) * (((5 : Int32) * x1) + v7)) g8) rfl rfl rfl) (fun g10 => ?_)
  exact zi_vret (pc := 89) hX dX10_readsEnding_89 rfl rfl rfl
theorem zw_Mo_readsEnding {X : et_X} {w : et_W} (hX : et_Gd X w cX10_readsEnding RX10 3 (none) [] rm_Mo_readsEnding) (g : et_G) : et_Z X w 0 et_eU 0 [some (.ref (et_ad w 61)), none, none] [] g (fn_Mo_readsEnding g) := by
  unfold fn_Mo_readsEnding
  refine zi_aload0 (pc := 0) hX dX10_readsEnding_0 ?_
  refine zi_callU (zc_virt (pc := 1) hX dX10_readsEnding_1 tm_1595 md_X10_steps mi_X10_steps ly_61 (ct_Mo_steps hX.sane g) rfl rfl rfl) (fun g2 => ?_)
  refine zi_aload0 (pc := 4) hX dX10_readsEnding_4 ?_
  refine zi_iconst (pc := 5) hX dX10_readsEnding_5 ki_0 ?_
  refine zi_iconst (pc := 6) hX dX10_readsEnding_6 ki_2 ?_
  refine zi_callI (zc_virt (pc := 7) hX dX10_readsEnding_7 tm_1639 md_X10_number mi_X10_number ly_61 (ct_Mo_number hX.sane (0 : Int32) (2 : Int32) g2) rfl rfl rfl) (fun v3 g4 => ?_)
  refine zi_istore1 (pc := 10) hX dX10_readsEnding_10 rfl rfl ?_
  refine zi_aload0 (pc := 11) hX dX10_readsEnding_11 ?_
  refine zi_callI (zc_virt (pc := 12) hX dX10_readsEnding_12 tm_1609 md_X10_isGood mi_X10_isGood ly_61 (ct_Mo_isGood hX.sane g4) rfl rfl rfl) (fun v5 g6 => ?_)
  refine zi_if_eq (pc := 15) 66 hX dX10_readsEnding_15 (by decide) (fun _ => ?_) (fun _ => ?_)
  · exact zp_Mo_readsEnding_66 hX v3 g6
  · refine zi_aload0 (pc := 18) hX dX10_readsEnding_18 ?_
    refine zi_geti (pc := 19) hX dX10_readsEnding_19 fl_1371 ly_61 rfl ?_
    refine zi_iconst (pc := 22) hX dX10_readsEnding_22 ki_2 ?_
    refine zi_icmp_ne (pc := 23) 66 hX dX10_readsEnding_23 (by decide) (fun _ => ?_) (fun _ => ?_)
    · refine zi_aload0 (pc := 26) hX dX10_readsEnding_26 ?_
      refine zi_geti (pc := 27) hX dX10_readsEnding_27 fl_1373 ly_61 rfl ?_
      refine zi_iconst (pc := 30) hX dX10_readsEnding_30 ki_3 ?_
      refine zi_icmp_gt (pc := 31) 66 hX dX10_readsEnding_31 (by decide) (fun _ => ?_) (fun _ => ?_)
      · exact zp_Mo_readsEnding_66 hX v3 g6
      · refine zi_aload0 (pc := 34) hX dX10_readsEnding_34 ?_
        refine zi_geti (pc := 35) hX dX10_readsEnding_35 fl_1374 ly_61 rfl ?_
        refine zi_iconst (pc := 38) hX dX10_readsEnding_38 ki_5 ?_
        refine zi_icmp_ge (pc := 39) 66 hX dX10_readsEnding_39 (by decide) (fun _ => ?_) (fun _ => ?_)
        · exact zp_Mo_readsEnding_66 hX v3 g6
        · refine zi_aload0 (pc := 42) hX dX10_readsEnding_42 ?_
          refine zi_getr (q := 74) (pc := 43) hX dX10_readsEnding_43 fl_1386 ly_61 rfl ?_
          refine zi_bipush (pc := 46) hX dX10_readsEnding_46 kb_9 ?_
          refine zi_iconst (pc := 48) hX dX10_readsEnding_48 ki_5 ?_
          refine zi_iload1 (pc := 49) hX dX10_readsEnding_49 ?_
          refine zi_imul (pc := 50) hX dX10_readsEnding_50 ?_
          refine zi_aload0 (pc := 51) hX dX10_readsEnding_51 ?_
          refine zi_geti (pc := 52) hX dX10_readsEnding_52 fl_1374 ly_61 rfl ?_
          refine zi_iadd (pc := 55) hX dX10_readsEnding_55 ?_
          refine zi_imul (pc := 56) hX dX10_readsEnding_56 ?_
          refine zi_iald (pc := 57) hX dX10_readsEnding_57 ly_74 ?_
          refine zi_if_le (pc := 58) 66 hX dX10_readsEnding_58 (by decide) (fun _ => ?_) (fun _ => ?_)
          · exact zp_Mo_readsEnding_66 hX v3 g6
          · refine zi_aload0 (pc := 61) hX dX10_readsEnding_61 ?_
            refine zi_iconst (pc := 62) hX dX10_readsEnding_62 ki_4 ?_
            refine zi_callU (zc_virt (pc := 63) hX dX10_readsEnding_63 tm_1627 md_X10_faults mi_X10_faults ly_61 (ct_Mo_faults hX.sane (4 : Int32) g6) rfl rfl rfl) (fun g12 => ?_)
            exact zp_Mo_readsEnding_66 hX v3 g12
    · exact zp_Mo_readsEnding_66 hX v3 g6
theorem ct_Mo_readsEnding {w : et_W} (hw : et_Sane w) (g : et_G) : et_C w yX10_readsEnding (Cond.code yX10_readsEnding cX10_readsEnding 3 (none)) rm_Mo_readsEnding et_eU [.ref (et_ad w 61)] g (fn_Mo_readsEnding g) := et_mk hw (by decide) rfl rfl (fun X hX => zw_Mo_readsEnding hX g)
def rm_Mo_word0_73 : Room := { frames := 2, cells := 0, slots := 0, locals := 42 }
def fn_Mo_word0_73_86 (g : et_G) : Option (Unit × et_G) :=
  et_bd (fn_Mo_steps g) (fun _ g7 =>
  some ((), g7))
def fn_Mo_word0_73_55 (x2 : Int32) : Nat → Int32 → et_G → Option (Unit × et_G)
  | 0, _, _ => none
  | n + 1, x3, g =>
    if (g.1 61 25) ≤ x3 then
      fn_Mo_word0_73_86 g
    else
      et_bd (fn_Mo_byteAt ((g.1 61 24) + x3) g) (fun v8 g9 =>
      et_ck (et_ib ((x2 + (1 : Int32)) + x3) 108) (et_b (et_si g9 73 ((x2 + (1 : Int32)) + x3).toNatClampNeg v8) (fun g10 =>
      et_b (x3 + (1 : Int32)) (fun v11 =>
      fn_Mo_word0_73_55 x2 n v11 g10))))
def fn_Mo_word0_73_38 (x2 : Int32) (g : et_G) : Option (Unit × et_G) :=
  et_bd (fn_Mo_isGood g) (fun v3 g4 =>
  if v3 = 0 then
    some ((), g4)
  else
    et_ck (et_ib x2 108) (et_b (et_si g4 73 x2.toNatClampNeg (g4.1 61 25)) (fun g5 =>
    fn_Mo_word0_73_55 x2 1000000 (0 : Int32) g5)))
def fn_Mo_word0_73 (p2 : Int32) (g : et_G) : Option (Unit × et_G) :=
  et_bd (fn_Mo_isGood g) (fun v1 g2 =>
  if v1 = 0 then
    some ((), g2)
  else
    if (g2.1 61 23) = (1 : Int32) then
      if (g2.1 61 25) ≤ (8 : Int32) then
        fn_Mo_word0_73_38 p2 g2
      else
        et_bd (fn_Mo_faults (2 : Int32) g2) (fun _ g13 =>
        fn_Mo_word0_73_38 p2 g13)
    else
      et_bd (fn_Mo_faults (1 : Int32) g2) (fun _ g15 =>
      fn_Mo_word0_73_38 p2 g15))
theorem zp_Mo_word0_73_86 {X : et_X} {w : et_W} (hX : et_Gd X w cX10_word0 RX10 4 (none) [] rm_Mo_word0_73) (g : et_G) : et_Z X w 0 et_eU 86 [some (.ref (et_ad w 61)), none, none, none] [] g (fn_Mo_word0_73_86 g) := by
  unfold fn_Mo_word0_73_86
  refine zi_aload0 (pc := 86) hX dX10_word0_86 ?_
  refine zi_callU (zc_virt (pc := 87) hX dX10_word0_87 tm_1595 md_X10_steps mi_X10_steps ly_61 (ct_Mo_steps hX.sane g) rfl rfl rfl) (fun g7 => ?_)
  exact zi_vret (pc := 90) hX dX10_word0_90 rfl rfl rfl
theorem zp_Mo_word0_73_55 {X : et_X} {w : et_W} (hX : et_Gd X w cX10_word0 RX10 4 (none) [] rm_Mo_word0_73) (x2 : Int32) : ∀ (n : Nat) (x3 : Int32) (g : et_G), et_Z X w 0 et_eU 55 [some (.ref (et_ad w 61)), some (.ref (et_ad w 73)), some (.int x2), some (.int x3)] [] g (fn_Mo_word0_73_55 x2 n x3 g) := by
  intro n
  induction n with
  | zero =>
    intro x3 g a g2 h
    cases h
  | succ n ih =>
    intro x3 g
    rw [fn_Mo_word0_73_55]
    refine zi_iload3 (pc := 55) hX dX10_word0_55 ?_
    refine zi_aload0 (pc := 56) hX dX10_word0_56 ?_
    refine zi_geti (pc := 57) hX dX10_word0_57 fl_1373 ly_61 rfl ?_
    refine zi_icmp_ge (pc := 60) 86 hX dX10_word0_60 (by decide) (fun _ => ?_) (fun _ => ?_)
    · refine zi_drop (le_s (le_n (le_n (le_n le_nil)))) ?_; exact zp_Mo_word0_73_86 hX g
    · refine zi_aload1 (pc := 63) hX dX10_word0_63 ?_
      refine zi_iload2 (pc := 64) hX dX10_word0_64 ?_
      refine zi_iconst (pc := 65) hX dX10_word0_65 ki_1 ?_
      refine zi_iadd (pc := 66) hX dX10_word0_66 ?_
      refine zi_iload3 (pc := 67) hX dX10_word0_67 ?_
      refine zi_iadd (pc := 68) hX dX10_word0_68 ?_
      refine zi_aload0 (pc := 69) hX dX10_word0_69 ?_
      refine zi_aload0 (pc := 70) hX dX10_word0_70 ?_
      refine zi_geti (pc := 71) hX dX10_word0_71 fl_1372 ly_61 rfl ?_
      refine zi_iload3 (pc := 74) hX dX10_word0_74 ?_
      refine zi_iadd (pc := 75) hX dX10_word0_75 ?_
      refine zi_callI (zc_virt (pc := 76) hX dX10_word0_76 tm_1599 md_X10_byteAt mi_X10_byteAt ly_61 (ct_Mo_byteAt hX.sane ((g.1 61 24) + x3) g) rfl rfl rfl) (fun v8 g9 => ?_)
      refine zi_iast (pc := 79) hX dX10_word0_79 ly_73 (zi_bg (fun g10 => ?_))
      refine zi_iincb3 (pc := 80) hX dX10_word0_80 (kn_1 _) rfl rfl (fun v11 => ?_)
      refine zi_goto (pc := 83) 55 hX dX10_word0_83 (by decide) ?_
      exact ih v11 g10
theorem zp_Mo_word0_73_38 {X : et_X} {w : et_W} (hX : et_Gd X w cX10_word0 RX10 4 (none) [] rm_Mo_word0_73) (x2 : Int32) (g : et_G) : et_Z X w 0 et_eU 38 [some (.ref (et_ad w 61)), some (.ref (et_ad w 73)), some (.int x2), none] [] g (fn_Mo_word0_73_38 x2 g) := by
  unfold fn_Mo_word0_73_38
  refine zi_aload0 (pc := 38) hX dX10_word0_38 ?_
  refine zi_callI (zc_virt (pc := 39) hX dX10_word0_39 tm_1609 md_X10_isGood mi_X10_isGood ly_61 (ct_Mo_isGood hX.sane g) rfl rfl rfl) (fun v3 g4 => ?_)
  refine zi_if_ne (pc := 42) 46 hX dX10_word0_42 (by decide) (fun _ => ?_) (fun _ => ?_)
  · exact zi_vret (pc := 45) hX dX10_word0_45 rfl rfl rfl
  · refine zi_aload1 (pc := 46) hX dX10_word0_46 ?_
    refine zi_iload2 (pc := 47) hX dX10_word0_47 ?_
    refine zi_aload0 (pc := 48) hX dX10_word0_48 ?_
    refine zi_geti (pc := 49) hX dX10_word0_49 fl_1373 ly_61 rfl ?_
    refine zi_iast (pc := 52) hX dX10_word0_52 ly_73 (zi_bg (fun g5 => ?_))
    refine zi_iconst (pc := 53) hX dX10_word0_53 ki_0 ?_
    refine zi_istore3 (pc := 54) hX dX10_word0_54 rfl rfl ?_
    exact zp_Mo_word0_73_55 hX x2 1000000 (0 : Int32) g5
theorem zw_Mo_word0_73 {X : et_X} {w : et_W} (hX : et_Gd X w cX10_word0 RX10 4 (none) [] rm_Mo_word0_73) (p2 : Int32) (g : et_G) : et_Z X w 0 et_eU 0 [some (.ref (et_ad w 61)), some (.ref (et_ad w 73)), some (.int p2), none] [] g (fn_Mo_word0_73 p2 g) := by
  unfold fn_Mo_word0_73
  refine zi_aload0 (pc := 0) hX dX10_word0_0 ?_
  refine zi_callI (zc_virt (pc := 1) hX dX10_word0_1 tm_1609 md_X10_isGood mi_X10_isGood ly_61 (ct_Mo_isGood hX.sane g) rfl rfl rfl) (fun v1 g2 => ?_)
  refine zi_if_ne (pc := 4) 8 hX dX10_word0_4 (by decide) (fun _ => ?_) (fun _ => ?_)
  · exact zi_vret (pc := 7) hX dX10_word0_7 rfl rfl rfl
  · refine zi_aload0 (pc := 8) hX dX10_word0_8 ?_
    refine zi_geti (pc := 9) hX dX10_word0_9 fl_1371 ly_61 rfl ?_
    refine zi_iconst (pc := 12) hX dX10_word0_12 ki_1 ?_
    refine zi_icmp_eq (pc := 13) 24 hX dX10_word0_13 (by decide) (fun _ => ?_) (fun _ => ?_)
    · refine zi_aload0 (pc := 24) hX dX10_word0_24 ?_
      refine zi_geti (pc := 25) hX dX10_word0_25 fl_1373 ly_61 rfl ?_
      refine zi_bipush (pc := 28) hX dX10_word0_28 kb_8 ?_
      refine zi_icmp_le (pc := 30) 38 hX dX10_word0_30 (by decide) (fun _ => ?_) (fun _ => ?_)
      · exact zp_Mo_word0_73_38 hX p2 g2
      · refine zi_aload0 (pc := 33) hX dX10_word0_33 ?_
        refine zi_iconst (pc := 34) hX dX10_word0_34 ki_2 ?_
        refine zi_callU (zc_virt (pc := 35) hX dX10_word0_35 tm_1627 md_X10_faults mi_X10_faults ly_61 (ct_Mo_faults hX.sane (2 : Int32) g2) rfl rfl rfl) (fun g13 => ?_)
        exact zp_Mo_word0_73_38 hX p2 g13
    · refine zi_aload0 (pc := 16) hX dX10_word0_16 ?_
      refine zi_iconst (pc := 17) hX dX10_word0_17 ki_1 ?_
      refine zi_callU (zc_virt (pc := 18) hX dX10_word0_18 tm_1627 md_X10_faults mi_X10_faults ly_61 (ct_Mo_faults hX.sane (1 : Int32) g2) rfl rfl rfl) (fun g15 => ?_)
      refine zi_goto (pc := 21) 38 hX dX10_word0_21 (by decide) ?_
      exact zp_Mo_word0_73_38 hX p2 g15
theorem ct_Mo_word0_73 {w : et_W} (hw : et_Sane w) (p2 : Int32) (g : et_G) : et_C w yX10_word0 (Cond.code yX10_word0 cX10_word0 4 (none)) rm_Mo_word0_73 et_eU [.ref (et_ad w 61), .ref (et_ad w 73), .int p2] g (fn_Mo_word0_73 p2 g) := et_mk hw (by decide) rfl rfl (fun X hX => zw_Mo_word0_73 hX p2 g)
