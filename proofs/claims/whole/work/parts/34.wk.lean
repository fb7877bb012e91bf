def rm_Re_takeDigits : Room := { frames := 1, cells := 0, slots := 0, locals := 20 }
def fn_Re_takeDigits_63 (r0 : et_G → Option (Unit × et_G)) (g : et_G) : Option (Unit × et_G) :=
  et_b (et_si g 28 2 ((g.1 28 2) + (1 : Int32))) (fun g3 =>
  r0 g3)
def fn_Re_takeDigits_0 : Nat → et_G → Option (Unit × et_G)
  | 0, _ => none
  | n + 1, g =>
    if (g.1 28 1) ≤ (g.1 28 2) then
      some ((), g)
    else
      et_ck (et_ib (g.1 28 2) 800) (
      et_bd (fn_Et_isDigit (g.1 1 (g.1 28 2).toNatClampNeg) g) (fun v1 g2 =>
      if v1 = 0 then
        some ((), g2)
      else
        if (3 : Int32) ≤ ((g2.1 28 2) - (g2.1 28 4)) then
          fn_Re_takeDigits_63 (fun g => fn_Re_takeDigits_0 n g) g2
        else
          et_ck (et_ib (g2.1 28 2) 800) (
          et_b (et_si g2 28 6 ((((10 : Int32) * (g2.1 28 6)) + (g2.1 1 (g2.1 28 2).toNatClampNeg)) - (48 : Int32))) (fun g4 =>
          fn_Re_takeDigits_63 (fun g => fn_Re_takeDigits_0 n g) g4))))
def fn_Re_takeDigits (g : et_G) : Option (Unit × et_G) :=
  fn_Re_takeDigits_0 1000000 g
theorem zp_Re_takeDigits_63 {X : et_X} {w : et_W} (hX : et_Gd X w cX4_takeDigits RX4 1 (none) [] rm_Re_takeDigits) (r0 : et_G → Option (Unit × et_G)) (hr0 : ∀ (g : et_G), et_Z X w 0 et_eU 0 [some (.ref (et_ad w 28))] [] g (r0 g)) (g : et_G) : et_Z X w 0 et_eU 63 [some (.ref (et_ad w 28))] [] g (fn_Re_takeDigits_63 r0 g) := by
  unfold fn_Re_takeDigits_63
  refine zi_aload0 (pc := 63) hX dX4_takeDigits_63 ?_
  refine zi_dup (pc := 64) hX dX4_takeDigits_64 rfl ?_
  refine zi_geti (pc := 65) hX dX4_takeDigits_65 fl_269 ly_28 rfl ?_
  refine zi_iconst (pc := 68) hX dX4_takeDigits_68 ki_1 ?_
  refine zi_iadd (pc := 69) hX dX4_takeDigits_69 ?_
  refine zi_puti (pc := 70) hX dX4_takeDigits_70 fl_269 ly_28 rfl rfl rfl (zi_bg (fun g3 => ?_))
  refine zi_goto (pc := 73) 0 hX dX4_takeDigits_73 (by decide) ?_
  exact hr0 g3
theorem zp_Re_takeDigits_0 {X : et_X} {w : et_W} (hX : et_Gd X w cX4_takeDigits RX4 1 (none) [] rm_Re_takeDigits) : ∀ (n : Nat) (g : et_G), et_Z X w 0 et_eU 0 [some (.ref (et_ad w 28))] [] g (fn_Re_takeDigits_0 n g) := by
  intro n
  induction n with
  | zero =>
    intro g a g2 h
    cases h
  | succ n ih =>
    intro g
    rw [fn_Re_takeDigits_0]
    refine zi_aload0 (pc := 0) hX dX4_takeDigits_0 ?_
    refine zi_geti (pc := 1) hX dX4_takeDigits_1 fl_269 ly_28 rfl ?_
    refine zi_aload0 (pc := 4) hX dX4_takeDigits_4 ?_
    refine zi_geti (pc := 5) hX dX4_takeDigits_5 fl_268 ly_28 rfl ?_
    refine zi_icmp_ge (pc := 8) 76 hX dX4_takeDigits_8 (by decide) (fun _ => ?_) (fun _ => ?_)
    · exact zi_vret (pc := 76) hX dX4_takeDigits_76 rfl rfl rfl
    · refine zi_aload0 (pc := 11) hX dX4_takeDigits_11 ?_
      refine zi_getr (q := 1) (pc := 12) hX dX4_takeDigits_12 fl_267 ly_28 rfl ?_
      refine zi_aload0 (pc := 15) hX dX4_takeDigits_15 ?_
      refine zi_geti (pc := 16) hX dX4_takeDigits_16 fl_269 ly_28 rfl ?_
      refine zi_bald (pc := 19) hX dX4_takeDigits_19 ly_1 ?_
      refine zi_callI (zc_nest (pc := 20) hX dX4_takeDigits_20 nl_798 md_X9_isDigit st_X9_isDigit (ct_Et_isDigit hX.sane (g.1 1 (g.1 28 2).toNatClampNeg) g) rfl rfl rfl) (fun v1 g2 => ?_)
      refine zi_if_eq (pc := 23) 76 hX dX4_takeDigits_23 (by decide) (fun _ => ?_) (fun _ => ?_)
      · exact zi_vret (pc := 76) hX dX4_takeDigits_76 rfl rfl rfl
      · refine zi_aload0 (pc := 26) hX dX4_takeDigits_26 ?_
        refine zi_geti (pc := 27) hX dX4_takeDigits_27 fl_269 ly_28 rfl ?_
        refine zi_aload0 (pc := 30) hX dX4_takeDigits_30 ?_
        refine zi_geti (pc := 31) hX dX4_takeDigits_31 fl_271 ly_28 rfl ?_
        refine zi_isub (pc := 34) hX dX4_takeDigits_34 ?_
        refine zi_iconst (pc := 35) hX dX4_takeDigits_35 ki_3 ?_
        refine zi_icmp_ge (pc := 36) 63 hX dX4_takeDigits_36 (by decide) (fun _ => ?_) (fun _ => ?_)
        · exact zp_Re_takeDigits_63 hX (fun g => fn_Re_takeDigits_0 n g) (fun g => ih g) g2
        · refine zi_aload0 (pc := 39) hX dX4_takeDigits_39 ?_
          refine zi_bipush (pc := 40) hX dX4_takeDigits_40 kb_10 ?_
          refine zi_aload0 (pc := 42) hX dX4_takeDigits_42 ?_
          refine zi_geti (pc := 43) hX dX4_takeDigits_43 fl_273 ly_28 rfl ?_
          refine zi_imul (pc := 46) hX dX4_takeDigits_46 ?_
          refine zi_aload0 (pc := 47) hX dX4_takeDigits_47 ?_
          refine zi_getr (q := 1) (pc := 48) hX dX4_takeDigits_48 fl_267 ly_28 rfl ?_
          refine zi_aload0 (pc := 51) hX dX4_takeDigits_51 ?_
          refine zi_geti (pc := 52) hX dX4_takeDigits_52 fl_269 ly_28 rfl ?_
          refine zi_bald (pc := 55) hX dX4_takeDigits_55 ly_1 ?_
          refine zi_iadd (pc := 56) hX dX4_takeDigits_56 ?_
          refine zi_bipush (pc := 57) hX dX4_takeDigits_57 kb_48 ?_
          refine zi_isub (pc := 59) hX dX4_takeDigits_59 ?_
          refine zi_puti (pc := 60) hX dX4_takeDigits_60 fl_273 ly_28 rfl rfl rfl (zi_bg (fun g4 => ?_))
          exact zp_Re_takeDigits_63 hX (fun g => fn_Re_takeDigits_0 n g) (fun g => ih g) g4
theorem zw_Re_takeDigits {X : et_X} {w : et_W} (hX : et_Gd X w cX4_takeDigits RX4 1 (none) [] rm_Re_takeDigits) (g : et_G) : et_Z X w 0 et_eU 0 [some (.ref (et_ad w 28))] [] g (fn_Re_takeDigits g) := by
  unfold fn_Re_takeDigits
  exact zp_Re_takeDigits_0 hX 1000000 g
theorem ct_Re_takeDigits {w : et_W} (hw : et_Sane w) (g : et_G) : et_C w yX4_takeDigits (Cond.code yX4_takeDigits cX4_takeDigits 1 (none)) rm_Re_takeDigits et_eU [.ref (et_ad w 28)] g (fn_Re_takeDigits g) := et_mk hw (by decide) rfl rfl (fun X hX => zw_Re_takeDigits hX g)
def rm_Re_step : Room := { frames := 2, cells := 0, slots := 0, locals := 40 }
def fn_Re_step_194 (g : et_G) : Option (Unit × et_G) :=
  et_b (et_si g 28 5 ((g.1 28 2) - (g.1 28 4))) (fun g8 =>
  some ((), g8))
def fn_Re_step_91 : Nat → et_G → Option (Unit × et_G)
  | 0, _ => none
  | n + 1, g =>
    if (g.1 28 1) ≤ (g.1 28 2) then
      fn_Re_step_194 g
    else
      et_ck (et_ib (g.1 28 2) 800) (
      et_bd (fn_Et_isLetter (g.1 1 (g.1 28 2).toNatClampNeg) g) (fun v15 g16 =>
      if v15 = 0 then
        fn_Re_step_194 g16
      else
        et_b (et_si g16 28 2 ((g16.1 28 2) + (1 : Int32))) (fun g17 =>
        fn_Re_step_91 n g17)))
def fn_Re_step_39 (g : et_G) : Option (Unit × et_G) :=
  et_b (et_si g 28 4 (g.1 28 2)) (fun g1 =>
  et_b (et_si g1 28 6 (0 : Int32)) (fun g2 =>
  if (g2.1 28 2) < (g2.1 28 1) then
    et_ck (et_ib (g2.1 28 2) 800) (
    et_bd (fn_Et_isLetter (g2.1 1 (g2.1 28 2).toNatClampNeg) g2) (fun v3 g4 =>
    if v3 = 0 then
      et_ck (et_ib (g4.1 28 2) 800) (
      et_bd (fn_Et_isDigit (g4.1 1 (g4.1 28 2).toNatClampNeg) g4) (fun v5 g6 =>
      if v5 = 0 then
        et_ck (et_ib (g6.1 28 2) 800) (
        if (g6.1 1 (g6.1 28 2).toNatClampNeg) = (59 : Int32) then
          et_b (et_si g6 28 3 (3 : Int32)) (fun g9 =>
          et_b (et_si g9 28 2 ((g9.1 28 2) + (1 : Int32))) (fun g10 =>
          fn_Re_step_194 g10))
        else
          et_b (et_si g6 28 3 (4 : Int32)) (fun g7 =>
          fn_Re_step_194 g7))
      else
        et_b (et_si g6 28 3 (2 : Int32)) (fun g11 =>
        et_bd (fn_Re_takeDigits g11) (fun _ g13 =>
        fn_Re_step_194 g13))))
    else
      et_b (et_si g4 28 3 (1 : Int32)) (fun g14 =>
      fn_Re_step_91 1000000 g14)))
  else
    et_b (et_si g2 28 3 (0 : Int32)) (fun g18 =>
    fn_Re_step_194 g18)))
def fn_Re_step_0 : Nat → et_G → Option (Unit × et_G)
  | 0, _ => none
  | n + 1, g =>
    if (g.1 28 1) ≤ (g.1 28 2) then
      fn_Re_step_39 g
    else
      et_ck (et_ib (g.1 28 2) 800) (
      et_bd (fn_Et_isBlank (g.1 1 (g.1 28 2).toNatClampNeg) g) (fun v19 g20 =>
      if v19 = 0 then
        fn_Re_step_39 g20
      else
        et_b (et_si g20 28 2 ((g20.1 28 2) + (1 : Int32))) (fun g21 =>
        fn_Re_step_0 n g21)))
def fn_Re_step (g : et_G) : Option (Unit × et_G) :=
  fn_Re_step_0 1000000 g
theorem zp_Re_step_194 {X : et_X} {w : et_W} (hX : et_Gd X w cX4_step RX4 1 (none) [] rm_Re_step) (g : et_G) : et_Z X w 0 et_eU 194 [some (.ref (et_ad w 28))] [] g (fn_Re_step_194 g) := by
  unfold fn_Re_step_194
  refine zi_aload0 (pc := 194) hX dX4_step_194 ?_
  refine zi_aload0 (pc := 195) hX dX4_step_195 ?_
  refine zi_geti (pc := 196) hX dX4_step_196 fl_269 ly_28 rfl ?_
  refine zi_aload0 (pc := 199) hX dX4_step_199 ?_
  refine zi_geti (pc := 200) hX dX4_step_200 fl_271 ly_28 rfl ?_
  refine zi_isub (pc := 203) hX dX4_step_203 ?_
  refine zi_puti (pc := 204) hX dX4_step_204 fl_272 ly_28 rfl rfl rfl (zi_bg (fun g8 => ?_))
  exact zi_vret (pc := 207) hX dX4_step_207 rfl rfl rfl
theorem zp_Re_step_91 {X : et_X} {w : et_W} (hX : et_Gd X w cX4_step RX4 1 (none) [] rm_Re_step) : ∀ (n : Nat) (g : et_G), et_Z X w 0 et_eU 91 [some (.ref (et_ad w 28))] [] g (fn_Re_step_91 n g) := by
  intro n
  induction n with
  | zero =>
    intro g a g2 h
    cases h
  | succ n ih =>
    intro g
    rw [fn_Re_step_91]
    refine zi_aload0 (pc := 91) hX dX4_step_91 ?_
    refine zi_geti (pc := 92) hX dX4_step_92 fl_269 ly_28 rfl ?_
    refine zi_aload0 (pc := 95) hX dX4_step_95 ?_
    refine zi_geti (pc := 96) hX dX4_step_96 fl_268 ly_28 rfl ?_
    refine zi_icmp_ge (pc := 99) 194 hX dX4_step_99 (by decide) (fun _ => ?_) (fun _ => ?_)
    · exact zp_Re_step_194 hX g
    · refine zi_aload0 (pc := 102) hX dX4_step_102 ?_
      refine zi_getr (q := 1) (pc := 103) hX dX4_step_103 fl_267 ly_28 rfl ?_
      refine zi_aload0 (pc := 106) hX dX4_step_106 ?_
      refine zi_geti (pc := 107) hX dX4_step_107 fl_269 ly_28 rfl ?_
      refine zi_bald (pc := 110) hX dX4_step_110 ly_1 ?_
      refine zi_callI (zc_nest (pc := 111) hX dX4_step_111 nl_795 md_X9_isLetter st_X9_isLetter (ct_Et_isLetter hX.sane (g.1 1 (g.1 28 2).toNatClampNeg) g) rfl rfl rfl) (fun v15 g16 => ?_)
      refine zi_if_eq (pc := 114) 194 hX dX4_step_114 (by decide) (fun _ => ?_) (fun _ => ?_)
      · exact zp_Re_step_194 hX g16
      · refine zi_aload0 (pc := 117) hX dX4_step_117 ?_
        refine zi_dup (pc := 118) hX dX4_step_118 rfl ?_
        refine zi_geti (pc := 119) hX dX4_step_119 fl_269 ly_28 rfl ?_
        refine zi_iconst (pc := 122) hX dX4_step_122 ki_1 ?_
        refine zi_iadd (pc := 123) hX dX4_step_123 ?_
        refine zi_puti (pc := 124) hX dX4_step_124 fl_269 ly_28 rfl rfl rfl (zi_bg (fun g17 => ?_))
        refine zi_goto (pc := 127) 91 hX dX4_step_127 (by decide) ?_
        exact ih g17
theorem zp_Re_step_39 {X : et_X} {w : et_W} (hX : et_Gd X w cX4_step RX4 1 (none) [] rm_Re_step) (g : et_G) : et_Z X w 0 et_eU 39 [some (.ref (et_ad w 28))] [] g (fn_Re_step_39 g) := by
  unfold fn_Re_step_39
  refine zi_aload0 (pc := 39) hX dX4_step_39 ?_
  refine zi_aload0 (pc := 40) hX dX4_step_40 ?_
  refine zi_geti (pc := 41) hX dX4_step_41 fl_269 ly_28 rfl ?_
  refine zi_puti (pc := 44) hX dX4_step_44 fl_271 ly_28 rfl rfl rfl (zi_bg (fun g1 => ?_))
  refine zi_aload0 (pc := 47) hX dX4_step_47 ?_
  refine zi_iconst (pc := 48) hX dX4_step_48 ki_0 ?_
  refine zi_puti (pc := 49) hX dX4_step_49 fl_273 ly_28 rfl rfl rfl (zi_bg (fun g2 => ?_))
  refine zi_aload0 (pc := 52) hX dX4_step_52 ?_
  refine zi_geti (pc := 53) hX dX4_step_53 fl_269 ly_28 rfl ?_
  refine zi_aload0 (pc := 56) hX dX4_step_56 ?_
  refine zi_geti (pc := 57) hX dX4_step_57 fl_268 ly_28 rfl ?_
  refine zi_icmp_lt (pc := 60) 71 hX dX4_step_60 (by decide) (fun _ => ?_) (fun _ => ?_)
  · refine zi_aload0 (pc := 71) hX dX4_step_71 ?_
    refine zi_getr (q := 1) (pc := 72) hX dX4_step_72 fl_267 ly_28 rfl ?_
    refine zi_aload0 (pc := 75) hX dX4_step_75 ?_
    refine zi_geti (pc := 76) hX dX4_step_76 fl_269 ly_28 rfl ?_
    refine zi_bald (pc := 79) hX dX4_step_79 ly_1 ?_
    refine zi_callI (zc_nest (pc := 80) hX dX4_step_80 nl_795 md_X9_isLetter st_X9_isLetter (ct_Et_isLetter hX.sane (g2.1 1 (g2.1 28 2).toNatClampNeg) g2) rfl rfl rfl) (fun v3 g4 => ?_)
    refine zi_if_eq (pc := 83) 130 hX dX4_step_83 (by decide) (fun _ => ?_) (fun _ => ?_)
    · refine zi_aload0 (pc := 130) hX dX4_step_130 ?_
      refine zi_getr (q := 1) (pc := 131) hX dX4_step_131 fl_267 ly_28 rfl ?_
      refine zi_aload0 (pc := 134) hX dX4_step_134 ?_
      refine zi_geti (pc := 135) hX dX4_step_135 fl_269 ly_28 rfl ?_
      refine zi_bald (pc := 138) hX dX4_step_138 ly_1 ?_
      refine zi_callI (zc_nest (pc := 139) hX dX4_step_139 nl_798 md_X9_isDigit st_X9_isDigit (ct_Et_isDigit hX.sane (g4.1 1 (g4.1 28 2).toNatClampNeg) g4) rfl rfl rfl) (fun v5 g6 => ?_)
      refine zi_if_eq (pc := 142) 157 hX dX4_step_142 (by decide) (fun _ => ?_) (fun _ => ?_)
      · refine zi_aload0 (pc := 157) hX dX4_step_157 ?_
        refine zi_getr (q := 1) (pc := 158) hX dX4_step_158 fl_267 ly_28 rfl ?_
        refine zi_aload0 (pc := 161) hX dX4_step_161 ?_
        refine zi_geti (pc := 162) hX dX4_step_162 fl_269 ly_28 rfl ?_
        refine zi_bald (pc := 165) hX dX4_step_165 ly_1 ?_
        refine zi_bipush (pc := 166) hX dX4_step_166 kb_59 ?_
        refine zi_icmp_ne (pc := 168) 189 hX dX4_step_168 (by decide) (fun _ => ?_) (fun _ => ?_)
        · refine zi_aload0 (pc := 171) hX dX4_step_171 ?_
          refine zi_iconst (pc := 172) hX dX4_step_172 ki_3 ?_
          refine zi_puti (pc := 173) hX dX4_step_173 fl_270 ly_28 rfl rfl rfl (zi_bg (fun g9 => ?_))
          refine zi_aload0 (pc := 176) hX dX4_step_176 ?_
          refine zi_dup (pc := 177) hX dX4_step_177 rfl ?_
          refine zi_geti (pc := 178) hX dX4_step_178 fl_269 ly_28 rfl ?_
          refine zi_iconst (pc := 181) hX dX4_step_181 ki_1 ?_
          refine zi_iadd (pc := 182) hX dX4_step_182 ?_
          refine zi_puti (pc := 183) hX dX4_step_183 fl_269 ly_28 rfl rfl rfl (zi_bg (fun g10 => ?_))
          refine zi_goto (pc := 186) 194 hX dX4_step_186 (by decide) ?_
          exact zp_Re_step_194 hX g10
        · refine zi_aload0 (pc := 189) hX dX4_step_189 ?_
          refine zi_iconst (pc := 190) hX dX4_step_190 ki_4 ?_
          refine zi_puti (pc := 191) hX dX4_step_191 fl_270 ly_28 rfl rfl rfl (zi_bg (fun g7 => ?_))
          exact zp_Re_step_194 hX g7
      · refine zi_aload0 (pc := 145) hX dX4_step_145 ?_
        refine zi_iconst (pc := 146) hX dX4_step_146 ki_2 ?_
        refine zi_puti (pc := 147) hX dX4_step_147 fl_270 ly_28 rfl rfl rfl (zi_bg (fun g11 => ?_))
        refine zi_aload0 (pc := 150) hX dX4_step_150 ?_
        refine zi_callU (zc_virt (pc := 151) hX dX4_step_151 tm_801 md_X4_takeDigits mi_X4_takeDigits ly_28 (ct_Re_takeDigits hX.sane g11) rfl rfl rfl) (fun g13 => ?_)
        refine zi_goto (pc := 154) 194 hX dX4_step_154 (by decide) ?_
        exact zp_Re_step_194 hX g13
    · refine zi_aload0 (pc := 86) hX dX4_step_86 ?_
      refine zi_iconst (pc := 87) hX dX4_step_87 ki_1 ?_
      refine zi_puti (pc := 88) hX dX4_step_88 fl_270 ly_28 rfl rfl rfl (zi_bg (fun g14 => ?_))
      exact zp_Re_step_91 hX 1000000 g14
  · refine zi_aload0 (pc := 63) hX dX4_step_63 ?_
    refine zi_iconst (pc := 64) hX dX4_step_64 ki_0 ?_
    refine zi_puti (pc := 65) hX dX4_step_65 fl_270 ly_28 rfl rfl rfl (zi_bg (fun g18 => ?_))
    refine zi_goto (pc := 68) 194 hX dX4_step_68 (by decide) ?_
    exact zp_Re_step_194 hX g18
theorem zp_Re_step_0 {X : et_X} {w : et_W} (hX : et_Gd X w cX4_step RX4 1 (none) [] rm_Re_step) : ∀ (n : Nat) (g : et_G), et_Z X w 0 et_eU 0 [some (.ref (et_ad w 28))] [] g (fn_Re_step_0 n g) := by
  intro n
  induction n with
  | zero =>
    intro g a g2 h
    cases h
  | succ n ih =>
    intro g
    rw [fn_Re_step_0]
    refine zi_aload0 (pc := 0) hX dX4_step_0 ?_
    refine zi_geti (pc := 1) hX dX4_step_1 fl_269 ly_28 rfl ?_
    refine zi_aload0 (pc := 4) hX dX4_step_4 ?_
    refine zi_geti (pc := 5) hX dX4_step_5 fl_268 ly_28 rfl ?_
    refine zi_icmp_ge (pc := 8) 39 hX dX4_step_8 (by decide) (fun _ => ?_) (fun _ => ?_)
    · exact zp_Re_step_39 hX g
    · refine zi_aload0 (pc := 11) hX dX4_step_11 ?_
      refine zi_getr (q := 1) (pc := 12) hX dX4_step_12 fl_267 ly_28 rfl ?_
      refine zi_aload0 (pc := 15) hX dX4_step_15 ?_
      refine zi_geti (pc := 16) hX dX4_step_16 fl_269 ly_28 rfl ?_
      refine zi_bald (pc := 19) hX dX4_step_19 ly_1 ?_
      refine zi_callI (zc_nest (pc := 20) hX dX4_step_20 nl_792 md_X9_isBlank st_X9_isBlank (ct_Et_isBlank hX.sane (g.1 1 (g.1 28 2).toNatClampNeg) g) rfl rfl rfl) (fun v19 g20 => ?_)
      refine zi_if_eq (pc := 23) 39 hX dX4_step_23 (by decide) (fun _ => ?_) (fun _ => ?_)
      · exact zp_Re_step_39 hX g20
      · refine zi_aload0 (pc := 26) hX dX4_step_26 ?_
        refine zi_dup (pc := 27) hX dX4_step_27 rfl ?_
        refine zi_geti (pc := 28) hX dX4_step_28 fl_269 ly_28 rfl ?_
        refine zi_iconst (pc := 31) hX dX4_step_31 ki_1 ?_
        refine zi_iadd (pc := 32) hX dX4_step_32 ?_
        refine zi_puti (pc := 33) hX dX4_step_33 fl_269 ly_28 rfl rfl rfl (zi_bg (fun g21 => ?_))
        refine zi_goto (pc := 36) 0 hX dX4_step_36 (by decide) ?_
        exact ih g21
theorem zw_Re_step {X : et_X} {w : et_W} (hX : et_Gd X w cX4_step RX4 1 (none) [] rm_Re_step) (g : et_G) : et_Z X w 0 et_eU 0 [some (.ref (et_ad w 28))] [] g (fn_Re_step g) := by
  unfold fn_Re_step
  exact zp_Re_step_0 hX 1000000 g
theorem ct_Re_step {w : et_W} (hw : et_Sane w) (g : et_G) : et_C w yX4_step (Cond.code yX4_step cX4_step 1 (none)) rm_Re_step et_eU [.ref (et_ad w 28)] g (fn_Re_step g) := et_mk hw (by decide) rfl rfl (fun X hX => zw_Re_step hX g)
-- Re_is_stem
def fn_Re_is_stem (g : et_G) : Option (Int32 × et_G) := fn_Re_is 0 g
theorem ct_Re_is_stem {w : et_W} (hw : et_Sane w) (g : et_G) : et_C w yX4_is (Cond.code yX4_is cX4_is 3 (some .boolean)) rm_is et_eI [.ref (et_ad w 28), .ref (et_ad w 1000)] g (fn_Re_is_stem g) := ct_Re_is (i := 0) (by decide) hw g
-- Re_is_ending
def fn_Re_is_ending (g : et_G) : Option (Int32 × et_G) := fn_Re_is 1 g
theorem ct_Re_is_ending {w : et_W} (hw : et_Sane w) (g : et_G) : et_C w yX4_is (Cond.code yX4_is cX4_is 3 (some .boolean)) rm_is et_eI [.ref (et_ad w 28), .ref (et_ad w 1001)] g (fn_Re_is_ending g) := ct_Re_is (i := 1) (by decide) hw g
-- Re_is_change
def fn_Re_is_change (g : et_G) : Option (Int32 × et_G) := fn_Re_is 2 g
theorem ct_Re_is_change {w : et_W} (hw : et_Sane w) (g : et_G) : et_C w yX4_is (Cond.code yX4_is cX4_is 3 (some .boolean)) rm_is et_eI [.ref (et_ad w 28), .ref (et_ad w 1002)] g (fn_Re_is_change g) := ct_Re_is (i := 2) (by decide) hw g
-- Re_is_not
def fn_Re_is_not (g : et_G) : Option (Int32 × et_G) := fn_Re_is 3 g
theorem ct_Re_is_not {w : et_W} (hw : et_Sane w) (g : et_G) : et_C w yX4_is (Cond.code yX4_is cX4_is 3 (some .boolean)) rm_is et_eI [.ref (et_ad w 28), .ref (et_ad w 1003)] g (fn_Re_is_not g) := ct_Re_is (i := 3) (by decide) hw g
-- Re_is_places
def fn_Re_is_places (g : et_G) : Option (Int32 × et_G) := fn_Re_is 4 g
theorem ct_Re_is_places {w : et_W} (hw : et_Sane w) (g : et_G) : et_C w yX4_is (Cond.code yX4_is cX4_is 3 (some .boolean)) rm_is et_eI [.ref (et_ad w 28), .ref (et_ad w 1004)] g (fn_Re_is_places g) := ct_Re_is (i := 4) (by decide) hw g
-- Re_is_near
def fn_Re_is_near (g : et_G) : Option (Int32 × et_G) := fn_Re_is 5 g
theorem ct_Re_is_near {w : et_W} (hw : et_Sane w) (g : et_G) : et_C w yX4_is (Cond.code yX4_is cX4_is 3 (some .boolean)) rm_is et_eI [.ref (et_ad w 28), .ref (et_ad w 1005)] g (fn_Re_is_near g) := ct_Re_is (i := 5) (by decide) hw g
-- Re_is_person
def fn_Re_is_person (g : et_G) : Option (Int32 × et_G) := fn_Re_is 6 g
theorem ct_Re_is_person {w : et_W} (hw : et_Sane w) (g : et_G) : et_C w yX4_is (Cond.code yX4_is cX4_is 3 (some .boolean)) rm_is et_eI [.ref (et_ad w 28), .ref (et_ad w 1006)] g (fn_Re_is_person g) := ct_Re_is (i := 6) (by decide) hw g
-- Re_is_thing
def fn_Re_is_thing (g : et_G) : Option (Int32 × et_G) := fn_Re_is 7 g
theorem ct_Re_is_thing {w : et_W} (hw : et_Sane w) (g : et_G) : et_C w yX4_is (Cond.code yX4_is cX4_is 3 (some .boolean)) rm_is et_eI [.ref (et_ad w 28), .ref (et_ad w 1007)] g (fn_Re_is_thing g) := ct_Re_is (i := 7) (by decide) hw g
-- Re_is_rule
def fn_Re_is_rule (g : et_G) : Option (Int32 × et_G) := fn_Re_is 8 g
theorem ct_Re_is_rule {w : et_W} (hw : et_Sane w) (g : et_G) : et_C w yX4_is (Cond.code yX4_is cX4_is 3 (some .boolean)) rm_is et_eI [.ref (et_ad w 28), .ref (et_ad w 1008)] g (fn_Re_is_rule g) := ct_Re_is (i := 8) (by decide) hw g
-- Re_is_at
def fn_Re_is_at (g : et_G) : Option (Int32 × et_G) := fn_Re_is 9 g
theorem ct_Re_is_at {w : et_W} (hw : et_Sane w) (g : et_G) : et_C w yX4_is (Cond.code yX4_is cX4_is 3 (some .boolean)) rm_is et_eI [.ref (et_ad w 28), .ref (et_ad w 1009)] g (fn_Re_is_at g) := ct_Re_is (i := 9) (by decide) hw g
-- Re_is_weigh
def fn_Re_is_weigh (g : et_G) : Option (Int32 × et_G) := fn_Re_is 10 g
theorem ct_Re_is_weigh {w : et_W} (hw : et_Sane w) (g : et_G) : et_C w yX4_is (Cond.code yX4_is cX4_is 3 (some .boolean)) rm_is et_eI [.ref (et_ad w 28), .ref (et_ad w 1010)] g (fn_Re_is_weigh g) := ct_Re_is (i := 10) (by decide) hw g
def rm_Re_refuse : Room := { frames := 0, cells := 0, slots := 0, locals := 0 }
def fn_Re_refuse (p1 : Int32) (g : et_G) : Option (Int32 × et_G) :=
  et_b (et_si g 28 9 p1) (fun g1 =>
  et_b (et_si g1 28 10 (g1.1 28 4)) (fun g2 =>
  some ((0 : Int32), g2)))
theorem zw_Re_refuse {X : et_X} {w : et_W} (hX : et_Gd X w cX4_refuse RX4 2 (some .boolean) [] rm_Re_refuse) (p1 : Int32) (g : et_G) : et_Z X w 0 et_eI 0 [some (.ref (et_ad w 28)), some (.int p1)] [] g (fn_Re_refuse p1 g) := by
  unfold fn_Re_refuse
  refine zi_aload0 (pc := 0) hX dX4_refuse_0 ?_
  refine zi_iload1 (pc := 1) hX dX4_refuse_1 ?_
  refine zi_puti (pc := 2) hX dX4_refuse_2 fl_276 ly_28 rfl rfl rfl (zi_bg (fun g1 => ?_))
  refine zi_aload0 (pc := 5) hX dX4_refuse_5 ?_
  refine zi_aload0 (pc := 6) hX dX4_refuse_6 ?_
  refine zi_geti (pc := 7) hX dX4_refuse_7 fl_271 ly_28 rfl ?_
  refine zi_puti (pc := 10) hX dX4_refuse_10 fl_277 ly_28 rfl rfl rfl (zi_bg (fun g2 => ?_))
  refine zi_iconst (pc := 13) hX dX4_refuse_13 ki_0 ?_
  exact zi_ret (pc := 14) hX dX4_refuse_14 et_z0 rfl rfl rfl
theorem ct_Re_refuse {w : et_W} (hw : et_Sane w) (p1 : Int32) (g : et_G) : et_C w yX4_refuse (Cond.code yX4_refuse cX4_refuse 2 (some .boolean)) rm_Re_refuse et_eI [.ref (et_ad w 28), .int p1] g (fn_Re_refuse p1 g) := et_mk hw (by decide) rfl rfl (fun X hX => zw_Re_refuse hX p1 g)
def rm_Re_isNumber : Room := { frames := 1, cells := 0, slots := 0, locals := 21 }
def fn_Re_isNumber_30 (g : et_G) : Option (Int32 × et_G) :=
  et_bd (fn_Re_refuse (2 : Int32) g) (fun v1 g2 =>
  if v1 = 0 then
    some ((0 : Int32), g2)
  else
    some ((1 : Int32), g2))
def fn_Re_isNumber (p1 : Int32) (g : et_G) : Option (Int32 × et_G) :=
  if (g.1 28 3) = (2 : Int32) then
    if (3 : Int32) < (g.1 28 5) then
      fn_Re_isNumber_30 g
    else
      if (g.1 28 6) ≤ p1 then
        some ((1 : Int32), g)
      else
        fn_Re_isNumber_30 g
  else
    et_bd (fn_Re_refuse (1 : Int32) g) (fun v3 g4 =>
    some (v3 &&& 1, g4))
theorem zp_Re_isNumber_30 {X : et_X} {w : et_W} (hX : et_Gd X w cX4_isNumber RX4 2 (some .boolean) [] rm_Re_isNumber) (g : et_G) : et_Z X w 0 et_eI 30 [some (.ref (et_ad w 28)), none] [] g (fn_Re_isNumber_30 g) := by
  unfold fn_Re_isNumber_30
  refine zi_aload0 (pc := 30) hX dX4_isNumber_30 ?_
  refine zi_iconst (pc := 31) hX dX4_isNumber_31 ki_2 ?_
  refine zi_callI (zc_virt (pc := 32) hX dX4_isNumber_32 tm_866 md_X4_refuse mi_X4_refuse ly_28 (ct_Re_refuse hX.sane (2 : Int32) g) rfl rfl rfl) (fun v1 g2 => ?_)
  refine zi_if_eq (pc := 35) 42 hX dX4_isNumber_35 (by decide) (fun _ => ?_) (fun _ => ?_)
  · refine zi_iconst (pc := 42) hX dX4_isNumber_42 ki_0 ?_
    exact zi_ret (pc := 43) hX dX4_isNumber_43 et_z0 rfl rfl rfl
  · refine zi_iconst (pc := 38) hX dX4_isNumber_38 ki_1 ?_
    refine zi_goto (pc := 39) 43 hX dX4_isNumber_39 (by decide) ?_
    exact zi_ret (pc := 43) hX dX4_isNumber_43 et_z1 rfl rfl rfl
theorem zw_Re_isNumber {X : et_X} {w : et_W} (hX : et_Gd X w cX4_isNumber RX4 2 (some .boolean) [] rm_Re_isNumber) (p1 : Int32) (g : et_G) : et_Z X w 0 et_eI 0 [some (.ref (et_ad w 28)), some (.int p1)] [] g (fn_Re_isNumber p1 g) := by
  unfold fn_Re_isNumber
  refine zi_aload0 (pc := 0) hX dX4_isNumber_0 ?_
  refine zi_geti (pc := 1) hX dX4_isNumber_1 fl_270 ly_28 rfl ?_
  refine zi_iconst (pc := 4) hX dX4_isNumber_4 ki_2 ?_
  refine zi_icmp_eq (pc := 5) 14 hX dX4_isNumber_5 (by decide) (fun _ => ?_) (fun _ => ?_)
  · refine zi_aload0 (pc := 14) hX dX4_isNumber_14 ?_
    refine zi_geti (pc := 15) hX dX4_isNumber_15 fl_272 ly_28 rfl ?_
    refine zi_iconst (pc := 18) hX dX4_isNumber_18 ki_3 ?_
    refine zi_icmp_gt (pc := 19) 30 hX dX4_isNumber_19 (by decide) (fun _ => ?_) (fun _ => ?_)
    · refine zi_drop (le_s (le_n le_nil)) ?_; exact zp_Re_isNumber_30 hX g
    · refine zi_aload0 (pc := 22) hX dX4_isNumber_22 ?_
      refine zi_geti (pc := 23) hX dX4_isNumber_23 fl_273 ly_28 rfl ?_
      refine zi_iload1 (pc := 26) hX dX4_isNumber_26 ?_
      refine zi_icmp_le (pc := 27) 38 hX dX4_isNumber_27 (by decide) (fun _ => ?_) (fun _ => ?_)
      · refine zi_iconst (pc := 38) hX dX4_isNumber_38 ki_1 ?_
        refine zi_goto (pc := 39) 43 hX dX4_isNumber_39 (by decide) ?_
        exact zi_ret (pc := 43) hX dX4_isNumber_43 et_z1 rfl rfl rfl
      · refine zi_drop (le_s (le_n le_nil)) ?_; exact zp_Re_isNumber_30 hX g
  · refine zi_aload0 (pc := 8) hX dX4_isNumber_8 ?_
    refine zi_iconst (pc := 9) hX dX4_isNumber_9 ki_1 ?_
    refine zi_callI (zc_virt (pc := 10) hX dX4_isNumber_10 tm_866 md_X4_refuse mi_X4_refuse ly_28 (ct_Re_refuse hX.sane (1 : Int32) g) rfl rfl rfl) (fun v3 g4 => ?_)
    exact zi_ret (pc := 13) hX dX4_isNumber_13 rfl rfl rfl rfl
theorem ct_Re_isNumber {w : et_W} (hw : et_Sane w) (p1 : Int32) (g : et_G) : et_C w yX4_isNumber (Cond.code yX4_isNumber cX4_isNumber 2 (some .boolean)) rm_Re_isNumber et_eI [.ref (et_ad w 28), .int p1] g (fn_Re_isNumber p1 g) := et_mk hw (by decide) rfl rfl (fun X hX => zw_Re_isNumber hX p1 g)
def rm_Re_number : Room := { frames := 3, cells := 0, slots := 0, locals := 60 }
def fn_Re_number (p1 : Int32) (g : et_G) : Option (Int32 × et_G) :=
  et_bd (fn_Re_step g) (fun _ g2 =>
  et_bd (fn_Re_isNumber p1 g2) (fun v3 g4 =>
  some (v3 &&& 1, g4)))
theorem zw_Re_number {X : et_X} {w : et_W} (hX : et_Gd X w cX4_number RX4 2 (some .boolean) [] rm_Re_number) (p1 : Int32) (g : et_G) : et_Z X w 0 et_eI 0 [some (.ref (et_ad w 28)), some (.int p1)] [] g (fn_Re_number p1 g) := by
  unfold fn_Re_number
  refine zi_aload0 (pc := 0) hX dX4_number_0 ?_
  refine zi_callU (zc_virt (pc := 1) hX dX4_number_1 tm_788 md_X4_step mi_X4_step ly_28 (ct_Re_step hX.sane g) rfl rfl rfl) (fun g2 => ?_)
  refine zi_aload0 (pc := 4) hX dX4_number_4 ?_
  refine zi_iload1 (pc := 5) hX dX4_number_5 ?_
  refine zi_callI (zc_virt (pc := 6) hX dX4_number_6 tm_896 md_X4_isNumber mi_X4_isNumber ly_28 (ct_Re_isNumber hX.sane p1 g2) rfl rfl rfl) (fun v3 g4 => ?_)
  exact zi_ret (pc := 9) hX dX4_number_9 rfl rfl rfl rfl
theorem ct_Re_number {w : et_W} (hw : et_Sane w) (p1 : Int32) (g : et_G) : et_C w yX4_number (Cond.code yX4_number cX4_number 2 (some .boolean)) rm_Re_number et_eI [.ref (et_ad w 28), .int p1] g (fn_Re_number p1 g) := et_mk hw (by decide) rfl rfl (fun X hX => zw_Re_number hX p1 g)
def rm_Re_isSemicolon : Room := { frames := 1, cells := 0, slots := 0, locals := 21 }
def fn_Re_isSemicolon (g : et_G) : Option (Int32 × et_G) :=
  if (g.1 28 3) = (3 : Int32) then
    some ((1 : Int32), g)
  else
    et_bd (fn_Re_refuse (1 : Int32) g) (fun v1 g2 =>
    if v1 = 0 then
      some ((0 : Int32), g2)
    else
      some ((1 : Int32), g2))
theorem zw_Re_isSemicolon {X : et_X} {w : et_W} (hX : et_Gd X w cX4_isSemicolon RX4 1 (some .boolean) [] rm_Re_isSemicolon) (g : et_G) : et_Z X w 0 et_eI 0 [some (.ref (et_ad w 28))] [] g (fn_Re_isSemicolon g) := by
  unfold fn_Re_isSemicolon
  refine zi_aload0 (pc := 0) hX dX4_isSemicolon_0 ?_
  refine zi_geti (pc := 1) hX dX4_isSemicolon_1 fl_270 ly_28 rfl ?_
  refine zi_iconst (pc := 4) hX dX4_isSemicolon_4 ki_3 ?_
  refine zi_icmp_eq (pc := 5) 16 hX dX4_isSemicolon_5 (by decide) (fun _ => ?_) (fun _ => ?_)
  · refine zi_iconst (pc := 16) hX dX4_isSemicolon_16 ki_1 ?_
    refine zi_goto (pc := 17) 21 hX dX4_isSemicolon_17 (by decide) ?_
    exact zi_ret (pc := 21) hX dX4_isSemicolon_21 et_z1 rfl rfl rfl
  · refine zi_aload0 (pc := 8) hX dX4_isSemicolon_8 ?_
    refine zi_iconst (pc := 9) hX dX4_isSemicolon_9 ki_1 ?_
    refine zi_callI (zc_virt (pc := 10) hX dX4_isSemicolon_10 tm_866 md_X4_refuse mi_X4_refuse ly_28 (ct_Re_refuse hX.sane (1 : Int32) g) rfl rfl rfl) (fun v1 g2 => ?_)
    refine zi_if_eq (pc := 13) 20 hX dX4_isSemicolon_13 (by decide) (fun _ => ?_) (fun _ => ?_)
    · refine zi_iconst (pc := 20) hX dX4_isSemicolon_20 ki_0 ?_
      exact zi_ret (pc := 21) hX dX4_isSemicolon_21 et_z0 rfl rfl rfl
    · refine zi_iconst (pc := 16) hX dX4_isSemicolon_16 ki_1 ?_
      refine zi_goto (pc := 17) 21 hX dX4_isSemicolon_17 (by decide) ?_
      exact zi_ret (pc := 21) hX dX4_isSemicolon_21 et_z1 rfl rfl rfl
theorem ct_Re_isSemicolon {w : et_W} (hw : et_Sane w) (g : et_G) : et_C w yX4_isSemicolon (Cond.code yX4_isSemicolon cX4_isSemicolon 1 (some .boolean)) rm_Re_isSemicolon et_eI [.ref (et_ad w 28)] g (fn_Re_isSemicolon g) := et_mk hw (by decide) rfl rfl (fun X hX => zw_Re_isSemicolon hX g)
def rm_Re_semicolon : Room := { frames := 3, cells := 0, slots := 0, locals := 60 }
def fn_Re_semicolon (g : et_G) : Option (Int32 × et_G) :=
  et_bd (fn_Re_step g) (fun _ g2 =>
  et_bd (fn_Re_isSemicolon g2) (fun v3 g4 =>
  some (v3 &&& 1, g4)))
theorem zw_Re_semicolon {X : et_X} {w : et_W} (hX : et_Gd X w cX4_semicolon RX4 1 (some .boolean) [] rm_Re_semicolon) (g : et_G) : et_Z X w 0 et_eI 0 [some (.ref (et_ad w 28))] [] g (fn_Re_semicolon g) := by
  unfold fn_Re_semicolon
  refine zi_aload0 (pc := 0) hX dX4_semicolon_0 ?_
  refine zi_callU (zc_virt (pc := 1) hX dX4_semicolon_1 tm_788 md_X4_step mi_X4_step ly_28 (ct_Re_step hX.sane g) rfl rfl rfl) (fun g2 => ?_)
  refine zi_aload0 (pc := 4) hX dX4_semicolon_4 ?_
  refine zi_callI (zc_virt (pc := 5) hX dX4_semicolon_5 tm_883 md_X4_isSemicolon mi_X4_isSemicolon ly_28 (ct_Re_isSemicolon hX.sane g2) rfl rfl rfl) (fun v3 g4 => ?_)
  exact zi_ret (pc := 8) hX dX4_semicolon_8 rfl rfl rfl rfl
theorem ct_Re_semicolon {w : et_W} (hw : et_Sane w) (g : et_G) : et_C w yX4_semicolon (Cond.code yX4_semicolon cX4_semicolon 1 (some .boolean)) rm_Re_semicolon et_eI [.ref (et_ad w 28)] g (fn_Re_semicolon g) := et_mk hw (by decide) rfl rfl (fun X hX => zw_Re_semicolon hX g)
def rm_Re_weighLine_15 : Room := { frames := 4, cells := 0, slots := 0, locals := 81 }
def fn_Re_weighLine_15 (g : et_G) : Option (Int32 × et_G) :=
  et_bd (fn_Re_number (4 : Int32) g) (fun v1 g2 =>
  if v1 = 0 then
    some ((0 : Int32), g2)
  else
    et_b (g2.1 28 6) (fun v3 =>
    et_bd (fn_Re_number (1000 : Int32) g2) (fun v4 g5 =>
    if v4 = 0 then
      some ((0 : Int32), g5)
    else
      et_ck (et_ib ((2 : Int32) * v3) 10) (et_b (et_si g5 27 ((2 : Int32) * v3).toNatClampNeg (g5.1 28 6)) (fun g6 =>
      et_bd (fn_Re_number (1000 : Int32) g6) (fun v7 g8 =>
      if v7 = 0 then
        some ((0 : Int32), g8)
      else
        et_ck (et_ib (((2 : Int32) * v3) + (1 : Int32)) 10) (et_b (et_si g8 27 (((2 : Int32) * v3) + (1 : Int32)).toNatClampNeg (g8.1 28 6)) (fun g9 =>
        et_bd (fn_Re_semicolon g9) (fun v10 g11 =>
        some (v10 &&& 1, g11))))))))))
theorem zw_Re_weighLine_15 {X : et_X} {w : et_W} (hX : et_Gd X w cX4_weighLine RX4 3 (some .boolean) [] rm_Re_weighLine_15) (g : et_G) : et_Z X w 0 et_eI 0 [some (.ref (et_ad w 28)), some (.ref (et_ad w 15)), none] [] g (fn_Re_weighLine_15 g) := by
  unfold fn_Re_weighLine_15
  refine zi_aload0 (pc := 0) hX dX4_weighLine_0 ?_
  refine zi_iconst (pc := 1) hX dX4_weighLine_1 ki_4 ?_
  refine zi_callI (zc_virt (pc := 2) hX dX4_weighLine_2 tm_892 md_X4_number mi_X4_number ly_28 (ct_Re_number hX.sane (4 : Int32) g) rfl rfl rfl) (fun v1 g2 => ?_)
  refine zi_if_ne (pc := 5) 10 hX dX4_weighLine_5 (by decide) (fun _ => ?_) (fun _ => ?_)
  · refine zi_iconst (pc := 8) hX dX4_weighLine_8 ki_0 ?_
    exact zi_ret (pc := 9) hX dX4_weighLine_9 et_z0 rfl rfl rfl
  · refine zi_aload0 (pc := 10) hX dX4_weighLine_10 ?_
    refine zi_geti (pc := 11) hX dX4_weighLine_11 fl_273 ly_28 rfl ?_
    refine zi_bi (fun v3 => ?_)
    refine zi_istore2 (pc := 14) hX dX4_weighLine_14 rfl rfl ?_
    refine zi_aload0 (pc := 15) hX dX4_weighLine_15 ?_
    refine zi_sipush (pc := 16) hX dX4_weighLine_16 ks_1000 ?_
    refine zi_callI (zc_virt (pc := 19) hX dX4_weighLine_19 tm_892 md_X4_number mi_X4_number ly_28 (ct_Re_number hX.sane (1000 : Int32) g2) rfl rfl rfl) (fun v4 g5 => ?_)
    refine zi_if_ne (pc := 22) 27 hX dX4_weighLine_22 (by decide) (fun _ => ?_) (fun _ => ?_)
    · refine zi_iconst (pc := 25) hX dX4_weighLine_25 ki_0 ?_
      exact zi_ret (pc := 26) hX dX4_weighLine_26 et_z0 rfl rfl rfl
    · refine zi_aload1 (pc := 27) hX dX4_weighLine_27 ?_
      refine zi_getr (q := 27) (pc := 28) hX dX4_weighLine_28 fl_229 ly_15 rfl ?_
      refine zi_iconst (pc := 31) hX dX4_weighLine_31 ki_2 ?_
      refine zi_iload2 (pc := 32) hX dX4_weighLine_32 ?_
      refine zi_imul (pc := 33) hX dX4_weighLine_33 ?_
      refine zi_aload0 (pc := 34) hX dX4_weighLine_34 ?_
      refine zi_geti (pc := 35) hX dX4_weighLine_35 fl_273 ly_28 rfl ?_
      refine zi_iast (pc := 38) hX dX4_weighLine_38 ly_27 (zi_bg (fun g6 => ?_))
      refine zi_aload0 (pc := 39) hX dX4_weighLine_39 ?_
      refine zi_sipush (pc := 40) hX dX4_weighLine_40 ks_1000 ?_
      refine zi_callI (zc_virt (pc := 43) hX dX4_weighLine_43 tm_892 md_X4_number mi_X4_number ly_28 (ct_Re_number hX.sane (1000 : Int32) g6) rfl rfl rfl) (fun v7 g8 => ?_)
      refine zi_if_ne (pc := 46) 51 hX dX4_weighLine_46 (by decide) (fun _ => ?_) (fun _ => ?_)
      · refine zi_iconst (pc := 49) hX dX4_weighLine_49 ki_0 ?_
        exact zi_ret (pc := 50) hX dX4_weighLine_50 et_z0 rfl rfl rfl
      · refine zi_aload1 (pc := 51) hX dX4_weighLine_51 ?_
        refine zi_getr (q := 27) (pc := 52) hX dX4_weighLine_52 fl_229 ly_15 rfl ?_
        refine zi_iconst (pc := 55) hX dX4_weighLine_55 ki_2 ?_
        refine zi_iload2 (pc := 56) hX dX4_weighLine_56 ?_
        refine zi_imul (pc := 57) hX dX4_weighLine_57 ?_
        refine zi_iconst (pc := 58) hX dX4_weighLine_58 ki_1 ?_
        refine zi_iadd (pc := 59) hX dX4_weighLine_59 ?_
        refine zi_aload0 (pc := 60) hX dX4_weighLine_60 ?_
        refine zi_geti (pc := 61) hX dX4_weighLine_61 fl_273 ly_28 rfl ?_
        refine zi_iast (pc := 64) hX dX4_weighLine_64 ly_27 (zi_bg (fun g9 => ?_))
        refine zi_aload0 (pc := 65) hX dX4_weighLine_65 ?_
        refine zi_callI (zc_virt (pc := 66) hX dX4_weighLine_66 tm_879 md_X4_semicolon mi_X4_semicolon ly_28 (ct_Re_semicolon hX.sane g9) rfl rfl rfl) (fun v10 g11 => ?_)
        exact zi_ret (pc := 69) hX dX4_weighLine_69 rfl rfl rfl rfl
theorem ct_Re_weighLine_15 {w : et_W} (hw : et_Sane w) (g : et_G) : et_C w yX4_weighLine (Cond.code yX4_weighLine cX4_weighLine 3 (some .boolean)) rm_Re_weighLine_15 et_eI [.ref (et_ad w 28), .ref (et_ad w 15)] g (fn_Re_weighLine_15 g) := et_mk hw (by decide) rfl rfl (fun X hX => zw_Re_weighLine_15 hX g)
def rm_Re_oneOf : Room := { frames := 3, cells := 0, slots := 0, locals := 60 }
def fn_Re_oneOf (p1 : Int32) (g : et_G) : Option (Int32 × et_G) :=
  et_bd (fn_Re_step g) (fun _ g2 =>
  et_bd (fn_Re_isNumber (999 : Int32) g2) (fun v3 g4 =>
  if v3 = 0 then
    some ((0 : Int32), g4)
  else
    if (g4.1 28 6) < p1 then
      some ((1 : Int32), g4)
    else
      et_bd (fn_Re_refuse (3 : Int32) g4) (fun v5 g6 =>
      if v5 = 0 then
        some ((0 : Int32), g6)
      else
        some ((1 : Int32), g6))))
theorem zw_Re_oneOf {X : et_X} {w : et_W} (hX : et_Gd X w cX4_oneOf RX4 2 (some .boolean) [] rm_Re_oneOf) (p1 : Int32) (g : et_G) : et_Z X w 0 et_eI 0 [some (.ref (et_ad w 28)), some (.int p1)] [] g (fn_Re_oneOf p1 g) := by
  unfold fn_Re_oneOf
  refine zi_aload0 (pc := 0) hX dX4_oneOf_0 ?_
  refine zi_callU (zc_virt (pc := 1) hX dX4_oneOf_1 tm_788 md_X4_step mi_X4_step ly_28 (ct_Re_step hX.sane g) rfl rfl rfl) (fun g2 => ?_)
  refine zi_aload0 (pc := 4) hX dX4_oneOf_4 ?_
  refine zi_sipush (pc := 5) hX dX4_oneOf_5 ks_999 ?_
  refine zi_callI (zc_virt (pc := 8) hX dX4_oneOf_8 tm_896 md_X4_isNumber mi_X4_isNumber ly_28 (ct_Re_isNumber hX.sane (999 : Int32) g2) rfl rfl rfl) (fun v3 g4 => ?_)
  refine zi_if_eq (pc := 11) 34 hX dX4_oneOf_11 (by decide) (fun _ => ?_) (fun _ => ?_)
  · refine zi_iconst (pc := 34) hX dX4_oneOf_34 ki_0 ?_
    exact zi_ret (pc := 35) hX dX4_oneOf_35 et_z0 rfl rfl rfl
  · refine zi_aload0 (pc := 14) hX dX4_oneOf_14 ?_
    refine zi_geti (pc := 15) hX dX4_oneOf_15 fl_273 ly_28 rfl ?_
    refine zi_iload1 (pc := 18) hX dX4_oneOf_18 ?_
    refine zi_icmp_lt (pc := 19) 30 hX dX4_oneOf_19 (by decide) (fun _ => ?_) (fun _ => ?_)
    · refine zi_iconst (pc := 30) hX dX4_oneOf_30 ki_1 ?_
      refine zi_goto (pc := 31) 35 hX dX4_oneOf_31 (by decide) ?_
      exact zi_ret (pc := 35) hX dX4_oneOf_35 et_z1 rfl rfl rfl
    · refine zi_aload0 (pc := 22) hX dX4_oneOf_22 ?_
      refine zi_iconst (pc := 23) hX dX4_oneOf_23 ki_3 ?_
      refine zi_callI (zc_virt (pc := 24) hX dX4_oneOf_24 tm_866 md_X4_refuse mi_X4_refuse ly_28 (ct_Re_refuse hX.sane (3 : Int32) g4) rfl rfl rfl) (fun v5 g6 => ?_)
      refine zi_if_eq (pc := 27) 34 hX dX4_oneOf_27 (by decide) (fun _ => ?_) (fun _ => ?_)
      · refine zi_iconst (pc := 34) hX dX4_oneOf_34 ki_0 ?_
        exact zi_ret (pc := 35) hX dX4_oneOf_35 et_z0 rfl rfl rfl
      · refine zi_iconst (pc := 30) hX dX4_oneOf_30 ki_1 ?_
        refine zi_goto (pc := 31) 35 hX dX4_oneOf_31 (by decide) ?_
        exact zi_ret (pc := 35) hX dX4_oneOf_35 et_z1 rfl rfl rfl
theorem ct_Re_oneOf {w : et_W} (hw : et_Sane w) (p1 : Int32) (g : et_G) : et_C w yX4_oneOf (Cond.code yX4_oneOf cX4_oneOf 2 (some .boolean)) rm_Re_oneOf et_eI [.ref (et_ad w 28), .int p1] g (fn_Re_oneOf p1 g) := et_mk hw (by decide) rfl rfl (fun X hX => zw_Re_oneOf hX p1 g)
def rm_Re_atLine_15 : Room := { frames := 4, cells := 0, slots := 0, locals := 81 }
def fn_Re_atLine_15 (g : et_G) : Option (Int32 × et_G) :=
  et_b (et_si g 28 8 (1 : Int32)) (fun g1 =>
  et_bd (fn_Re_oneOf (g1.1 15 3) g1) (fun v2 g3 =>
  if v2 = 0 then
    some ((0 : Int32), g3)
  else
    et_b (g3.1 28 6) (fun v4 =>
    et_bd (fn_Re_number (23 : Int32) g3) (fun v5 g6 =>
    if v5 = 0 then
      some ((0 : Int32), g6)
    else
      et_b (g6.1 28 6) (fun v7 =>
      et_bd (fn_Re_oneOf (g6.1 15 1) g6) (fun v8 g9 =>
      if v8 = 0 then
        some ((0 : Int32), g9)
      else
        et_ck (et_ib ((v4 * (24 : Int32)) + v7) 144) (et_b (et_si g9 21 ((v4 * (24 : Int32)) + v7).toNatClampNeg (g9.1 28 6)) (fun g10 =>
        et_bd (fn_Re_semicolon g10) (fun v11 g12 =>
        some (v11 &&& 1, g12))))))))))
theorem zw_Re_atLine_15 {X : et_X} {w : et_W} (hX : et_Gd X w cX4_atLine RX4 4 (some .boolean) [] rm_Re_atLine_15) (g : et_G) : et_Z X w 0 et_eI 0 [some (.ref (et_ad w 28)), some (.ref (et_ad w 15)), none, none] [] g (fn_Re_atLine_15 g) := by
  unfold fn_Re_atLine_15
  refine zi_aload0 (pc := 0) hX dX4_atLine_0 ?_
  refine zi_iconst (pc := 1) hX dX4_atLine_1 ki_1 ?_
  refine zi_puti (pc := 2) hX dX4_atLine_2 fl_275 ly_28 rfl et_z1 et_f1 (zi_bg (fun g1 => ?_))
  refine zi_aload0 (pc := 5) hX dX4_atLine_5 ?_
  refine zi_aload1 (pc := 6) hX dX4_atLine_6 ?_
  refine zi_geti (pc := 7) hX dX4_atLine_7 fl_194 ly_15 rfl ?_
  refine zi_callI (zc_virt (pc := 10) hX dX4_atLine_10 tm_935 md_X4_oneOf mi_X4_oneOf ly_28 (ct_Re_oneOf hX.sane (g1.1 15 3) g1) rfl rfl rfl) (fun v2 g3 => ?_)
  refine zi_if_ne (pc := 13) 18 hX dX4_atLine_13 (by decide) (fun _ => ?_) (fun _ => ?_)
  · refine zi_iconst (pc := 16) hX dX4_atLine_16 ki_0 ?_
    exact zi_ret (pc := 17) hX dX4_atLine_17 et_z0 rfl rfl rfl
  · refine zi_aload0 (pc := 18) hX dX4_atLine_18 ?_
    refine zi_geti (pc := 19) hX dX4_atLine_19 fl_273 ly_28 rfl ?_
    refine zi_bi (fun v4 => ?_)
    refine zi_istore2 (pc := 22) hX dX4_atLine_22 rfl rfl ?_
    refine zi_aload0 (pc := 23) hX dX4_atLine_23 ?_
    refine zi_bipush (pc := 24) hX dX4_atLine_24 kb_23 ?_
    refine zi_callI (zc_virt (pc := 26) hX dX4_atLine_26 tm_892 md_X4_number mi_X4_number ly_28 (ct_Re_number hX.sane (23 : Int32) g3) rfl rfl rfl) (fun v5 g6 => ?_)
    refine zi_if_ne (pc := 29) 34 hX dX4_atLine_29 (by decide) (fun _ => ?_) (fun _ => ?_)
    · refine zi_iconst (pc := 32) hX dX4_atLine_32 ki_0 ?_
      exact zi_ret (pc := 33) hX dX4_atLine_33 et_z0 rfl rfl rfl
    · refine zi_aload0 (pc := 34) hX dX4_atLine_34 ?_
      refine zi_geti (pc := 35) hX dX4_atLine_35 fl_273 ly_28 rfl ?_
      refine zi_bi (fun v7 => ?_)
      refine zi_istore3 (pc := 38) hX dX4_atLine_38 rfl rfl ?_
      refine zi_aload0 (pc := 39) hX dX4_atLine_39 ?_
      refine zi_aload1 (pc := 40) hX dX4_atLine_40 ?_
      refine zi_geti (pc := 41) hX dX4_atLine_41 fl_189 ly_15 rfl ?_
      refine zi_callI (zc_virt (pc := 44) hX dX4_atLine_44 tm_935 md_X4_oneOf mi_X4_oneOf ly_28 (ct_Re_oneOf hX.sane (g6.1 15 1) g6) rfl rfl rfl) (fun v8 g9 => ?_)
      refine zi_if_ne (pc := 47) 52 hX dX4_atLine_47 (by decide) (fun _ => ?_) (fun _ => ?_)
      · refine zi_iconst (pc := 50) hX dX4_atLine_50 ki_0 ?_
        exact zi_ret (pc := 51) hX dX4_atLine_51 et_z0 rfl rfl rfl
      · refine zi_aload1 (pc := 52) hX dX4_atLine_52 ?_
        refine zi_getr (q := 21) (pc := 53) hX dX4_atLine_53 fl_197 ly_15 rfl ?_
        refine zi_iload2 (pc := 56) hX dX4_atLine_56 ?_
        refine zi_bipush (pc := 57) hX dX4_atLine_57 kb_24 ?_
        refine zi_imul (pc := 59) hX dX4_atLine_59 ?_
        refine zi_iload3 (pc := 60) hX dX4_atLine_60 ?_
        refine zi_iadd (pc := 61) hX dX4_atLine_61 ?_
        refine zi_aload0 (pc := 62) hX dX4_atLine_62 ?_
        refine zi_geti (pc := 63) hX dX4_atLine_63 fl_273 ly_28 rfl ?_
        refine zi_iast (pc := 66) hX dX4_atLine_66 ly_21 (zi_bg (fun g10 => ?_))
        refine zi_aload0 (pc := 67) hX dX4_atLine_67 ?_
        refine zi_callI (zc_virt (pc := 68) hX dX4_atLine_68 tm_879 md_X4_semicolon mi_X4_semicolon ly_28 (ct_Re_semicolon hX.sane g10) rfl rfl rfl) (fun v11 g12 => ?_)
        exact zi_ret (pc := 71) hX dX4_atLine_71 rfl rfl rfl rfl
theorem ct_Re_atLine_15 {w : et_W} (hw : et_Sane w) (g : et_G) : et_C w yX4_atLine (Cond.code yX4_atLine cX4_atLine 4 (some .boolean)) rm_Re_atLine_15 et_eI [.ref (et_ad w 28), .ref (et_ad w 15)] g (fn_Re_atLine_15 g) := et_mk hw (by decide) rfl rfl (fun X hX => zw_Re_atLine_15 hX g)
def rm_Re_ruleGround_15 : Room := { frames := 2, cells := 0, slots := 0, locals := 42 }
def fn_Re_ruleGround_15_69 (g : et_G) : Option (Int32 × et_G) :=
  et_bd (fn_Re_refuse (4 : Int32) g) (fun v3 g4 =>
  some (v3 &&& 1, g4))
def fn_Re_ruleGround_15 (p2 : Int32) (p3 : Int32) (g : et_G) : Option (Int32 × et_G) :=
  et_bd (fn_Re_isNumber (999 : Int32) g) (fun v1 g2 =>
  if v1 = 0 then
    some ((0 : Int32), g2)
  else
    if p3 < (3 : Int32) then
      if (g2.1 28 6) < (g2.1 15 5) then
        et_ck (et_ib p2 6) (
        if (g2.1 28 6) = (g2.1 25 p2.toNatClampNeg) then
          fn_Re_ruleGround_15_69 g2
        else
          et_ck (et_ib p2 6) (
          et_bd (fn_Et_hasBit (g2.1 26 p2.toNatClampNeg) (g2.1 28 6) g2) (fun v5 g6 =>
          if v5 = 0 then
            et_ck (et_ib p2 6) (
            et_ck (et_ib p2 6) (et_b (et_si g6 26 p2.toNatClampNeg ((g6.1 26 p2.toNatClampNeg) ||| ((1 : Int32) <<< ((g6.1 28 6) &&& 31)))) (fun g7 =>
            some ((1 : Int32), g7))))
          else
            fn_Re_ruleGround_15_69 g6)))
      else
        et_bd (fn_Re_refuse (3 : Int32) g2) (fun v8 g9 =>
        some (v8 &&& 1, g9))
    else
      et_bd (fn_Re_refuse (2 : Int32) g2) (fun v10 g11 =>
      some (v10 &&& 1, g11)))
theorem zp_Re_ruleGround_15_69 {X : et_X} {w : et_W} (hX : et_Gd X w cX4_ruleGround RX4 4 (some .boolean) [] rm_Re_ruleGround_15) (g : et_G) : et_Z X w 0 et_eI 69 [some (.ref (et_ad w 28)), none, none, none] [] g (fn_Re_ruleGround_15_69 g) := by
  unfold fn_Re_ruleGround_15_69
  refine zi_aload0 (pc := 69) hX dX4_ruleGround_69 ?_
  refine zi_iconst (pc := 70) hX dX4_ruleGround_70 ki_4 ?_
  refine zi_callI (zc_virt (pc := 71) hX dX4_ruleGround_71 tm_866 md_X4_refuse mi_X4_refuse ly_28 (ct_Re_refuse hX.sane (4 : Int32) g) rfl rfl rfl) (fun v3 g4 => ?_)
  exact zi_ret (pc := 74) hX dX4_ruleGround_74 rfl rfl rfl rfl
theorem zw_Re_ruleGround_15 {X : et_X} {w : et_W} (hX : et_Gd X w cX4_ruleGround RX4 4 (some .boolean) [] rm_Re_ruleGround_15) (p2 : Int32) (p3 : Int32) (g : et_G) : et_Z X w 0 et_eI 0 [some (.ref (et_ad w 28)), some (.ref (et_ad w 15)), some (.int p2), some (.int p3)] [] g (fn_Re_ruleGround_15 p2 p3 g) := by
  unfold fn_Re_ruleGround_15
  refine zi_aload0 (pc := 0) hX dX4_ruleGround_0 ?_
  refine zi_sipush (pc := 1) hX dX4_ruleGround_1 ks_999 ?_
  refine zi_callI (zc_virt (pc := 4) hX dX4_ruleGround_4 tm_896 md_X4_isNumber mi_X4_isNumber ly_28 (ct_Re_isNumber hX.sane (999 : Int32) g) rfl rfl rfl) (fun v1 g2 => ?_)
  refine zi_if_ne (pc := 7) 12 hX dX4_ruleGround_7 (by decide) (fun _ => ?_) (fun _ => ?_)
  · refine zi_iconst (pc := 10) hX dX4_ruleGround_10 ki_0 ?_
    exact zi_ret (pc := 11) hX dX4_ruleGround_11 et_z0 rfl rfl rfl
  · refine zi_iload3 (pc := 12) hX dX4_ruleGround_12 ?_
    refine zi_iconst (pc := 13) hX dX4_ruleGround_13 ki_3 ?_
    refine zi_icmp_lt (pc := 14) 23 hX dX4_ruleGround_14 (by decide) (fun _ => ?_) (fun _ => ?_)
    · refine zi_aload0 (pc := 23) hX dX4_ruleGround_23 ?_
      refine zi_geti (pc := 24) hX dX4_ruleGround_24 fl_273 ly_28 rfl ?_
      refine zi_aload1 (pc := 27) hX dX4_ruleGround_27 ?_
      refine zi_geti (pc := 28) hX dX4_ruleGround_28 fl_202 ly_15 rfl ?_
      refine zi_icmp_lt (pc := 31) 40 hX dX4_ruleGround_31 (by decide) (fun _ => ?_) (fun _ => ?_)
      · refine zi_aload0 (pc := 40) hX dX4_ruleGround_40 ?_
        refine zi_geti (pc := 41) hX dX4_ruleGround_41 fl_273 ly_28 rfl ?_
        refine zi_aload1 (pc := 44) hX dX4_ruleGround_44 ?_
        refine zi_getr (q := 25) (pc := 45) hX dX4_ruleGround_45 fl_224 ly_15 rfl ?_
        refine zi_iload2 (pc := 48) hX dX4_ruleGround_48 ?_
        refine zi_iald (pc := 49) hX dX4_ruleGround_49 ly_25 ?_
        refine zi_icmp_eq (pc := 50) 69 hX dX4_ruleGround_50 (by decide) (fun _ => ?_) (fun _ => ?_)
        · refine zi_drop (le_s (le_n (le_n (le_n le_nil)))) ?_; exact zp_Re_ruleGround_15_69 hX g2
        · refine zi_aload1 (pc := 53) hX dX4_ruleGround_53 ?_
          refine zi_getr (q := 26) (pc := 54) hX dX4_ruleGround_54 fl_227 ly_15 rfl ?_
          refine zi_iload2 (pc := 57) hX dX4_ruleGround_57 ?_
          refine zi_iald (pc := 58) hX dX4_ruleGround_58 ly_26 ?_
          refine zi_aload0 (pc := 59) hX dX4_ruleGround_59 ?_
          refine zi_geti (pc := 60) hX dX4_ruleGround_60 fl_273 ly_28 rfl ?_
          refine zi_callI (zc_nest (pc := 63) hX dX4_ruleGround_63 nl_968 md_X9_hasBit st_X9_hasBit (ct_Et_hasBit hX.sane (g2.1 26 p2.toNatClampNeg) (g2.1 28 6) g2) rfl rfl rfl) (fun v5 g6 => ?_)
          refine zi_if_eq (pc := 66) 75 hX dX4_ruleGround_66 (by decide) (fun _ => ?_) (fun _ => ?_)
          · refine zi_aload1 (pc := 75) hX dX4_ruleGround_75 ?_
            refine zi_getr (q := 26) (pc := 76) hX dX4_ruleGround_76 fl_227 ly_15 rfl ?_
            refine zi_iload2 (pc := 79) hX dX4_ruleGround_79 ?_
            refine zi_dup2 (pc := 80) hX dX4_ruleGround_80 rfl rfl ?_
            refine zi_iald (pc := 81) hX dX4_ruleGround_81 ly_26 ?_
            refine zi_iconst (pc := 82) hX dX4_ruleGround_82 ki_1 ?_
            refine zi_aload0 (pc := 83) hX dX4_ruleGround_83 ?_
            refine zi_geti (pc := 84) hX dX4_ruleGround_84 fl_273 ly_28 rfl ?_
            refine zi_ishl (pc := 87) hX dX4_ruleGround_87 ?_
            refine zi_ior (pc := 88) hX dX4_ruleGround_88 ?_
            refine zi_iast (pc := 89) hX dX4_ruleGround_89 ly_26 (zi_bg (fun g7 => ?_))
            refine zi_iconst (pc := 90) hX dX4_ruleGround_90 ki_1 ?_
            exact zi_ret (pc := 91) hX dX4_ruleGround_91 et_z1 rfl rfl rfl
          · refine zi_drop (le_s (le_n (le_n (le_n le_nil)))) ?_; exact zp_Re_ruleGround_15_69 hX g6
      · refine zi_aload0 (pc := 34) hX dX4_ruleGround_34 ?_
        refine zi_iconst (pc := 35) hX dX4_ruleGround_35 ki_3 ?_
        refine zi_callI (zc_virt (pc := 36) hX dX4_ruleGround_36 tm_866 md_X4_refuse mi_X4_refuse ly_28 (ct_Re_refuse hX.sane (3 : Int32) g2) rfl rfl rfl) (fun v8 g9 => ?_)
        exact zi_ret (pc := 39) hX dX4_ruleGround_39 rfl rfl rfl rfl
    · refine zi_aload0 (pc := 17) hX dX4_ruleGround_17 ?_
      refine zi_iconst (pc := 18) hX dX4_ruleGround_18 ki_2 ?_
      refine zi_callI (zc_virt (pc := 19) hX dX4_ruleGround_19 tm_866 md_X4_refuse mi_X4_refuse ly_28 (ct_Re_refuse hX.sane (2 : Int32) g2) rfl rfl rfl) (fun v10 g11 => ?_)
      exact zi_ret (pc := 22) hX dX4_ruleGround_22 rfl rfl rfl rfl
theorem ct_Re_ruleGround_15 {w : et_W} (hw : et_Sane w) (p2 : Int32) (p3 : Int32) (g : et_G) : et_C w yX4_ruleGround (Cond.code yX4_ruleGround cX4_ruleGround 4 (some .boolean)) rm_Re_ruleGround_15 et_eI [.ref (et_ad w 28), .ref (et_ad w 15), .int p2, .int p3] g (fn_Re_ruleGround_15 p2 p3 g) := et_mk hw (by decide) rfl rfl (fun X hX => zw_Re_ruleGround_15 hX p2 p3 g)
def rm_Re_ruleLine_15 : Room := { frames := 4, cells := 0, slots := 0, locals := 81 }
def fn_Re_ruleLine_15_92 (g : et_G) : Option (Int32 × et_G) :=
  et_b (et_si g 15 11 ((g.1 15 11) + (1 : Int32))) (fun g8 =>
  et_bd (fn_Re_isSemicolon g8) (fun v9 g10 =>
  some (v9 &&& 1, g10)))
def fn_Re_ruleLine_15_70 (r53 : Int32 → et_G → Option (Int32 × et_G)) (x2 : Int32) (x3 : Int32) (g : et_G) : Option (Int32 × et_G) :=
  et_bd (fn_Re_ruleGround_15 x2 x3 g) (fun v11 g12 =>
  if v11 = 0 then
    some ((0 : Int32), g12)
  else
    et_bd (fn_Re_step g12) (fun _ g14 =>
    et_b (x3 + (1 : Int32)) (fun v15 =>
    r53 v15 g14)))
def fn_Re_ruleLine_15_53 (x2 : Int32) : Nat → Int32 → et_G → Option (Int32 × et_G)
  | 0, _, _ => none
  | n + 1, x3, g =>
    if (3 : Int32) < x3 then
      fn_Re_ruleLine_15_92 g
    else
      if x3 = 0 then
        fn_Re_ruleLine_15_70 (fun z3 g => fn_Re_ruleLine_15_53 x2 n z3 g) x2 x3 g
      else
        if (g.1 28 3) = (2 : Int32) then
          fn_Re_ruleLine_15_70 (fun z3 g => fn_Re_ruleLine_15_53 x2 n z3 g) x2 x3 g
        else
          fn_Re_ruleLine_15_92 g
def fn_Re_ruleLine_15 (g : et_G) : Option (Int32 × et_G) :=
  et_b (g.1 15 11) (fun v1 =>
  if v1 < (6 : Int32) then
    et_bd (fn_Re_oneOf (g.1 15 5) g) (fun v2 g3 =>
    if v2 = 0 then
      some ((0 : Int32), g3)
    else
      et_ck (et_ib v1 6) (et_b (et_si g3 25 v1.toNatClampNeg (g3.1 28 6)) (fun g4 =>
      et_ck (et_ib v1 6) (et_b (et_si g4 26 v1.toNatClampNeg (0 : Int32)) (fun g5 =>
      et_bd (fn_Re_step g5) (fun _ g7 =>
      fn_Re_ruleLine_15_53 v1 1000000 (0 : Int32) g7))))))
  else
    et_bd (fn_Re_refuse (2 : Int32) g) (fun v16 g17 =>
    some (v16 &&& 1, g17)))
theorem zp_Re_ruleLine_15_92 {X : et_X} {w : et_W} (hX : et_Gd X w cX4_ruleLine RX4 4 (some .boolean) [] rm_Re_ruleLine_15) (g : et_G) : et_Z X w 0 et_eI 92 [some (.ref (et_ad w 28)), some (.ref (et_ad w 15)), none, none] [] g (fn_Re_ruleLine_15_92 g) := by
  unfold fn_Re_ruleLine_15_92
  refine zi_aload1 (pc := 92) hX dX4_ruleLine_92 ?_
  refine zi_dup (pc := 93) hX dX4_ruleLine_93 rfl ?_
  refine zi_geti (pc := 94) hX dX4_ruleLine_94 fl_222 ly_15 rfl ?_
  refine zi_iconst (pc := 97) hX dX4_ruleLine_97 ki_1 ?_
  refine zi_iadd (pc := 98) hX dX4_ruleLine_98 ?_
  refine zi_puti (pc := 99) hX dX4_ruleLine_99 fl_222 ly_15 rfl rfl rfl (zi_bg (fun g8 => ?_))
  refine zi_aload0 (pc := 102) hX dX4_ruleLine_102 ?_
  refine zi_callI (zc_virt (pc := 103) hX dX4_ruleLine_103 tm_883 md_X4_isSemicolon mi_X4_isSemicolon ly_28 (ct_Re_isSemicolon hX.sane g8) rfl rfl rfl) (fun v9 g10 => ?_)
  exact zi_ret (pc := 106) hX dX4_ruleLine_106 rfl rfl rfl rfl
theorem zp_Re_ruleLine_15_70 {X : et_X} {w : et_W} (hX : et_Gd X w cX4_ruleLine RX4 4 (some .boolean) [] rm_Re_ruleLine_15) (r53 : Int32 → et_G → Option (Int32 × et_G)) (x2 : Int32) (x3 : Int32) (hr53 : ∀ (y3 : Int32) (g : et_G), et_Z X w 0 et_eI 53 [some (.ref (et_ad w 28)), some (.ref (et_ad w 15)), some (.int x2), some (.int y3)] [] g (r53 y3 g)) (g : et_G) : et_Z X w 0 et_eI 70 [some (.ref (et_ad w 28)), some (.ref (et_ad w 15)), some (.int x2), some (.int x3)] [] g (fn_Re_ruleLine_15_70 r53 x2 x3 g) := by
  unfold fn_Re_ruleLine_15_70
  refine zi_aload0 (pc := 70) hX dX4_ruleLine_70 ?_
  refine zi_aload1 (pc := 71) hX dX4_ruleLine_71 ?_
  refine zi_iload2 (pc := 72) hX dX4_ruleLine_72 ?_
  refine zi_iload3 (pc := 73) hX dX4_ruleLine_73 ?_
  refine zi_callI (zc_virt (pc := 74) hX dX4_ruleLine_74 tm_964 md_X4_ruleGround mi_X4_ruleGround ly_28 (ct_Re_ruleGround_15 hX.sane x2 x3 g) rfl rfl rfl) (fun v11 g12 => ?_)
  refine zi_if_ne (pc := 77) 82 hX dX4_ruleLine_77 (by decide) (fun _ => ?_) (fun _ => ?_)
  · refine zi_iconst (pc := 80) hX dX4_ruleLine_80 ki_0 ?_
    exact zi_ret (pc := 81) hX dX4_ruleLine_81 et_z0 rfl rfl rfl
  · refine zi_aload0 (pc := 82) hX dX4_ruleLine_82 ?_
    refine zi_callU (zc_virt (pc := 83) hX dX4_ruleLine_83 tm_788 md_X4_step mi_X4_step ly_28 (ct_Re_step hX.sane g12) rfl rfl rfl) (fun g14 => ?_)
    refine zi_iincb3 (pc := 86) hX dX4_ruleLine_86 (kn_1 _) rfl rfl (fun v15 => ?_)
    refine zi_goto (pc := 89) 53 hX dX4_ruleLine_89 (by decide) ?_
    exact hr53 v15 g14
theorem zp_Re_ruleLine_15_53 {X : et_X} {w : et_W} (hX : et_Gd X w cX4_ruleLine RX4 4 (some .boolean) [] rm_Re_ruleLine_15) (x2 : Int32) : ∀ (n : Nat) (x3 : Int32) (g : et_G), et_Z X w 0 et_eI 53 [some (.ref (et_ad w 28)), some (.ref (et_ad w 15)), some (.int x2), some (.int x3)] [] g (fn_Re_ruleLine_15_53 x2 n x3 g) := by
  intro n
  induction n with
  | zero =>
    intro x3 g a g2 h
    cases h
  | succ n ih =>
    intro x3 g
    rw [fn_Re_ruleLine_15_53]
    refine zi_iload3 (pc := 53) hX dX4_ruleLine_53 ?_
    refine zi_iconst (pc := 54) hX dX4_ruleLine_54 ki_3 ?_
    refine zi_icmp_gt (pc := 55) 92 hX dX4_ruleLine_55 (by decide) (fun _ => ?_) (fun _ => ?_)
    · refine zi_drop (le_s (le_s (le_n (le_n le_nil)))) ?_; exact zp_Re_ruleLine_15_92 hX g
    · refine zi_iload3 (pc := 58) hX dX4_ruleLine_58 ?_
      refine zi_if_eq (pc := 59) 70 hX dX4_ruleLine_59 (by decide) (fun _ => ?_) (fun _ => ?_)
      · exact zp_Re_ruleLine_15_70 hX (fun z3 g => fn_Re_ruleLine_15_53 x2 n z3 g) x2 x3 (fun z3 g => ih z3 g) g
      · refine zi_aload0 (pc := 62) hX dX4_ruleLine_62 ?_
        refine zi_geti (pc := 63) hX dX4_ruleLine_63 fl_270 ly_28 rfl ?_
        refine zi_iconst (pc := 66) hX dX4_ruleLine_66 ki_2 ?_
        refine zi_icmp_ne (pc := 67) 92 hX dX4_ruleLine_67 (by decide) (fun _ => ?_) (fun _ => ?_)
        · exact zp_Re_ruleLine_15_70 hX (fun z3 g => fn_Re_ruleLine_15_53 x2 n z3 g) x2 x3 (fun z3 g => ih z3 g) g
        · refine zi_drop (le_s (le_s (le_n (le_n le_nil)))) ?_; exact zp_Re_ruleLine_15_92 hX g
theorem zw_Re_ruleLine_15 {X : et_X} {w : et_W} (hX : et_Gd X w cX4_ruleLine RX4 4 (some .boolean) [] rm_Re_ruleLine_15) (g : et_G) : et_Z X w 0 et_eI 0 [some (.ref (et_ad w 28)), some (.ref (et_ad w 15)), none, none] [] g (fn_Re_ruleLine_15 g) := by
  unfold fn_Re_ruleLine_15
  refine zi_aload1 (pc := 0) hX dX4_ruleLine_0 ?_
  refine zi_geti (pc := 1) hX dX4_ruleLine_1 fl_222 ly_15 rfl ?_
  refine zi_bi (fun v1 => ?_)
  refine zi_istore2 (pc := 4) hX dX4_ruleLine_4 rfl rfl ?_
  refine zi_iload2 (pc := 5) hX dX4_ruleLine_5 ?_
  refine zi_bipush (pc := 6) hX dX4_ruleLine_6 kb_6 ?_
  refine zi_icmp_lt (pc := 8) 17 hX dX4_ruleLine_8 (by decide) (fun _ => ?_) (fun _ => ?_)
  · refine zi_aload0 (pc := 17) hX dX4_ruleLine_17 ?_
    refine zi_aload1 (pc := 18) hX dX4_ruleLine_18 ?_
    refine zi_geti (pc := 19) hX dX4_ruleLine_19 fl_202 ly_15 rfl ?_
    refine zi_callI (zc_virt (pc := 22) hX dX4_ruleLine_22 tm_935 md_X4_oneOf mi_X4_oneOf ly_28 (ct_Re_oneOf hX.sane (g.1 15 5) g) rfl rfl rfl) (fun v2 g3 => ?_)
    refine zi_if_ne (pc := 25) 30 hX dX4_ruleLine_25 (by decide) (fun _ => ?_) (fun _ => ?_)
    · refine zi_iconst (pc := 28) hX dX4_ruleLine_28 ki_0 ?_
      exact zi_ret (pc := 29) hX dX4_ruleLine_29 et_z0 rfl rfl rfl
    · refine zi_aload1 (pc := 30) hX dX4_ruleLine_30 ?_
      refine zi_getr (q := 25) (pc := 31) hX dX4_ruleLine_31 fl_224 ly_15 rfl ?_
      refine zi_iload2 (pc := 34) hX dX4_ruleLine_34 ?_
      refine zi_aload0 (pc := 35) hX dX4_ruleLine_35 ?_
      refine zi_geti (pc := 36) hX dX4_ruleLine_36 fl_273 ly_28 rfl ?_
      refine zi_iast (pc := 39) hX dX4_ruleLine_39 ly_25 (zi_bg (fun g4 => ?_))
      refine zi_aload1 (pc := 40) hX dX4_ruleLine_40 ?_
      refine zi_getr (q := 26) (pc := 41) hX dX4_ruleLine_41 fl_227 ly_15 rfl ?_
      refine zi_iload2 (pc := 44) hX dX4_ruleLine_44 ?_
      refine zi_iconst (pc := 45) hX dX4_ruleLine_45 ki_0 ?_
      refine zi_iast (pc := 46) hX dX4_ruleLine_46 ly_26 (zi_bg (fun g5 => ?_))
      refine zi_aload0 (pc := 47) hX dX4_ruleLine_47 ?_
      refine zi_callU (zc_virt (pc := 48) hX dX4_ruleLine_48 tm_788 md_X4_step mi_X4_step ly_28 (ct_Re_step hX.sane g5) rfl rfl rfl) (fun g7 => ?_)
      refine zi_iconst (pc := 51) hX dX4_ruleLine_51 ki_0 ?_
      refine zi_istore3 (pc := 52) hX dX4_ruleLine_52 rfl rfl ?_
      exact zp_Re_ruleLine_15_53 hX v1 1000000 (0 : Int32) g7
  · refine zi_aload0 (pc := 11) hX dX4_ruleLine_11 ?_
    refine zi_iconst (pc := 12) hX dX4_ruleLine_12 ki_2 ?_
    refine zi_callI (zc_virt (pc := 13) hX dX4_ruleLine_13 tm_866 md_X4_refuse mi_X4_refuse ly_28 (ct_Re_refuse hX.sane (2 : Int32) g) rfl rfl rfl) (fun v16 g17 => ?_)
    exact zi_ret (pc := 16) hX dX4_ruleLine_16 rfl rfl rfl rfl
theorem ct_Re_ruleLine_15 {w : et_W} (hw : et_Sane w) (g : et_G) : et_C w yX4_ruleLine (Cond.code yX4_ruleLine cX4_ruleLine 4 (some .boolean)) rm_Re_ruleLine_15 et_eI [.ref (et_ad w 28), .ref (et_ad w 15)] g (fn_Re_ruleLine_15 g) := et_mk hw (by decide) rfl rfl (fun X hX => zw_Re_ruleLine_15 hX g)
def rm_Tw_thingOfStem_15 : Room := { frames := 0, cells := 0, slots := 0, locals := 0 }
def fn_Tw_thingOfStem_15_2 (x1 : Int32) : Nat → Int32 → et_G → Option (Int32 × et_G)
  | 0, _, _ => none
  | n + 1, x2, g =>
    if (g.1 15 5) ≤ x2 then
      some ((-1 : Int32), g)
    else
      et_ck (et_ib x2 8) (
      if (g.1 22 x2.toNatClampNeg) = x1 then
        some (x2, g)
      else
        et_b (x2 + (1 : Int32)) (fun v1 =>
        fn_Tw_thingOfStem_15_2 x1 n v1 g))
def fn_Tw_thingOfStem_15 (p1 : Int32) (g : et_G) : Option (Int32 × et_G) :=
  fn_Tw_thingOfStem_15_2 p1 1000000 (0 : Int32) g
theorem zp_Tw_thingOfStem_15_2 {X : et_X} {w : et_W} (hX : et_Gd X w cX6_thingOfStem RX6 3 (some .int) [] rm_Tw_thingOfStem_15) (x1 : Int32) : ∀ (n : Nat) (x2 : Int32) (g : et_G), et_Z X w 0 et_eI 2 [some (.ref (et_ad w 15)), some (.int x1), some (.int x2)] [] g (fn_Tw_thingOfStem_15_2 x1 n x2 g) := by
  intro n
  induction n with
  | zero =>
    intro x2 g a g2 h
    cases h
  | succ n ih =>
    intro x2 g
    rw [fn_Tw_thingOfStem_15_2]
    refine zi_iload2 (pc := 2) hX dX6_thingOfStem_2 ?_
    refine zi_aload0 (pc := 3) hX dX6_thingOfStem_3 ?_
    refine zi_geti (pc := 4) hX dX6_thingOfStem_4 fl_198 ly_15 rfl ?_
    refine zi_icmp_ge (pc := 7) 28 hX dX6_thingOfStem_7 (by decide) (fun _ => ?_) (fun _ => ?_)
    · refine zi_iconst (pc := 28) hX dX6_thingOfStem_28 ki_m1 ?_
      exact zi_ret (pc := 29) hX dX6_thingOfStem_29 rfl rfl rfl rfl
    · refine zi_aload0 (pc := 10) hX dX6_thingOfStem_10 ?_
      refine zi_getr (q := 22) (pc := 11) hX dX6_thingOfStem_11 fl_203 ly_15 rfl ?_
      refine zi_iload2 (pc := 14) hX dX6_thingOfStem_14 ?_
      refine zi_iald (pc := 15) hX dX6_thingOfStem_15 ly_22 ?_
      refine zi_iload1 (pc := 16) hX dX6_thingOfStem_16 ?_
      refine zi_icmp_ne (pc := 17) 22 hX dX6_thingOfStem_17 (by decide) (fun _ => ?_) (fun _ => ?_)
      · refine zi_iload2 (pc := 20) hX dX6_thingOfStem_20 ?_
        exact zi_ret (pc := 21) hX dX6_thingOfStem_21 rfl rfl rfl rfl
      · refine zi_iincb2 (pc := 22) hX dX6_thingOfStem_22 (kn_1 _) rfl rfl (fun v1 => ?_)
        refine zi_goto (pc := 25) 2 hX dX6_thingOfStem_25 (by decide) ?_
        exact ih v1 g
theorem zw_Tw_thingOfStem_15 {X : et_X} {w : et_W} (hX : et_Gd X w cX6_thingOfStem RX6 3 (some .int) [] rm_Tw_thingOfStem_15) (p1 : Int32) (g : et_G) : et_Z X w 0 et_eI 0 [some (.ref (et_ad w 15)), some (.int p1), none] [] g (fn_Tw_thingOfStem_15 p1 g) := by
  unfold fn_Tw_thingOfStem_15
  refine zi_iconst (pc := 0) hX dX6_thingOfStem_0 ki_0 ?_
  refine zi_istore2 (pc := 1) hX dX6_thingOfStem_1 rfl rfl ?_
  exact zp_Tw_thingOfStem_15_2 hX p1 1000000 (0 : Int32) g
theorem ct_Tw_thingOfStem_15 {w : et_W} (hw : et_Sane w) (p1 : Int32) (g : et_G) : et_C w yX6_thingOfStem (Cond.code yX6_thingOfStem cX6_thingOfStem 3 (some .int)) rm_Tw_thingOfStem_15 et_eI [.ref (et_ad w 15), .int p1] g (fn_Tw_thingOfStem_15 p1 g) := et_mk hw (by decide) rfl rfl (fun X hX => zw_Tw_thingOfStem_15 hX p1 g)
-- Re_is_loud
def fn_Re_is_loud (g : et_G) : Option (Int32 × et_G) := fn_Re_is 11 g
theorem ct_Re_is_loud {w : et_W} (hw : et_Sane w) (g : et_G) : et_C w yX4_is (Cond.code yX4_is cX4_is 3 (some .boolean)) rm_is et_eI [.ref (et_ad w 28), .ref (et_ad w 1011)] g (fn_Re_is_loud g) := ct_Re_is (i := 11) (by decide) hw g
-- Re_is_never
def fn_Re_is_never (g : et_G) : Option (Int32 × et_G) := fn_Re_is 12 g
theorem ct_Re_is_never {w : et_W} (hw : et_Sane w) (g : et_G) : et_C w yX4_is (Cond.code yX4_is cX4_is 3 (some .boolean)) rm_is et_eI [.ref (et_ad w 28), .ref (et_ad w 1012)] g (fn_Re_is_never g) := ct_Re_is (i := 12) (by decide) hw g
def rm_Re_thingSigns_15 : Room := { frames := 5, cells := 0, slots := 0, locals := 107 }
def fn_Re_thingSigns_15_54 (g : et_G) : Option (Int32 × et_G) :=
  et_bd (fn_Re_isSemicolon g) (fun v7 g8 =>
  some (v7 &&& 1, g8))
def fn_Re_thingSigns_15_29 (x2 : Int32) (g : et_G) : Option (Int32 × et_G) :=
  et_bd (fn_Re_is_never g) (fun v5 g6 =>
  if v5 = 0 then
    fn_Re_thingSigns_15_54 g6
  else
    et_b (et_si g6 15 10 ((g6.1 15 10) ||| ((1 : Int32) <<< (x2 &&& 31)))) (fun g9 =>
    et_bd (fn_Re_step g9) (fun _ g11 =>
    fn_Re_thingSigns_15_54 g11)))
def fn_Re_thingSigns_15 (p2 : Int32) (g : et_G) : Option (Int32 × et_G) :=
  et_bd (fn_Re_step g) (fun _ g2 =>
  et_bd (fn_Re_is_loud g2) (fun v3 g4 =>
  if v3 = 0 then
    fn_Re_thingSigns_15_29 p2 g4
  else
    et_b (et_si g4 15 9 ((g4.1 15 9) ||| ((1 : Int32) <<< (p2 &&& 31)))) (fun g12 =>
    et_bd (fn_Re_step g12) (fun _ g14 =>
    fn_Re_thingSigns_15_29 p2 g14))))
theorem zp_Re_thingSigns_15_54 {X : et_X} {w : et_W} (hX : et_Gd X w cX4_thingSigns RX4 3 (some .boolean) [] rm_Re_thingSigns_15) (g : et_G) : et_Z X w 0 et_eI 54 [some (.ref (et_ad w 28)), none, none] [] g (fn_Re_thingSigns_15_54 g) := by
  unfold fn_Re_thingSigns_15_54
  refine zi_aload0 (pc := 54) hX dX4_thingSigns_54 ?_
  refine zi_callI (zc_virt (pc := 55) hX dX4_thingSigns_55 tm_883 md_X4_isSemicolon mi_X4_isSemicolon ly_28 (ct_Re_isSemicolon hX.sane g) rfl rfl rfl) (fun v7 g8 => ?_)
  exact zi_ret (pc := 58) hX dX4_thingSigns_58 rfl rfl rfl rfl
theorem zp_Re_thingSigns_15_29 {X : et_X} {w : et_W} (hX : et_Gd X w cX4_thingSigns RX4 3 (some .boolean) [] rm_Re_thingSigns_15) (x2 : Int32) (g : et_G) : et_Z X w 0 et_eI 29 [some (.ref (et_ad w 28)), some (.ref (et_ad w 15)), some (.int x2)] [] g (fn_Re_thingSigns_15_29 x2 g) := by
  unfold fn_Re_thingSigns_15_29
  refine zi_aload0 (pc := 29) hX dX4_thingSigns_29 ?_
  refine zi_ldcs (pc := 30) hX dX4_thingSigns_30 sr_12 ?_
  refine zi_callI (zc_virt (pc := 32) hX dX4_thingSigns_32 tm_810 md_X4_is mi_X4_is ly_28 (ct_Re_is_never hX.sane g) rfl rfl rfl) (fun v5 g6 => ?_)
  refine zi_if_eq (pc := 35) 54 hX dX4_thingSigns_35 (by decide) (fun _ => ?_) (fun _ => ?_)
  · refine zi_drop (le_s (le_n (le_n le_nil))) ?_; exact zp_Re_thingSigns_15_54 hX g6
  · refine zi_aload1 (pc := 38) hX dX4_thingSigns_38 ?_
    refine zi_dup (pc := 39) hX dX4_thingSigns_39 rfl ?_
    refine zi_geti (pc := 40) hX dX4_thingSigns_40 fl_218 ly_15 rfl ?_
    refine zi_iconst (pc := 43) hX dX4_thingSigns_43 ki_1 ?_
    refine zi_iload2 (pc := 44) hX dX4_thingSigns_44 ?_
    refine zi_ishl (pc := 45) hX dX4_thingSigns_45 ?_
    refine zi_ior (pc := 46) hX dX4_thingSigns_46 ?_
    refine zi_puti (pc := 47) hX dX4_thingSigns_47 fl_218 ly_15 rfl rfl rfl (zi_bg (fun g9 => ?_))
    refine zi_aload0 (pc := 50) hX dX4_thingSigns_50 ?_
    refine zi_callU (zc_virt (pc := 51) hX dX4_thingSigns_51 tm_788 md_X4_step mi_X4_step ly_28 (ct_Re_step hX.sane g9) rfl rfl rfl) (fun g11 => ?_)
    refine zi_drop (le_s (le_n (le_n le_nil))) ?_; exact zp_Re_thingSigns_15_54 hX g11
theorem zw_Re_thingSigns_15 {X : et_X} {w : et_W} (hX : et_Gd X w cX4_thingSigns RX4 3 (some .boolean) [] rm_Re_thingSigns_15) (p2 : Int32) (g : et_G) : et_Z X w 0 et_eI 0 [some (.ref (et_ad w 28)), some (.ref (et_ad w 15)), some (.int p2)] [] g (fn_Re_thingSigns_15 p2 g) := by
  unfold fn_Re_thingSigns_15
  refine zi_aload0 (pc := 0) hX dX4_thingSigns_0 ?_
  refine zi_callU (zc_virt (pc := 1) hX dX4_thingSigns_1 tm_788 md_X4_step mi_X4_step ly_28 (ct_Re_step hX.sane g) rfl rfl rfl) (fun g2 => ?_)
  refine zi_aload0 (pc := 4) hX dX4_thingSigns_4 ?_
  refine zi_ldcs (pc := 5) hX dX4_thingSigns_5 sr_11 ?_
  refine zi_callI (zc_virt (pc := 7) hX dX4_thingSigns_7 tm_810 md_X4_is mi_X4_is ly_28 (ct_Re_is_loud hX.sane g2) rfl rfl rfl) (fun v3 g4 => ?_)
  refine zi_if_eq (pc := 10) 29 hX dX4_thingSigns_10 (by decide) (fun _ => ?_) (fun _ => ?_)
  · exact zp_Re_thingSigns_15_29 hX p2 g4
  · refine zi_aload1 (pc := 13) hX dX4_thingSigns_13 ?_
    refine zi_dup (pc := 14) hX dX4_thingSigns_14 rfl ?_
    refine zi_geti (pc := 15) hX dX4_thingSigns_15 fl_214 ly_15 rfl ?_
    refine zi_iconst (pc := 18) hX dX4_thingSigns_18 ki_1 ?_
    refine zi_iload2 (pc := 19) hX dX4_thingSigns_19 ?_
    refine zi_ishl (pc := 20) hX dX4_thingSigns_20 ?_
    refine zi_ior (pc := 21) hX dX4_thingSigns_21 ?_
    refine zi_puti (pc := 22) hX dX4_thingSigns_22 fl_214 ly_15 rfl rfl rfl (zi_bg (fun g12 => ?_))
    refine zi_aload0 (pc := 25) hX dX4_thingSigns_25 ?_
    refine zi_callU (zc_virt (pc := 26) hX dX4_thingSigns_26 tm_788 md_X4_step mi_X4_step ly_28 (ct_Re_step hX.sane g12) rfl rfl rfl) (fun g14 => ?_)
    exact zp_Re_thingSigns_15_29 hX p2 g14
theorem ct_Re_thingSigns_15 {w : et_W} (hw : et_Sane w) (p2 : Int32) (g : et_G) : et_C w yX4_thingSigns (Cond.code yX4_thingSigns cX4_thingSigns 3 (some .boolean)) rm_Re_thingSigns_15 et_eI [.ref (et_ad w 28), .ref (et_ad w 15), .int p2] g (fn_Re_thingSigns_15 p2 g) := et_mk hw (by decide) rfl rfl (fun X hX => zw_Re_thingSigns_15 hX p2 g)
def rm_Re_thingLine_15 : Room := { frames := 6, cells := 0, slots := 0, locals := 129 }
def fn_Re_thingLine_15 (g : et_G) : Option (Int32 × et_G) :=
  et_b (et_si g 28 8 (1 : Int32)) (fun g1 =>
  et_b (g1.1 15 5) (fun v2 =>
  if v2 < (8 : Int32) then
    et_bd (fn_Re_oneOf (g1.1 16 2) g1) (fun v3 g4 =>
    if v3 = 0 then
      some ((0 : Int32), g4)
    else
      et_bd (fn_Tw_thingOfStem_15 (g4.1 28 6) g4) (fun v5 g6 =>
      if v5 = (-1 : Int32) then
        et_ck (et_ib v2 8) (et_b (et_si g6 22 v2.toNatClampNeg (g6.1 28 6)) (fun g7 =>
        et_bd (fn_Re_oneOf (g7.1 15 1) g7) (fun v8 g9 =>
        if v8 = 0 then
          some ((0 : Int32), g9)
        else
          et_ck (et_ib v2 8) (et_b (et_si g9 23 v2.toNatClampNeg (g9.1 28 6)) (fun g10 =>
          et_bd (fn_Re_number (23 : Int32) g10) (fun v11 g12 =>
          if v11 = 0 then
            some ((0 : Int32), g12)
          else
            et_ck (et_ib v2 8) (et_b (et_si g12 24 v2.toNatClampNeg (g12.1 28 6)) (fun g13 =>
            et_b (et_si g13 15 5 ((g13.1 15 5) + (1 : Int32))) (fun g14 =>
            et_bd (fn_Re_thingSigns_15 v2 g14) (fun v15 g16 =>
            some (v15 &&& 1, g16)))))))))))
      else
        et_bd (fn_Re_refuse (4 : Int32) g6) (fun v17 g18 =>
        some (v17 &&& 1, g18))))
  else
    et_bd (fn_Re_refuse (2 : Int32) g1) (fun v19 g20 =>
    some (v19 &&& 1, g20))))
theorem zw_Re_thingLine_15 {X : et_X} {w : et_W} (hX : et_Gd X w cX4_thingLine RX4 3 (some .boolean) [] rm_Re_thingLine_15) (g : et_G) : et_Z X w 0 et_eI 0 [some (.ref (et_ad w 28)), some (.ref (et_ad w 15)), none] [] g (fn_Re_thingLine_15 g) := by
  unfold fn_Re_thingLine_15
  refine zi_aload0 (pc := 0) hX dX4_thingLine_0 ?_
  refine zi_iconst (pc := 1) hX dX4_thingLine_1 ki_1 ?_
  refine zi_puti (pc := 2) hX dX4_thingLine_2 fl_275 ly_28 rfl et_z1 et_f1 (zi_bg (fun g1 => ?_))
  refine zi_aload1 (pc := 5) hX dX4_thingLine_5 ?_
  refine zi_geti (pc := 6) hX dX4_thingLine_6 fl_202 ly_15 rfl ?_
  refine zi_bi (fun v2 => ?_)
  refine zi_istore2 (pc := 9) hX dX4_thingLine_9 rfl rfl ?_
  refine zi_iload2 (pc := 10) hX dX4_thingLine_10 ?_
  refine zi_bipush (pc := 11) hX dX4_thingLine_11 kb_8 ?_
  refine zi_icmp_lt (pc := 13) 22 hX dX4_thingLine_13 (by decide) (fun _ => ?_) (fun _ => ?_)
  · refine zi_aload0 (pc := 22) hX dX4_thingLine_22 ?_
    refine zi_aload1 (pc := 23) hX dX4_thingLine_23 ?_
    refine zi_getr (q := 16) (pc := 24) hX dX4_thingLine_24 fl_185 ly_15 rfl ?_
    refine zi_geti (pc := 27) hX dX4_thingLine_27 fl_161 ly_16 rfl ?_
    refine zi_callI (zc_virt (pc := 30) hX dX4_thingLine_30 tm_935 md_X4_oneOf mi_X4_oneOf ly_28 (ct_Re_oneOf hX.sane (g1.1 16 2) g1) rfl rfl rfl) (fun v3 g4 => ?_)
    refine zi_if_ne (pc := 33) 38 hX dX4_thingLine_33 (by decide) (fun _ => ?_) (fun _ => ?_)
    · refine zi_iconst (pc := 36) hX dX4_thingLine_36 ki_0 ?_
      exact zi_ret (pc := 37) hX dX4_thingLine_37 et_z0 rfl rfl rfl
    · refine zi_aload1 (pc := 38) hX dX4_thingLine_38 ?_
      refine zi_aload0 (pc := 39) hX dX4_thingLine_39 ?_
      refine zi_geti (pc := 40) hX dX4_thingLine_40 fl_273 ly_28 rfl ?_
      refine zi_callI (zc_virt (pc := 43) hX dX4_thingLine_43 tm_949 md_X6_thingOfStem mi_X6_thingOfStem ly_15 (ct_Tw_thingOfStem_15 hX.sane (g4.1 28 6) g4) rfl rfl rfl) (fun v5 g6 => ?_)
      refine zi_iconst (pc := 46) hX dX4_thingLine_46 ki_m1 ?_
      refine zi_icmp_eq (pc := 47) 56 hX dX4_thingLine_47 (by decide) (fun _ => ?_) (fun _ => ?_)
      · refine zi_aload1 (pc := 56) hX dX4_thingLine_56 ?_
        refine zi_getr (q := 22) (pc := 57) hX dX4_thingLine_57 fl_205 ly_15 rfl ?_
        refine zi_iload2 (pc := 60) hX dX4_thingLine_60 ?_
        refine zi_aload0 (pc := 61) hX dX4_thingLine_61 ?_
        refine zi_geti (pc := 62) hX dX4_thingLine_62 fl_273 ly_28 rfl ?_
        refine zi_iast (pc := 65) hX dX4_thingLine_65 ly_22 (zi_bg (fun g7 => ?_))
        refine zi_aload0 (pc := 66) hX dX4_thingLine_66 ?_
        refine zi_aload1 (pc := 67) hX dX4_thingLine_67 ?_
        refine zi_geti (pc := 68) hX dX4_thingLine_68 fl_189 ly_15 rfl ?_
        refine zi_callI (zc_virt (pc := 71) hX dX4_thingLine_71 tm_935 md_X4_oneOf mi_X4_oneOf ly_28 (ct_Re_oneOf hX.sane (g7.1 15 1) g7) rfl rfl rfl) (fun v8 g9 => ?_)
        refine zi_if_ne (pc := 74) 79 hX dX4_thingLine_74 (by decide) (fun _ => ?_) (fun _ => ?_)
        · refine zi_iconst (pc := 77) hX dX4_thingLine_77 ki_0 ?_
          exact zi_ret (pc := 78) hX dX4_thingLine_78 et_z0 rfl rfl rfl
        · refine zi_aload1 (pc := 79) hX dX4_thingLine_79 ?_
          refine zi_getr (q := 23) (pc := 80) hX dX4_thingLine_80 fl_208 ly_15 rfl ?_
          refine zi_iload2 (pc := 83) hX dX4_thingLine_83 ?_
          refine zi_aload0 (pc := 84) hX dX4_thingLine_84 ?_
          refine zi_geti (pc := 85) hX dX4_thingLine_85 fl_273 ly_28 rfl ?_
          refine zi_iast (pc := 88) hX dX4_thingLine_88 ly_23 (zi_bg (fun g10 => ?_))
          refine zi_aload0 (pc := 89) hX dX4_thingLine_89 ?_
          refine zi_bipush (pc := 90) hX dX4_thingLine_90 kb_23 ?_
          refine zi_callI (zc_virt (pc := 92) hX dX4_thingLine_92 tm_892 md_X4_number mi_X4_number ly_28 (ct_Re_number hX.sane (23 : Int32) g10) rfl rfl rfl) (fun v11 g12 => ?_)
          refine zi_if_ne (pc := 95) 100 hX dX4_thingLine_95 (by decide) (fun _ => ?_) (fun _ => ?_)
          · refine zi_iconst (pc := 98) hX dX4_thingLine_98 ki_0 ?_
            exact zi_ret (pc := 99) hX dX4_thingLine_99 et_z0 rfl rfl rfl
          · refine zi_aload1 (pc := 100) hX dX4_thingLine_100 ?_
            refine zi_getr (q := 24) (pc := 101) hX dX4_thingLine_101 fl_211 ly_15 rfl ?_
            refine zi_iload2 (pc := 104) hX dX4_thingLine_104 ?_
            refine zi_aload0 (pc := 105) hX dX4_thingLine_105 ?_
            refine zi_geti (pc := 106) hX dX4_thingLine_106 fl_273 ly_28 rfl ?_
            refine zi_iast (pc := 109) hX dX4_thingLine_109 ly_24 (zi_bg (fun g13 => ?_))
            refine zi_aload1 (pc := 110) hX dX4_thingLine_110 ?_
            refine zi_dup (pc := 111) hX dX4_thingLine_111 rfl ?_
            refine zi_geti (pc := 112) hX dX4_thingLine_112 fl_202 ly_15 rfl ?_
            refine zi_iconst (pc := 115) hX dX4_thingLine_115 ki_1 ?_
            refine zi_iadd (pc := 116) hX dX4_thingLine_116 ?_
            refine zi_puti (pc := 117) hX dX4_thingLine_117 fl_202 ly_15 rfl rfl rfl (zi_bg (fun g14 => ?_))
            refine zi_aload0 (pc := 120) hX dX4_thingLine_120 ?_
            refine zi_aload1 (pc := 121) hX dX4_thingLine_121 ?_
            refine zi_iload2 (pc := 122) hX dX4_thingLine_122 ?_
            refine zi_callI (zc_virt (pc := 123) hX dX4_thingLine_123 tm_953 md_X4_thingSigns mi_X4_thingSigns ly_28 (ct_Re_thingSigns_15 hX.sane v2 g14) rfl rfl rfl) (fun v15 g16 => ?_)
            exact zi_ret (pc := 126) hX dX4_thingLine_126 rfl rfl rfl rfl
      · refine zi_aload0 (pc := 50) hX dX4_thingLine_50 ?_
        refine zi_iconst (pc := 51) hX dX4_thingLine_51 ki_4 ?_
        refine zi_callI (zc_virt (pc := 52) hX dX4_thingLine_52 tm_866 md_X4_refuse mi_X4_refuse ly_28 (ct_Re_refuse hX.sane (4 : Int32) g6) rfl rfl rfl) (fun v17 g18 => ?_)
        exact zi_ret (pc := 55) hX dX4_thingLine_55 rfl rfl rfl rfl
  · refine zi_aload0 (pc := 16) hX dX4_thingLine_16 ?_
    refine zi_iconst (pc := 17) hX dX4_thingLine_17 ki_2 ?_
    refine zi_callI (zc_virt (pc := 18) hX dX4_thingLine_18 tm_866 md_X4_refuse mi_X4_refuse ly_28 (ct_Re_refuse hX.sane (2 : Int32) g1) rfl rfl rfl) (fun v19 g20 => ?_)
    exact zi_ret (pc := 21) hX dX4_thingLine_21 rfl rfl rfl rfl
theorem ct_Re_thingLine_15 {w : et_W} (hw : et_Sane w) (g : et_G) : et_C w yX4_thingLine (Cond.code yX4_thingLine cX4_thingLine 3 (some .boolean)) rm_Re_thingLine_15 et_eI [.ref (et_ad w 28), .ref (et_ad w 15)] g (fn_Re_thingLine_15 g) := et_mk hw (by decide) rfl rfl (fun X hX => zw_Re_thingLine_15 hX g)
def rm_Re_personLine_15 : Room := { frames := 4, cells := 0, slots := 0, locals := 80 }
def fn_Re_personLine_15 (g : et_G) : Option (Int32 × et_G) :=
  if (g.1 15 3) < (6 : Int32) then
    et_b (et_si g 15 3 ((g.1 15 3) + (1 : Int32))) (fun g1 =>
    et_bd (fn_Re_semicolon g1) (fun v2 g3 =>
    some (v2 &&& 1, g3)))
  else
    et_bd (fn_Re_refuse (2 : Int32) g) (fun v4 g5 =>
    some (v4 &&& 1, g5))
theorem zw_Re_personLine_15 {X : et_X} {w : et_W} (hX : et_Gd X w cX4_personLine RX4 2 (some .boolean) [] rm_Re_personLine_15) (g : et_G) : et_Z X w 0 et_eI 0 [some (.ref (et_ad w 28)), some (.ref (et_ad w 15))] [] g (fn_Re_personLine_15 g) := by
  unfold fn_Re_personLine_15
  refine zi_aload1 (pc := 0) hX dX4_personLine_0 ?_
  refine zi_geti (pc := 1) hX dX4_personLine_1 fl_194 ly_15 rfl ?_
  refine zi_bipush (pc := 4) hX dX4_personLine_4 kb_6 ?_
  refine zi_icmp_lt (pc := 6) 15 hX dX4_personLine_6 (by decide) (fun _ => ?_) (fun _ => ?_)
  · refine zi_aload1 (pc := 15) hX dX4_personLine_15 ?_
    refine zi_dup (pc := 16) hX dX4_personLine_16 rfl ?_
    refine zi_geti (pc := 17) hX dX4_personLine_17 fl_194 ly_15 rfl ?_
    refine zi_iconst (pc := 20) hX dX4_personLine_20 ki_1 ?_
    refine zi_iadd (pc := 21) hX dX4_personLine_21 ?_
    refine zi_puti (pc := 22) hX dX4_personLine_22 fl_194 ly_15 rfl rfl rfl (zi_bg (fun g1 => ?_))
    refine zi_aload0 (pc := 25) hX dX4_personLine_25 ?_
    refine zi_callI (zc_virt (pc := 26) hX dX4_personLine_26 tm_879 md_X4_semicolon mi_X4_semicolon ly_28 (ct_Re_semicolon hX.sane g1) rfl rfl rfl) (fun v2 g3 => ?_)
    exact zi_ret (pc := 29) hX dX4_personLine_29 rfl rfl rfl rfl
  · refine zi_aload0 (pc := 9) hX dX4_personLine_9 ?_
    refine zi_iconst (pc := 10) hX dX4_personLine_10 ki_2 ?_
    refine zi_callI (zc_virt (pc := 11) hX dX4_personLine_11 tm_866 md_X4_refuse mi_X4_refuse ly_28 (ct_Re_refuse hX.sane (2 : Int32) g) rfl rfl rfl) (fun v4 g5 => ?_)
    exact zi_ret (pc := 14) hX dX4_personLine_14 rfl rfl rfl rfl
theorem ct_Re_personLine_15 {w : et_W} (hw : et_Sane w) (g : et_G) : et_C w yX4_personLine (Cond.code yX4_personLine cX4_personLine 2 (some .boolean)) rm_Re_personLine_15 et_eI [.ref (et_ad w 28), .ref (et_ad w 15)] g (fn_Re_personLine_15 g) := et_mk hw (by decide) rfl rfl (fun X hX => zw_Re_personLine_15 hX g)
def rm_Re_nearLine_15 : Room := { frames := 4, cells := 0, slots := 0, locals := 81 }
def fn_Re_nearLine_15 (g : et_G) : Option (Int32 × et_G) :=
  et_b (et_si g 28 8 (1 : Int32)) (fun g1 =>
  et_bd (fn_Re_oneOf (g1.1 15 1) g1) (fun v2 g3 =>
  if v2 = 0 then
    some ((0 : Int32), g3)
  else
    et_b (g3.1 28 6) (fun v4 =>
    et_bd (fn_Re_oneOf (g3.1 15 1) g3) (fun v5 g6 =>
    if v5 = 0 then
      some ((0 : Int32), g6)
    else
      if (g6.1 28 6) = v4 then
        et_bd (fn_Re_refuse (4 : Int32) g6) (fun v11 g12 =>
        some (v11 &&& 1, g12))
      else
        et_ck (et_ib v4 6) (
        et_ck (et_ib v4 6) (et_b (et_si g6 20 v4.toNatClampNeg ((g6.1 20 v4.toNatClampNeg) ||| ((1 : Int32) <<< ((g6.1 28 6) &&& 31)))) (fun g7 =>
        et_ck (et_ib (g7.1 28 6) 6) (
        et_ck (et_ib (g7.1 28 6) 6) (et_b (et_si g7 20 (g7.1 28 6).toNatClampNeg ((g7.1 20 (g7.1 28 6).toNatClampNeg) ||| ((1 : Int32) <<< (v4 &&& 31)))) (fun g8 =>
        et_bd (fn_Re_semicolon g8) (fun v9 g10 =>
        some (v9 &&& 1, g10))))))))))))
theorem zw_Re_nearLine_15 {X : et_X} {w : et_W} (hX : et_Gd X w cX4_nearLine RX4 3 (some .boolean) [] rm_Re_nearLine_15) (g : et_G) : et_Z X w 0 et_eI 0 [some (.ref (et_ad w 28)), some (.ref (et_ad w 15)), none] [] g (fn_Re_nearLine_15 g) := by
  unfold fn_Re_nearLine_15
  refine zi_aload0 (pc := 0) hX dX4_nearLine_0 ?_
  refine zi_iconst (pc := 1) hX dX4_nearLine_1 ki_1 ?_
  refine zi_puti (pc := 2) hX dX4_nearLine_2 fl_275 ly_28 rfl et_z1 et_f1 (zi_bg (fun g1 => ?_))
  refine zi_aload0 (pc := 5) hX dX4_nearLine_5 ?_
  refine zi_aload1 (pc := 6) hX dX4_nearLine_6 ?_
  refine zi_geti (pc := 7) hX dX4_nearLine_7 fl_189 ly_15 rfl ?_
  refine zi_callI (zc_virt (pc := 10) hX dX4_nearLine_10 tm_935 md_X4_oneOf mi_X4_oneOf ly_28 (ct_Re_oneOf hX.sane (g1.1 15 1) g1) rfl rfl rfl) (fun v2 g3 => ?_)
  refine zi_if_ne (pc := 13) 18 hX dX4_nearLine_13 (by decide) (fun _ => ?_) (fun _ => ?_)
  · refine zi_iconst (pc := 16) hX dX4_nearLine_16 ki_0 ?_
    exact zi_ret (pc := 17) hX dX4_nearLine_17 et_z0 rfl rfl rfl
  · refine zi_aload0 (pc := 18) hX dX4_nearLine_18 ?_
    refine zi_geti (pc := 19) hX dX4_nearLine_19 fl_273 ly_28 rfl ?_
    refine zi_bi (fun v4 => ?_)
    refine zi_istore2 (pc := 22) hX dX4_nearLine_22 rfl rfl ?_
    refine zi_aload0 (pc := 23) hX dX4_nearLine_23 ?_
    refine zi_aload1 (pc := 24) hX dX4_nearLine_24 ?_
    refine zi_geti (pc := 25) hX dX4_nearLine_25 fl_189 ly_15 rfl ?_
    refine zi_callI (zc_virt (pc := 28) hX dX4_nearLine_28 tm_935 md_X4_oneOf mi_X4_oneOf ly_28 (ct_Re_oneOf hX.sane (g3.1 15 1) g3) rfl rfl rfl) (fun v5 g6 => ?_)
    refine zi_if_ne (pc := 31) 36 hX dX4_nearLine_31 (by decide) (fun _ => ?_) (fun _ => ?_)
    · refine zi_iconst (pc := 34) hX dX4_nearLine_34 ki_0 ?_
      exact zi_ret (pc := 35) hX dX4_nearLine_35 et_z0 rfl rfl rfl
    · refine zi_aload0 (pc := 36) hX dX4_nearLine_36 ?_
      refine zi_geti (pc := 37) hX dX4_nearLine_37 fl_273 ly_28 rfl ?_
      refine zi_iload2 (pc := 40) hX dX4_nearLine_40 ?_
      refine zi_icmp_ne (pc := 41) 50 hX dX4_nearLine_41 (by decide) (fun _ => ?_) (fun _ => ?_)
      · refine zi_aload0 (pc := 44) hX dX4_nearLine_44 ?_
        refine zi_iconst (pc := 45) hX dX4_nearLine_45 ki_4 ?_
        refine zi_callI (zc_virt (pc := 46) hX dX4_nearLine_46 tm_866 md_X4_refuse mi_X4_refuse ly_28 (ct_Re_refuse hX.sane (4 : Int32) g6) rfl rfl rfl) (fun v11 g12 => ?_)
        exact zi_ret (pc := 49) hX dX4_nearLine_49 rfl rfl rfl rfl
      · refine zi_aload1 (pc := 50) hX dX4_nearLine_50 ?_
        refine zi_getr (q := 20) (pc := 51) hX dX4_nearLine_51 fl_191 ly_15 rfl ?_
        refine zi_iload2 (pc := 54) hX dX4_nearLine_54 ?_
        refine zi_dup2 (pc := 55) hX dX4_nearLine_55 rfl rfl ?_
        refine zi_iald (pc := 56) hX dX4_nearLine_56 ly_20 ?_
        refine zi_iconst (pc := 57) hX dX4_nearLine_57 ki_1 ?_
        refine zi_aload0 (pc := 58) hX dX4_nearLine_58 ?_
        refine zi_geti (pc := 59) hX dX4_nearLine_59 fl_273 ly_28 rfl ?_
        refine zi_ishl (pc := 62) hX dX4_nearLine_62 ?_
        refine zi_ior (pc := 63) hX dX4_nearLine_63 ?_
        refine zi_iast (pc := 64) hX dX4_nearLine_64 ly_20 (zi_bg (fun g7 => ?_))
        refine zi_aload1 (pc := 65) hX dX4_nearLine_65 ?_
        refine zi_getr (q := 20) (pc := 66) hX dX4_nearLine_66 fl_191 ly_15 rfl ?_
        refine zi_aload0 (pc := 69) hX dX4_nearLine_69 ?_
        refine zi_geti (pc := 70) hX dX4_nearLine_70 fl_273 ly_28 rfl ?_
        refine zi_dup2 (pc := 73) hX dX4_nearLine_73 rfl rfl ?_
        refine zi_iald (pc := 74) hX dX4_nearLine_74 ly_20 ?_
        refine zi_iconst (pc := 75) hX dX4_nearLine_75 ki_1 ?_
        refine zi_iload2 (pc := 76) hX dX4_nearLine_76 ?_
        refine zi_ishl (pc := 77) hX dX4_nearLine_77 ?_
        refine zi_ior (pc := 78) hX dX4_nearLine_78 ?_
        refine zi_iast (pc := 79) hX dX4_nearLine_79 ly_20 (zi_bg (fun g8 => ?_))
        refine zi_aload0 (pc := 80) hX dX4_nearLine_80 ?_
        refine zi_callI (zc_virt (pc := 81) hX dX4_nearLine_81 tm_879 md_X4_semicolon mi_X4_semicolon ly_28 (ct_Re_semicolon hX.sane g8) rfl rfl rfl) (fun v9 g10 => ?_)
        exact zi_ret (pc := 84) hX dX4_nearLine_84 rfl rfl rfl rfl
theorem ct_Re_nearLine_15 {w : et_W} (hw : et_Sane w) (g : et_G) : et_C w yX4_nearLine (Cond.code yX4_nearLine cX4_nearLine 3 (some .boolean)) rm_Re_nearLine_15 et_eI [.ref (et_ad w 28), .ref (et_ad w 15)] g (fn_Re_nearLine_15 g) := et_mk hw (by decide) rfl rfl (fun X hX => zw_Re_nearLine_15 hX g)
def rm_Re_placesLine_15 : Room := { frames := 4, cells := 0, slots := 0, locals := 81 }
def fn_Re_placesLine_15 (g : et_G) : Option (Int32 × et_G) :=
  if (g.1 28 7) = 0 then
    if (g.1 28 8) = 0 then
      et_b (et_si g 28 7 (1 : Int32)) (fun g1 =>
      et_bd (fn_Re_number (6 : Int32) g1) (fun v2 g3 =>
      if v2 = 0 then
        some ((0 : Int32), g3)
      else
        if (1 : Int32) ≤ (g3.1 28 6) then
          et_b (et_si g3 15 1 (g3.1 28 6)) (fun g4 =>
          et_bd (fn_Re_semicolon g4) (fun v5 g6 =>
          some (v5 &&& 1, g6)))
        else
          et_bd (fn_Re_refuse (2 : Int32) g3) (fun v7 g8 =>
          some (v7 &&& 1, g8))))
    else
      et_bd (fn_Re_refuse (5 : Int32) g) (fun v9 g10 =>
      some (v9 &&& 1, g10))
  else
    et_bd (fn_Re_refuse (4 : Int32) g) (fun v11 g12 =>
    some (v11 &&& 1, g12))
theorem zw_Re_placesLine_15 {X : et_X} {w : et_W} (hX : et_Gd X w cX4_placesLine RX4 2 (some .boolean) [] rm_Re_placesLine_15) (g : et_G) : et_Z X w 0 et_eI 0 [some (.ref (et_ad w 28)), some (.ref (et_ad w 15))] [] g (fn_Re_placesLine_15 g) := by
  unfold fn_Re_placesLine_15
  refine zi_aload0 (pc := 0) hX dX4_placesLine_0 ?_
  refine zi_geti (pc := 1) hX dX4_placesLine_1 fl_274 ly_28 rfl ?_
  refine zi_if_eq (pc := 4) 13 hX dX4_placesLine_4 (by decide) (fun _ => ?_) (fun _ => ?_)
  · refine zi_aload0 (pc := 13) hX dX4_placesLine_13 ?_
    refine zi_geti (pc := 14) hX dX4_placesLine_14 fl_275 ly_28 rfl ?_
    refine zi_if_eq (pc := 17) 26 hX dX4_placesLine_17 (by decide) (fun _ => ?_) (fun _ => ?_)
    · refine zi_aload0 (pc := 26) hX dX4_placesLine_26 ?_
      refine zi_iconst (pc := 27) hX dX4_placesLine_27 ki_1 ?_
      refine zi_puti (pc := 28) hX dX4_placesLine_28 fl_274 ly_28 rfl et_z1 et_f1 (zi_bg (fun g1 => ?_))
      refine zi_aload0 (pc := 31) hX dX4_placesLine_31 ?_
      refine zi_bipush (pc := 32) hX dX4_placesLine_32 kb_6 ?_
      refine zi_callI (zc_virt (pc := 34) hX dX4_placesLine_34 tm_892 md_X4_number mi_X4_number ly_28 (ct_Re_number hX.sane (6 : Int32) g1) rfl rfl rfl) (fun v2 g3 => ?_)
      refine zi_if_ne (pc := 37) 42 hX dX4_placesLine_37 (by decide) (fun _ => ?_) (fun _ => ?_)
      · refine zi_iconst (pc := 40) hX dX4_placesLine_40 ki_0 ?_
        exact zi_ret (pc := 41) hX dX4_placesLine_41 et_z0 rfl rfl rfl
      · refine zi_aload0 (pc := 42) hX dX4_placesLine_42 ?_
        refine zi_geti (pc := 43) hX dX4_placesLine_43 fl_273 ly_28 rfl ?_
        refine zi_iconst (pc := 46) hX dX4_placesLine_46 ki_1 ?_
        refine zi_icmp_ge (pc := 47) 56 hX dX4_placesLine_47 (by decide) (fun _ => ?_) (fun _ => ?_)
        · refine zi_aload1 (pc := 56) hX dX4_placesLine_56 ?_
          refine zi_aload0 (pc := 57) hX dX4_placesLine_57 ?_
          refine zi_geti (pc := 58) hX dX4_placesLine_58 fl_273 ly_28 rfl ?_
          refine zi_puti (pc := 61) hX dX4_placesLine_61 fl_189 ly_15 rfl rfl rfl (zi_bg (fun g4 => ?_))
          refine zi_aload0 (pc := 64) hX dX4_placesLine_64 ?_
          refine zi_callI (zc_virt (pc := 65) hX dX4_placesLine_65 tm_879 md_X4_semicolon mi_X4_semicolon ly_28 (ct_Re_semicolon hX.sane g4) rfl rfl rfl) (fun v5 g6 => ?_)
          exact zi_ret (pc := 68) hX dX4_placesLine_68 rfl rfl rfl rfl
        · refine zi_aload0 (pc := 50) hX dX4_placesLine_50 ?_
          refine zi_iconst (pc := 51) hX dX4_placesLine_51 ki_2 ?_
          refine zi_callI (zc_virt (pc := 52) hX dX4_placesLine_52 tm_866 md_X4_refuse mi_X4_refuse ly_28 (ct_Re_refuse hX.sane (2 : Int32) g3) rfl rfl rfl) (fun v7 g8 => ?_)
          exact zi_ret (pc := 55) hX dX4_placesLine_55 rfl rfl rfl rfl
    · refine zi_aload0 (pc := 20) hX dX4_placesLine_20 ?_
      refine zi_iconst (pc := 21) hX dX4_placesLine_21 ki_5 ?_
      refine zi_callI (zc_virt (pc := 22) hX dX4_placesLine_22 tm_866 md_X4_refuse mi_X4_refuse ly_28 (ct_Re_refuse hX.sane (5 : Int32) g) rfl rfl rfl) (fun v9 g10 => ?_)
      exact zi_ret (pc := 25) hX dX4_placesLine_25 rfl rfl rfl rfl
  · refine zi_aload0 (pc := 7) hX dX4_placesLine_7 ?_
    refine zi_iconst (pc := 8) hX dX4_placesLine_8 ki_4 ?_
    refine zi_callI (zc_virt (pc := 9) hX dX4_placesLine_9 tm_866 md_X4_refuse mi_X4_refuse ly_28 (ct_Re_refuse hX.sane (4 : Int32) g) rfl rfl rfl) (fun v11 g12 => ?_)
    exact zi_ret (pc := 12) hX dX4_placesLine_12 rfl rfl rfl rfl
theorem ct_Re_placesLine_15 {w : et_W} (hw : et_Sane w) (g : et_G) : et_C w yX4_placesLine (Cond.code yX4_placesLine cX4_placesLine 2 (some .boolean)) rm_Re_placesLine_15 et_eI [.ref (et_ad w 28), .ref (et_ad w 15)] g (fn_Re_placesLine_15 g) := et_mk hw (by decide) rfl rfl (fun X hX => zw_Re_placesLine_15 hX g)
def rm_To_hasNot_16 : Room := { frames := 0, cells := 0, slots := 0, locals := 0 }
def fn_To_hasNot_16 (g : et_G) : Option (Int32 × et_G) :=
  et_ck (et_ib (45 : Int32) 46) (
  if (g.1 18 (45 : Int32).toNatClampNeg) ≤ 0 then
    some ((0 : Int32), g)
  else
    some ((1 : Int32), g))
theorem zw_To_hasNot_16 {X : et_X} {w : et_W} (hX : et_Gd X w cX5_hasNot RX5 1 (some .boolean) [] rm_To_hasNot_16) (g : et_G) : et_Z X w 0 et_eI 0 [some (.ref (et_ad w 16))] [] g (fn_To_hasNot_16 g) := by
  unfold fn_To_hasNot_16
  refine zi_aload0 (pc := 0) hX dX5_hasNot_0 ?_
  refine zi_getr (q := 18) (pc := 1) hX dX5_hasNot_1 fl_157 ly_16 rfl ?_
  refine zi_bipush (pc := 4) hX dX5_hasNot_4 kb_45 ?_
  refine zi_iald (pc := 6) hX dX5_hasNot_6 ly_18 ?_
  refine zi_if_le (pc := 7) 14 hX dX5_hasNot_7 (by decide) (fun _ => ?_) (fun _ => ?_)
  · refine zi_iconst (pc := 14) hX dX5_hasNot_14 ki_0 ?_
    exact zi_ret (pc := 15) hX dX5_hasNot_15 et_z0 rfl rfl rfl
  · refine zi_iconst (pc := 10) hX dX5_hasNot_10 ki_1 ?_
    refine zi_goto (pc := 11) 15 hX dX5_hasNot_11 (by decide) ?_
    exact zi_ret (pc := 15) hX dX5_hasNot_15 et_z1 rfl rfl rfl
theorem ct_To_hasNot_16 {w : et_W} (hw : et_Sane w) (g : et_G) : et_C w yX5_hasNot (Cond.code yX5_hasNot cX5_hasNot 1 (some .boolean)) rm_To_hasNot_16 et_eI [.ref (et_ad w 16)] g (fn_To_hasNot_16 g) := et_mk hw (by decide) rfl rfl (fun X hX => zw_To_hasNot_16 hX g)
