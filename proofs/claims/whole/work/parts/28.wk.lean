def rm_Mo_holding : Room := { frames := 5, cells := 0, slots := 0, locals := 125 }
def fn_Mo_holding_165 (x1 : Int32) : Nat → Int32 → Int32 → et_G → Option (Int32 × et_G)
  | 0, _, _, _ => none
  | n + 1, x3, x4, g =>
    if (g.1 61 50) ≤ x4 then
      some (x3, g)
    else
      if ((x1 >>> (x4 &&& 31)) &&& (1 : Int32)) = (1 : Int32) then
        et_ck (et_ib x4 20) (
        et_bd (fn_Mo_of x4 (2 : Int32) g) (fun v4 g5 =>
        et_bd (fn_Mo_of x4 (4 : Int32) g5) (fun v6 g7 =>
        et_bd (fn_Mo_of x4 (3 : Int32) g7) (fun v8 g9 =>
        et_bd (fn_Mo_byHow (g.1 90 x4.toNatClampNeg) v4 v6 v8 g9) (fun v10 g11 =>
        if (1000 : Int32) ≤ v10 then
          et_b (x4 + (1 : Int32)) (fun v12 =>
          fn_Mo_holding_165 x1 n x3 v12 g11)
        else
          et_b (x3 ||| ((1 : Int32) <<< (x4 &&& 31))) (fun v13 =>
          et_b (x4 + (1 : Int32)) (fun v14 =>
          fn_Mo_holding_165 x1 n v13 v14 g11)))))))
      else
        et_b (x4 + (1 : Int32)) (fun v3 =>
        fn_Mo_holding_165 x1 n x3 v3 g)
def fn_Mo_holding_86 (r78 : Int32 → et_G → Option (Int32 × et_G)) (x1 : Int32) : Nat → Int32 → Int32 → et_G → Option (Int32 × et_G)
  | 0, _, _, _ => none
  | n + 1, x2, x3, g =>
    if ((8 : Int32) * (g.1 61 59)) ≤ x3 then
      r78 x2 g
    else
      et_ck (et_ib x3 168) (
      if (g.1 91 x3.toNatClampNeg) < (1000 : Int32) then
        et_b (x3 + (1 : Int32)) (fun v15 =>
        fn_Mo_holding_86 r78 x1 n x2 v15 g)
      else
        if (g.1 61 5) ≤ (x3 - x3 / (8 : Int32) * (8 : Int32)) then
          et_b (x3 + (1 : Int32)) (fun v16 =>
          fn_Mo_holding_86 r78 x1 n x2 v16 g)
        else
          et_bd (fn_Mo_least (x3 / (8 : Int32)) (x3 - x3 / (8 : Int32) * (8 : Int32)) (0 : Int32) g) (fun v17 g18 =>
          if v17 < (1000 : Int32) then
            et_ck (et_ib x3 168) (et_b (et_si g18 91 x3.toNatClampNeg (1 : Int32)) (fun g19 =>
            et_b (x3 + (1 : Int32)) (fun v20 =>
            fn_Mo_holding_86 r78 x1 n (1 : Int32) v20 g19)))
          else
            et_b (x3 + (1 : Int32)) (fun v21 =>
            fn_Mo_holding_86 r78 x1 n x2 v21 g18)))
def fn_Mo_holding_78 (x1 : Int32) : Nat → Int32 → et_G → Option (Int32 × et_G)
  | 0, _, _ => none
  | n + 1, x2, g =>
    if x2 = 0 then
      fn_Mo_holding_165 x1 1000000 (0 : Int32) (0 : Int32) g
    else
      fn_Mo_holding_86 (fun z2 g => fn_Mo_holding_78 x1 n z2 g) x1 1000000 (0 : Int32) (0 : Int32) g
def fn_Mo_holding_50 (x1 : Int32) : Nat → Int32 → et_G → Option (Int32 × et_G)
  | 0, _, _ => none
  | n + 1, x2, g =>
    if ((8 : Int32) * (g.1 61 59)) ≤ x2 then
      fn_Mo_holding_78 x1 1000000 (1 : Int32) g
    else
      et_ck (et_ib x2 168) (et_b (et_si g 91 x2.toNatClampNeg (1000 : Int32)) (fun g22 =>
      et_b (x2 + (1 : Int32)) (fun v23 =>
      fn_Mo_holding_50 x1 n v23 g22)))
def fn_Mo_holding_12 (x1 : Int32) : Nat → Int32 → et_G → Option (Int32 × et_G)
  | 0, _, _ => none
  | n + 1, x2, g =>
    if (g.1 61 50) ≤ x2 then
      fn_Mo_holding_50 x1 1000000 (0 : Int32) g
    else
      if ((x1 >>> (x2 &&& 31)) &&& (1 : Int32)) = (1 : Int32) then
        et_ck (et_ib x2 20) (et_b (et_si g 86 x2.toNatClampNeg (1 : Int32)) (fun g26 =>
        et_b (x2 + (1 : Int32)) (fun v27 =>
        fn_Mo_holding_12 x1 n v27 g26)))
      else
        et_ck (et_ib x2 20) (et_b (et_si g 86 x2.toNatClampNeg (1000 : Int32)) (fun g24 =>
        et_b (x2 + (1 : Int32)) (fun v25 =>
        fn_Mo_holding_12 x1 n v25 g24)))
def fn_Mo_holding (p1 : Int32) (g : et_G) : Option (Int32 × et_G) :=
  et_b (et_si g 61 60 p1) (fun g1 =>
  et_b (et_si g1 61 61 (0 : Int32)) (fun g2 =>
  fn_Mo_holding_12 p1 1000000 (0 : Int32) g2))
theorem zp_Mo_holding_165 {X : et_X} {w : et_W} (hX : et_Gd X w cX10_holding RX10 5 (some .int) [] rm_Mo_holding) (x1 : Int32) : ∀ (n : Nat) (x3 : Int32) (x4 : Int32) (g : et_G), et_Z X w 0 et_eI 165 [some (.ref (et_ad w 61)), some (.int x1), none, some (.int x3), some (.int x4)] [] g (fn_Mo_holding_165 x1 n x3 x4 g) := by
  intro n
  induction n with
  | zero =>
    intro x3 x4 g a g2 h
    cases h
  | succ n ih =>
    intro x3 x4 g
    rw [fn_Mo_holding_165]
    refine zi_iload4 (pc := 165) hX dX10_holding_165 ?_
    refine zi_aload0 (pc := 167) hX dX10_holding_167 ?_
    refine zi_geti (pc := 168) hX dX10_holding_168 fl_1398 ly_61 rfl ?_
    refine zi_icmp_ge (pc := 171) 235 hX dX10_holding_171 (by decide) (fun _ => ?_) (fun _ => ?_)
    · refine zi_iload3 (pc := 235) hX dX10_holding_235 ?_
      exact zi_ret (pc := 236) hX dX10_holding_236 rfl rfl rfl rfl
    · refine zi_iload1 (pc := 174) hX dX10_holding_174 ?_
      refine zi_iload4 (pc := 175) hX dX10_holding_175 ?_
      refine zi_ishr (pc := 177) hX dX10_holding_177 ?_
      refine zi_iconst (pc := 178) hX dX10_holding_178 ki_1 ?_
      refine zi_iand (pc := 179) hX dX10_holding_179 ?_
      refine zi_iconst (pc := 180) hX dX10_holding_180 ki_1 ?_
      refine zi_icmp_ne (pc := 181) 229 hX dX10_holding_181 (by decide) (fun _ => ?_) (fun _ => ?_)
      · refine zi_aload0 (pc := 184) hX dX10_holding_184 ?_
        refine zi_aload0 (pc := 185) hX dX10_holding_185 ?_
        refine zi_getr (q := 90) (pc := 186) hX dX10_holding_186 fl_1405 ly_61 rfl ?_
        refine zi_iload4 (pc := 189) hX dX10_holding_189 ?_
        refine zi_iald (pc := 191) hX dX10_holding_191 ly_90 ?_
        refine zi_aload0 (pc := 192) hX dX10_holding_192 ?_
        refine zi_iload4 (pc := 193) hX dX10_holding_193 ?_
        refine zi_iconst (pc := 195) hX dX10_holding_195 ki_2 ?_
        refine zi_callI (zc_virt (pc := 196) hX dX10_holding_196 tm_1773 md_X10_of mi_X10_of ly_61 (ct_Mo_of hX.sane x4 (2 : Int32) g) rfl rfl rfl) (fun v4 g5 => ?_)
        refine zi_aload0 (pc := 199) hX dX10_holding_199 ?_
        refine zi_iload4 (pc := 200) hX dX10_holding_200 ?_
        refine zi_iconst (pc := 202) hX dX10_holding_202 ki_4 ?_
        refine zi_callI (zc_virt (pc := 203) hX dX10_holding_203 tm_1773 md_X10_of mi_X10_of ly_61 (ct_Mo_of hX.sane x4 (4 : Int32) g5) rfl rfl rfl) (fun v6 g7 => ?_)
        refine zi_aload0 (pc := 206) hX dX10_holding_206 ?_
        refine zi_iload4 (pc := 207) hX dX10_holding_207 ?_
        refine zi_iconst (pc := 209) hX dX10_holding_209 ki_3 ?_
        refine zi_callI (zc_virt (pc := 210) hX dX10_holding_210 tm_1773 md_X10_of mi_X10_of ly_61 (ct_Mo_of hX.sane x4 (3 : Int32) g7) rfl rfl rfl) (fun v8 g9 => ?_)
        refine zi_callI (zc_virt (pc := 213) hX dX10_holding_213 tm_1797 md_X10_byHow mi_X10_byHow ly_61 (ct_Mo_byHow hX.sane (g.1 90 x4.toNatClampNeg) v4 v6 v8 g9) rfl rfl rfl) (fun v10 g11 => ?_)
        refine zi_sipush (pc := 216) hX dX10_holding_216 ks_1000 ?_
        refine zi_icmp_ge (pc := 219) 229 hX dX10_holding_219 (by decide) (fun _ => ?_) (fun _ => ?_)
        · refine zi_iincb4 (pc := 229) hX dX10_holding_229 (kn_1 _) rfl rfl (fun v12 => ?_)
          refine zi_goto (pc := 232) 165 hX dX10_holding_232 (by decide) ?_
          exact ih x3 v12 g11
        · refine zi_iload3 (pc := 222) hX dX10_holding_222 ?_
          refine zi_iconst (pc := 223) hX dX10_holding_223 ki_1 ?_
          refine zi_iload4 (pc := 224) hX dX10_holding_224 ?_
          refine zi_ishl (pc := 226) hX dX10_holding_226 ?_
          refine zi_ior (pc := 227) hX dX10_holding_227 ?_
          refine zi_bi (fun v13 => ?_)
          refine zi_istore3 (pc := 228) hX dX10_holding_228 rfl rfl ?_
          refine zi_iincb4 (pc := 229) hX dX10_holding_229 (kn_1 _) rfl rfl (fun v14 => ?_)
          refine zi_goto (pc := 232) 165 hX dX10_holding_232 (by decide) ?_
          exact ih v13 v14 g11
      · refine zi_iincb4 (pc := 229) hX dX10_holding_229 (kn_1 _) rfl rfl (fun v3 => ?_)
        refine zi_goto (pc := 232) 165 hX dX10_holding_232 (by decide) ?_
        exact ih x3 v3 g
theorem zp_Mo_holding_86 {X : et_X} {w : et_W} (hX : et_Gd X w cX10_holding RX10 5 (some .int) [] rm_Mo_holding) (r78 : Int32 → et_G → Option (Int32 × et_G)) (x1 : Int32) (hr78 : ∀ (y2 : Int32) (g : et_G), et_Z X w 0 et_eI 78 [some (.ref (et_ad w 61)), some (.int x1), some (.int y2), none, none] [] g (r78 y2 g)) : ∀ (n : Nat) (x2 : Int32) (x3 : Int32) (g : et_G), et_Z X w 0 et_eI 86 [some (.ref (et_ad w 61)), some (.int x1), some (.int x2), some (.int x3), none] [] g (fn_Mo_holding_86 r78 x1 n x2 x3 g) := by
  intro n
  induction n with
  | zero =>
    intro x2 x3 g a g2 h
    cases h
  | succ n ih =>
    intro x2 x3 g
    rw [fn_Mo_holding_86]
    refine zi_iload3 (pc := 86) hX dX10_holding_86 ?_
    refine zi_bipush (pc := 87) hX dX10_holding_87 kb_8 ?_
    refine zi_aload0 (pc := 89) hX dX10_holding_89 ?_
    refine zi_geti (pc := 90) hX dX10_holding_90 fl_1407 ly_61 rfl ?_
    refine zi_imul (pc := 93) hX dX10_holding_93 ?_
    refine zi_icmp_ge (pc := 94) 157 hX dX10_holding_94 (by decide) (fun _ => ?_) (fun _ => ?_)
    · refine zi_goto (pc := 157) 78 hX dX10_holding_157 (by decide) ?_
      refine zi_drop (le_s (le_s (le_s (le_n (le_s le_nil))))) ?_; exact hr78 x2 g
    · refine zi_aload0 (pc := 97) hX dX10_holding_97 ?_
      refine zi_getr (q := 91) (pc := 98) hX dX10_holding_98 fl_1406 ly_61 rfl ?_
      refine zi_iload3 (pc := 101) hX dX10_holding_101 ?_
      refine zi_iald (pc := 102) hX dX10_holding_102 ly_91 ?_
      refine zi_sipush (pc := 103) hX dX10_holding_103 ks_1000 ?_
      refine zi_icmp_lt (pc := 106) 151 hX dX10_holding_106 (by decide) (fun _ => ?_) (fun _ => ?_)
      · refine zi_iincb3 (pc := 151) hX dX10_holding_151 (kn_1 _) rfl rfl (fun v15 => ?_)
        refine zi_goto (pc := 154) 86 hX dX10_holding_154 (by decide) ?_
        exact ih x2 v15 g
      · refine zi_iload3 (pc := 109) hX dX10_holding_109 ?_
        refine zi_bipush (pc := 110) hX dX10_holding_110 kb_8 ?_
        refine zi_irem (pc := 112) hX dX10_holding_112 (by decide) ?_
        refine zi_aload0 (pc := 113) hX dX10_holding_113 ?_
        refine zi_geti (pc := 114) hX dX10_holding_114 fl_1353 ly_61 rfl ?_
        refine zi_icmp_ge (pc := 117) 151 hX dX10_holding_117 (by decide) (fun _ => ?_) (fun _ => ?_)
        · refine zi_iincb3 (pc := 151) hX dX10_holding_151 (kn_1 _) rfl rfl (fun v16 => ?_)
          refine zi_goto (pc := 154) 86 hX dX10_holding_154 (by decide) ?_
          exact ih x2 v16 g
        · refine zi_aload0 (pc := 120) hX dX10_holding_120 ?_
          refine zi_iload3 (pc := 121) hX dX10_holding_121 ?_
          refine zi_bipush (pc := 122) hX dX10_holding_122 kb_8 ?_
          refine zi_idiv (pc := 124) hX dX10_holding_124 (by decide) ?_
          refine zi_iload3 (pc := 125) hX dX10_holding_125 ?_
          refine zi_bipush (pc := 126) hX dX10_holding_126 kb_8 ?_
          refine zi_irem (pc := 128) hX dX10_holding_128 (by decide) ?_
          refine zi_iconst (pc := 129) hX dX10_holding_129 ki_0 ?_
          refine zi_callI (zc_virt (pc := 130) hX dX10_holding_130 tm_1793 md_X10_least mi_X10_least ly_61 (ct_Mo_least hX.sane (x3 / (8 : Int32)) (x3 - x3 / (8 : Int32) * (8 : Int32)) (0 : Int32) g) rfl rfl rfl) (fun v17 g18 => ?_)
          refine zi_sipush (pc := 133) hX dX10_holding_133 ks_1000 ?_
          refine zi_icmp_lt (pc := 136) 142 hX dX10_holding_136 (by decide) (fun _ => ?_) (fun _ => ?_)
          · refine zi_aload0 (pc := 142) hX dX10_holding_142 ?_
            refine zi_getr (q := 91) (pc := 143) hX dX10_holding_143 fl_1406 ly_61 rfl ?_
            refine zi_iload3 (pc := 146) hX dX10_holding_146 ?_
            refine zi_iconst (pc := 147) hX dX10_holding_147 ki_1 ?_
            refine zi_iast (pc := 148) hX dX10_holding_148 ly_91 (zi_bg (fun g19 => ?_))
            refine zi_iconst (pc := 149) hX dX10_holding_149 ki_1 ?_
            refine zi_istore2 (pc := 150) hX dX10_holding_150 rfl rfl ?_
            refine zi_iincb3 (pc := 151) hX dX10_holding_151 (kn_1 _) rfl rfl (fun v20 => ?_)
            refine zi_goto (pc := 154) 86 hX dX10_holding_154 (by decide) ?_
            exact ih (1 : Int32) v20 g19
          · refine zi_goto (pc := 139) 151 hX dX10_holding_139 (by decide) ?_
            refine zi_iincb3 (pc := 151) hX dX10_holding_151 (kn_1 _) rfl rfl (fun v21 => ?_)
            refine zi_goto (pc := 154) 86 hX dX10_holding_154 (by decide) ?_
            exact ih x2 v21 g18
theorem zp_Mo_holding_78 {X : et_X} {w : et_W} (hX : et_Gd X w cX10_holding RX10 5 (some .int) [] rm_Mo_holding) (x1 : Int32) : ∀ (n : Nat) (x2 : Int32) (g : et_G), et_Z X w 0 et_eI 78 [some (.ref (et_ad w 61)), some (.int x1), some (.int x2), none, none] [] g (fn_Mo_holding_78 x1 n x2 g) := by
  intro n
  induction n with
  | zero =>
    intro x2 g a g2 h
    cases h
  | succ n ih =>
    intro x2 g
    rw [fn_Mo_holding_78]
    refine zi_iload2 (pc := 78) hX dX10_holding_78 ?_
    refine zi_if_eq (pc := 79) 160 hX dX10_holding_79 (by decide) (fun _ => ?_) (fun _ => ?_)
    · refine zi_iconst (pc := 160) hX dX10_holding_160 ki_0 ?_
      refine zi_istore3 (pc := 161) hX dX10_holding_161 rfl rfl ?_
      refine zi_iconst (pc := 162) hX dX10_holding_162 ki_0 ?_
      refine zi_istore4 (pc := 163) hX dX10_holding_163 rfl rfl ?_
      refine zi_drop (le_s (le_s (le_n (le_s (le_s le_nil))))) ?_; exact zp_Mo_holding_165 hX x1 1000000 (0 : Int32) (0 : Int32) g
    · refine zi_iconst (pc := 82) hX dX10_holding_82 ki_0 ?_
      refine zi_istore2 (pc := 83) hX dX10_holding_83 rfl rfl ?_
      refine zi_iconst (pc := 84) hX dX10_holding_84 ki_0 ?_
      refine zi_istore3 (pc := 85) hX dX10_holding_85 rfl rfl ?_
      exact zp_Mo_holding_86 hX (fun z2 g => fn_Mo_holding_78 x1 n z2 g) x1 (fun z2 g => ih z2 g) 1000000 (0 : Int32) (0 : Int32) g
theorem zp_Mo_holding_50 {X : et_X} {w : et_W} (hX : et_Gd X w cX10_holding RX10 5 (some .int) [] rm_Mo_holding) (x1 : Int32) : ∀ (n : Nat) (x2 : Int32) (g : et_G), et_Z X w 0 et_eI 50 [some (.ref (et_ad w 61)), some (.int x1), some (.int x2), none, none] [] g (fn_Mo_holding_50 x1 n x2 g) := by
  intro n
  induction n with
  | zero =>
    intro x2 g a g2 h
    cases h
  | succ n ih =>
    intro x2 g
    rw [fn_Mo_holding_50]
    refine zi_iload2 (pc := 50) hX dX10_holding_50 ?_
    refine zi_bipush (pc := 51) hX dX10_holding_51 kb_8 ?_
    refine zi_aload0 (pc := 53) hX dX10_holding_53 ?_
    refine zi_geti (pc := 54) hX dX10_holding_54 fl_1407 ly_61 rfl ?_
    refine zi_imul (pc := 57) hX dX10_holding_57 ?_
    refine zi_icmp_ge (pc := 58) 76 hX dX10_holding_58 (by decide) (fun _ => ?_) (fun _ => ?_)
    · refine zi_iconst (pc := 76) hX dX10_holding_76 ki_1 ?_
      refine zi_istore2 (pc := 77) hX dX10_holding_77 rfl rfl ?_
      exact zp_Mo_holding_78 hX x1 1000000 (1 : Int32) g
    · refine zi_aload0 (pc := 61) hX dX10_holding_61 ?_
      refine zi_getr (q := 91) (pc := 62) hX dX10_holding_62 fl_1406 ly_61 rfl ?_
      refine zi_iload2 (pc := 65) hX dX10_holding_65 ?_
      refine zi_sipush (pc := 66) hX dX10_holding_66 ks_1000 ?_
      refine zi_iast (pc := 69) hX dX10_holding_69 ly_91 (zi_bg (fun g22 => ?_))
      refine zi_iincb2 (pc := 70) hX dX10_holding_70 (kn_1 _) rfl rfl (fun v23 => ?_)
      refine zi_goto (pc := 73) 50 hX dX10_holding_73 (by decide) ?_
      exact ih v23 g22
theorem zp_Mo_holding_12 {X : et_X} {w : et_W} (hX : et_Gd X w cX10_holding RX10 5 (some .int) [] rm_Mo_holding) (x1 : Int32) : ∀ (n : Nat) (x2 : Int32) (g : et_G), et_Z X w 0 et_eI 12 [some (.ref (et_ad w 61)), some (.int x1), some (.int x2), none, none] [] g (fn_Mo_holding_12 x1 n x2 g) := by
  intro n
  induction n with
  | zero =>
    intro x2 g a g2 h
    cases h
  | succ n ih =>
    intro x2 g
    rw [fn_Mo_holding_12]
    refine zi_iload2 (pc := 12) hX dX10_holding_12 ?_
    refine zi_aload0 (pc := 13) hX dX10_holding_13 ?_
    refine zi_geti (pc := 14) hX dX10_holding_14 fl_1398 ly_61 rfl ?_
    refine zi_icmp_ge (pc := 17) 48 hX dX10_holding_17 (by decide) (fun _ => ?_) (fun _ => ?_)
    · refine zi_iconst (pc := 48) hX dX10_holding_48 ki_0 ?_
      refine zi_istore2 (pc := 49) hX dX10_holding_49 rfl rfl ?_
      exact zp_Mo_holding_50 hX x1 1000000 (0 : Int32) g
    · refine zi_aload0 (pc := 20) hX dX10_holding_20 ?_
      refine zi_getr (q := 86) (pc := 21) hX dX10_holding_21 fl_1401 ly_61 rfl ?_
      refine zi_iload2 (pc := 24) hX dX10_holding_24 ?_
      refine zi_iload1 (pc := 25) hX dX10_holding_25 ?_
      refine zi_iload2 (pc := 26) hX dX10_holding_26 ?_
      refine zi_ishr (pc := 27) hX dX10_holding_27 ?_
      refine zi_iconst (pc := 28) hX dX10_holding_28 ki_1 ?_
      refine zi_iand (pc := 29) hX dX10_holding_29 ?_
      refine zi_iconst (pc := 30) hX dX10_holding_30 ki_1 ?_
      refine zi_icmp_ne (pc := 31) 38 hX dX10_holding_31 (by decide) (fun _ => ?_) (fun _ => ?_)
      · refine zi_iconst (pc := 34) hX dX10_holding_34 ki_1 ?_
        refine zi_goto (pc := 35) 41 hX dX10_holding_35 (by decide) ?_
        refine zi_iast (pc := 41) hX dX10_holding_41 ly_86 (zi_bg (fun g26 => ?_))
        refine zi_iincb2 (pc := 42) hX dX10_holding_42 (kn_1 _) rfl rfl (fun v27 => ?_)
        refine zi_goto (pc := 45) 12 hX dX10_holding_45 (by decide) ?_
        exact ih v27 g26
      · refine zi_sipush (pc := 38) hX dX10_holding_38 ks_1000 ?_
        refine zi_iast (pc := 41) hX dX10_holding_41 ly_86 (zi_bg (fun g24 => ?_))
        refine zi_iincb2 (pc := 42) hX dX10_holding_42 (kn_1 _) rfl rfl (fun v25 => ?_)
        refine zi_goto (pc := 45) 12 hX dX10_holding_45 (by decide) ?_
        exact ih v25 g24
theorem zw_Mo_holding {X : et_X} {w : et_W} (hX : et_Gd X w cX10_holding RX10 5 (some .int) [] rm_Mo_holding) (p1 : Int32) (g : et_G) : et_Z X w 0 et_eI 0 [some (.ref (et_ad w 61)), some (.int p1), none, none, none] [] g (fn_Mo_holding p1 g) := by
  unfold fn_Mo_holding
  refine zi_aload0 (pc := 0) hX dX10_holding_0 ?_
  refine zi_iload1 (pc := 1) hX dX10_holding_1 ?_
  refine zi_puti (pc := 2) hX dX10_holding_2 fl_1408 ly_61 rfl rfl rfl (zi_bg (fun g1 => ?_))
  refine zi_aload0 (pc := 5) hX dX10_holding_5 ?_
  refine zi_iconst (pc := 6) hX dX10_holding_6 ki_0 ?_
  refine zi_puti (pc := 7) hX dX10_holding_7 fl_1409 ly_61 rfl rfl rfl (zi_bg (fun g2 => ?_))
  refine zi_iconst (pc := 10) hX dX10_holding_10 ki_0 ?_
  refine zi_istore2 (pc := 11) hX dX10_holding_11 rfl rfl ?_
  exact zp_Mo_holding_12 hX p1 1000000 (0 : Int32) g2
theorem ct_Mo_holding {w : et_W} (hw : et_Sane w) (p1 : Int32) (g : et_G) : et_C w yX10_holding (Cond.code yX10_holding cX10_holding 5 (some .int)) rm_Mo_holding et_eI [.ref (et_ad w 61), .int p1] g (fn_Mo_holding p1 g) := et_mk hw (by decide) rfl rfl (fun X hX => zw_Mo_holding hX p1 g)
def rm_Mo_wrong : Room := { frames := 6, cells := 0, slots := 0, locals := 151 }
def fn_Mo_wrong_128 (x2 : Int32) (x3 : Int32) (g : et_G) : Option (Int32 × et_G) :=
  some (x3 &&& (x2 ^^^ (-1 : Int32)), g)
def fn_Mo_wrong_109 (x2 : Int32) : Nat → Int32 → Int32 → et_G → Option (Int32 × et_G)
  | 0, _, _, _ => none
  | n + 1, x3, x4, g =>
    if x4 = x3 then
      fn_Mo_wrong_128 x2 x3 g
    else
      et_bd (fn_Mo_holding x4 g) (fun v14 g15 =>
      fn_Mo_wrong_109 x2 n x4 v14 g15)
def fn_Mo_wrong_84 (x1 : Int32) (x2 : Int32) (g : et_G) : Option (Int32 × et_G) :=
  if x1 = 0 then
    et_bd (fn_Mo_all g) (fun v16 g17 =>
    some (v16 &&& (x2 ^^^ (-1 : Int32)), g17))
  else
    et_bd (fn_Mo_all g) (fun v10 g11 =>
    et_bd (fn_Mo_holding v10 g11) (fun v12 g13 =>
    fn_Mo_wrong_109 x2 1000000 v10 v12 g13))
def fn_Mo_wrong_48 (x1 : Int32) : Nat → Int32 → Int32 → et_G → Option (Int32 × et_G)
  | 0, _, _, _ => none
  | n + 1, x2, x3, g =>
    if (g.1 61 50) ≤ x3 then
      fn_Mo_wrong_84 x1 x2 g
    else
      et_ck (et_ib x3 20) (
      if (1000 : Int32) ≤ (g.1 86 x3.toNatClampNeg) then
        et_b (x2 ||| (0 : Int32)) (fun v18 =>
        et_b (x3 + (1 : Int32)) (fun v19 =>
        fn_Mo_wrong_48 x1 n v18 v19 g))
      else
        et_b (x2 ||| ((1 : Int32) <<< (x3 &&& 31))) (fun v20 =>
        et_b (x3 + (1 : Int32)) (fun v21 =>
        fn_Mo_wrong_48 x1 n v20 v21 g)))
def fn_Mo_wrong_20 (x1 : Int32) (s0 : Int32) (g : et_G) : Option (Int32 × et_G) :=
  et_bd (fn_Mo_right s0 (1 : Int32) g) (fun v2 g3 =>
  if v2 = 0 then
    some ((0 : Int32), g3)
  else
    et_bd (fn_Mo_asks (-1 : Int32) (0 : Int32) g3) (fun _ g5 =>
    et_bd (fn_Mo_all g5) (fun v6 g7 =>
    et_bd (fn_Mo_reckons v6 (0 : Int32) g7) (fun _ g9 =>
    fn_Mo_wrong_48 x1 1000000 (0 : Int32) (0 : Int32) g9))))
def fn_Mo_wrong_15 (x1 : Int32) (g : et_G) : Option (Int32 × et_G) :=
  fn_Mo_wrong_20 x1 (1 : Int32) g
def fn_Mo_wrong (p1 : Int32) (g : et_G) : Option (Int32 × et_G) :=
  et_b (et_si g 61 0 (0 : Int32)) (fun g1 =>
  if p1 = 0 then
    fn_Mo_wrong_15 p1 g1
  else
    if p1 = (1 : Int32) then
      fn_Mo_wrong_15 p1 g1
    else
      fn_Mo_wrong_20 p1 (0 : Int32) g1)
theorem zp_Mo_wrong_128 {X : et_X} {w : et_W} (hX : et_Gd X w cX10_wrong RX10 5 (some .int) [] rm_Mo_wrong) (x2 : Int32) (x3 : Int32) (g : et_G) : et_Z X w 0 et_eI 128 [none, none, some (.int x2), some (.int x3), none] [] g (fn_Mo_wrong_128 x2 x3 g) := by
  unfold fn_Mo_wrong_128
  refine zi_iload3 (pc := 128) hX dX10_wrong_128 ?_
  refine zi_iload2 (pc := 129) hX dX10_wrong_129 ?_
  refine zi_iconst (pc := 130) hX dX10_wrong_130 ki_m1 ?_
  refine zi_ixor (pc := 131) hX dX10_wrong_131 ?_
  refine zi_iand (pc := 132) hX dX10_wrong_132 ?_
  exact zi_ret (pc := 133) hX dX10_wrong_133 rfl rfl rfl rfl
theorem zp_Mo_wrong_109 {X : et_X} {w : et_W} (hX : et_Gd X w cX10_wrong RX10 5 (some .int) [] rm_Mo_wrong) (x2 : Int32) : ∀ (n : Nat) (x3 : Int32) (x4 : Int32) (g : et_G), et_Z X w 0 et_eI 109 [some (.ref (et_ad w 61)), none, some (.int x2), some (.int x3), some (.int x4)] [] g (fn_Mo_wrong_109 x2 n x3 x4 g) := by
  intro n
  induction n with
  | zero =>
    intro x3 x4 g a g2 h
    cases h
  | succ n ih =>
    intro x3 x4 g
    rw [fn_Mo_wrong_109]
    refine zi_iload4 (pc := 109) hX dX10_wrong_109 ?_
    refine zi_iload3 (pc := 111) hX dX10_wrong_111 ?_
    refine zi_icmp_eq (pc := 112) 128 hX dX10_wrong_112 (by decide) (fun _ => ?_) (fun _ => ?_)
    · refine zi_drop (le_n (le_s (le_s (le_s (le_n le_nil))))) ?_; exact zp_Mo_wrong_128 hX x2 x3 g
    · refine zi_iload4 (pc := 115) hX dX10_wrong_115 ?_
      refine zi_istore3 (pc := 117) hX dX10_wrong_117 rfl rfl ?_
      refine zi_aload0 (pc := 118) hX dX10_wrong_118 ?_
      refine zi_iload3 (pc := 119) hX dX10_wrong_119 ?_
      refine zi_callI (zc_virt (pc := 120) hX dX10_wrong_120 tm_1841 md_X10_holding mi_X10_holding ly_61 (ct_Mo_holding hX.sane x4 g) rfl rfl rfl) (fun v14 g15 => ?_)
      refine zi_istore4 (pc := 123) hX dX10_wrong_123 rfl rfl ?_
      refine zi_goto (pc := 125) 109 hX dX10_wrong_125 (by decide) ?_
      exact ih x4 v14 g15
theorem zp_Mo_wrong_84 {X : et_X} {w : et_W} (hX : et_Gd X w cX10_wrong RX10 5 (some .int) [] rm_Mo_wrong) (x1 : Int32) (x2 : Int32) (g : et_G) : et_Z X w 0 et_eI 84 [some (.ref (et_ad w 61)), some (.int x1), some (.int x2), none, none] [] g (fn_Mo_wrong_84 x1 x2 g) := by
  unfold fn_Mo_wrong_84
  refine zi_iload1 (pc := 84) hX dX10_wrong_84 ?_
  refine zi_if_ne (pc := 85) 97 hX dX10_wrong_85 (by decide) (fun _ => ?_) (fun _ => ?_)
  · refine zi_aload0 (pc := 88) hX dX10_wrong_88 ?_
    refine zi_callI (zc_virt (pc := 89) hX dX10_wrong_89 tm_1785 md_X10_all mi_X10_all ly_61 (ct_Mo_all hX.sane g) rfl rfl rfl) (fun v16 g17 => ?_)
    refine zi_iload2 (pc := 92) hX dX10_wrong_92 ?_
    refine zi_iconst (pc := 93) hX dX10_wrong_93 ki_m1 ?_
    refine zi_ixor (pc := 94) hX dX10_wrong_94 ?_
    refine zi_iand (pc := 95) hX dX10_wrong_95 ?_
    exact zi_ret (pc := 96) hX dX10_wrong_96 rfl rfl rfl rfl
  · refine zi_aload0 (pc := 97) hX dX10_wrong_97 ?_
    refine zi_callI (zc_virt (pc := 98) hX dX10_wrong_98 tm_1785 md_X10_all mi_X10_all ly_61 (ct_Mo_all hX.sane g) rfl rfl rfl) (fun v10 g11 => ?_)
    refine zi_istore3 (pc := 101) hX dX10_wrong_101 rfl rfl ?_
    refine zi_aload0 (pc := 102) hX dX10_wrong_102 ?_
    refine zi_iload3 (pc := 103) hX dX10_wrong_103 ?_
    refine zi_callI (zc_virt (pc := 104) hX dX10_wrong_104 tm_1841 md_X10_holding mi_X10_holding ly_61 (ct_Mo_holding hX.sane v10 g11) rfl rfl rfl) (fun v12 g13 => ?_)
    refine zi_istore4 (pc := 107) hX dX10_wrong_107 rfl rfl ?_
    refine zi_drop (le_s (le_n (le_s (le_s (le_s le_nil))))) ?_; exact zp_Mo_wrong_109 hX x2 1000000 v10 v12 g13
theorem zp_Mo_wrong_48 {X : et_X} {w : et_W} (hX : et_Gd X w cX10_wrong RX10 5 (some .int) [] rm_Mo_wrong) (x1 : Int32) : ∀ (n : Nat) (x2 : Int32) (x3 : Int32) (g : et_G), et_Z X w 0 et_eI 48 [some (.ref (et_ad w 61)), some (.int x1), some (.int x2), some (.int x3), none] [] g (fn_Mo_wrong_48 x1 n x2 x3 g) := by
  intro n
  induction n with
  | zero =>
    intro x2 x3 g a g2 h
    cases h
  | succ n ih =>
    intro x2 x3 g
    rw [fn_Mo_wrong_48]
    refine zi_iload3 (pc := 48) hX dX10_wrong_48 ?_
    refine zi_aload0 (pc := 49) hX dX10_wrong_49 ?_
    refine zi_geti (pc := 50) hX dX10_wrong_50 fl_1398 ly_61 rfl ?_
    refine zi_icmp_ge (pc := 53) 84 hX dX10_wrong_53 (by decide) (fun _ => ?_) (fun _ => ?_)
    · refine zi_drop (le_s (le_s (le_s (le_n (le_s le_nil))))) ?_; exact zp_Mo_wrong_84 hX x1 x2 g
    · refine zi_iload2 (pc := 56) hX dX10_wrong_56 ?_
      refine zi_aload0 (pc := 57) hX dX10_wrong_57 ?_
      refine zi_getr (q := 86) (pc := 58) hX dX10_wrong_58 fl_1401 ly_61 rfl ?_
      refine zi_iload3 (pc := 61) hX dX10_wrong_61 ?_
      refine zi_iald (pc := 62) hX dX10_wrong_62 ly_86 ?_
      refine zi_sipush (pc := 63) hX dX10_wrong_63 ks_1000 ?_
      refine zi_icmp_ge (pc := 66) 75 hX dX10_wrong_66 (by decide) (fun _ => ?_) (fun _ => ?_)
      · refine zi_iconst (pc := 75) hX dX10_wrong_75 ki_0 ?_
        refine zi_ior (pc := 76) hX dX10_wrong_76 ?_
        refine zi_bi (fun v18 => ?_)
        refine zi_istore2 (pc := 77) hX dX10_wrong_77 rfl rfl ?_
        refine zi_iincb3 (pc := 78) hX dX10_wrong_78 (kn_1 _) rfl rfl (fun v19 => ?_)
        refine zi_goto (pc := 81) 48 hX dX10_wrong_81 (by decide) ?_
        exact ih v18 v19 g
      · refine zi_iconst (pc := 69) hX dX10_wrong_69 ki_1 ?_
        refine zi_iload3 (pc := 70) hX dX10_wrong_70 ?_
        refine zi_ishl (pc := 71) hX dX10_wrong_71 ?_
        refine zi_goto (pc := 72) 76 hX dX10_wrong_72 (by decide) ?_
        refine zi_ior (pc := 76) hX dX10_wrong_76 ?_
        refine zi_bi (fun v20 => ?_)
        refine zi_istore2 (pc := 77) hX dX10_wrong_77 rfl rfl ?_
        refine zi_iincb3 (pc := 78) hX dX10_wrong_78 (kn_1 _) rfl rfl (fun v21 => ?_)
        refine zi_goto (pc := 81) 48 hX dX10_wrong_81 (by decide) ?_
        exact ih v20 v21 g
theorem zp_Mo_wrong_20 {X : et_X} {w : et_W} (hX : et_Gd X w cX10_wrong RX10 5 (some .int) [] rm_Mo_wrong) (x1 : Int32) (s0 : Int32) (g : et_G) : et_Z X w 0 et_eI 20 [some (.ref (et_ad w 61)), some (.int x1), none, none, none] [.int s0, .ref (et_ad w 61)] g (fn_Mo_wrong_20 x1 s0 g) := by
  unfold fn_Mo_wrong_20
  refine zi_iconst (pc := 20) hX dX10_wrong_20 ki_1 ?_
  refine zi_callI (zc_virt (pc := 21) hX dX10_wrong_21 tm_1587 md_X10_right mi_X10_right ly_61 (ct_Mo_right hX.sane s0 (1 : Int32) g) rfl rfl rfl) (fun v2 g3 => ?_)
  refine zi_if_ne (pc := 24) 29 hX dX10_wrong_24 (by decide) (fun _ => ?_) (fun _ => ?_)
  · refine zi_iconst (pc := 27) hX dX10_wrong_27 ki_0 ?_
    exact zi_ret (pc := 28) hX dX10_wrong_28 rfl rfl rfl rfl
  · refine zi_aload0 (pc := 29) hX dX10_wrong_29 ?_
    refine zi_iconst (pc := 30) hX dX10_wrong_30 ki_m1 ?_
    refine zi_iconst (pc := 31) hX dX10_wrong_31 ki_0 ?_
    refine zi_callU (zc_virt (pc := 32) hX dX10_wrong_32 tm_1777 md_X10_asks mi_X10_asks ly_61 (ct_Mo_asks hX.sane (-1 : Int32) (0 : Int32) g3) rfl rfl rfl) (fun g5 => ?_)
    refine zi_aload0 (pc := 35) hX dX10_wrong_35 ?_
    refine zi_aload0 (pc := 36) hX dX10_wrong_36 ?_
    refine zi_callI (zc_virt (pc := 37) hX dX10_wrong_37 tm_1785 md_X10_all mi_X10_all ly_61 (ct_Mo_all hX.sane g5) rfl rfl rfl) (fun v6 g7 => ?_)
    refine zi_iconst (pc := 40) hX dX10_wrong_40 ki_0 ?_
    refine zi_callU (zc_virt (pc := 41) hX dX10_wrong_41 tm_1789 md_X10_reckons mi_X10_reckons ly_61 (ct_Mo_reckons hX.sane v6 (0 : Int32) g7) rfl rfl rfl) (fun g9 => ?_)
    refine zi_iconst (pc := 44) hX dX10_wrong_44 ki_0 ?_
    refine zi_istore2 (pc := 45) hX dX10_wrong_45 rfl rfl ?_
    refine zi_iconst (pc := 46) hX dX10_wrong_46 ki_0 ?_
    refine zi_istore3 (pc := 47) hX dX10_wrong_47 rfl rfl ?_
    exact zp_Mo_wrong_48 hX x1 1000000 (0 : Int32) (0 : Int32) g9
theorem zp_Mo_wrong_15 {X : et_X} {w : et_W} (hX : et_Gd X w cX10_wrong RX10 5 (some .int) [] rm_Mo_wrong) (x1 : Int32) (g : et_G) : et_Z X w 0 et_eI 15 [some (.ref (et_ad w 61)), some (.int x1), none, none, none] [.ref (et_ad w 61)] g (fn_Mo_wrong_15 x1 g) := by
  unfold fn_Mo_wrong_15
  refine zi_iconst (pc := 15) hX dX10_wrong_15 ki_1 ?_
  refine zi_goto (pc := 16) 20 hX dX10_wrong_16 (by decide) ?_
  exact zp_Mo_wrong_20 hX x1 (1 : Int32) g
theorem zw_Mo_wrong {X : et_X} {w : et_W} (hX : et_Gd X w cX10_wrong RX10 5 (some .int) [] rm_Mo_wrong) (p1 : Int32) (g : et_G) : et_Z X w 0 et_eI 0 [some (.ref (et_ad w 61)), some (.int p1), none, none, none] [] g (fn_Mo_wrong p1 g) := by
  unfold fn_Mo_wrong
  refine zi_aload0 (pc := 0) hX dX10_wrong_0 ?_
  refine zi_iconst (pc := 1) hX dX10_wrong_1 ki_0 ?_
  refine zi_puti (pc := 2) hX dX10_wrong_2 fl_1348 ly_61 rfl rfl rfl (zi_bg (fun g1 => ?_))
  refine zi_aload0 (pc := 5) hX dX10_wrong_5 ?_
  refine zi_iload1 (pc := 6) hX dX10_wrong_6 ?_
  refine zi_if_eq (pc := 7) 15 hX dX10_wrong_7 (by decide) (fun _ => ?_) (fun _ => ?_)
  · exact zp_Mo_wrong_15 hX p1 g1
  · refine zi_iload1 (pc := 10) hX dX10_wrong_10 ?_
    refine zi_iconst (pc := 11) hX dX10_wrong_11 ki_1 ?_
    refine zi_icmp_ne (pc := 12) 19 hX dX10_wrong_12 (by decide) (fun _ => ?_) (fun _ => ?_)
    · exact zp_Mo_wrong_15 hX p1 g1
    · refine zi_iconst (pc := 19) hX dX10_wrong_19 ki_0 ?_
      exact zp_Mo_wrong_20 hX p1 (0 : Int32) g1
theorem ct_Mo_wrong {w : et_W} (hw : et_Sane w) (p1 : Int32) (g : et_G) : et_C w yX10_wrong (Cond.code yX10_wrong cX10_wrong 5 (some .int)) rm_Mo_wrong et_eI [.ref (et_ad w 61), .int p1] g (fn_Mo_wrong p1 g) := et_mk hw (by decide) rfl rfl (fun X hX => zw_Mo_wrong hX p1 g)
def rm_Et_takeTape : Room := { frames := 6, cells := 1, slots := 6, locals := 81 }
def fn_Et_takeTape (p1 : Int32) (g : et_G) : Option ((Nat ⊕ Unit) × et_G) :=
  if p1 < 0 then
    some (.inl 1, g)
  else
    if p1 ≤ (g.1 0 1) then
      et_b (et_si g 0 1 (0 : Int32)) (fun g1 =>
      some (.inr (), g1))
    else
      some (.inl 1, g)
theorem zw_Et_takeTape {X : et_X} {w : et_W} (hX : et_Gd X w cX9_takeTape RX9 2 (none) [] rm_Et_takeTape) (p1 : Int32) (g : et_G) : et_Z X w 0 et_tU 0 [some (.ref (et_ad w 0)), some (.int p1)] [] g (fn_Et_takeTape p1 g) := by
  unfold fn_Et_takeTape
  refine zi_iload1 (pc := 0) hX dX9_takeTape_0 ?_
  refine zi_if_lt (pc := 1) 12 hX dX9_takeTape_1 (by decide) (fun _ => ?_) (fun _ => ?_)
  · exact zi_thr (pc := 12) hX dX9_takeTape_12 dX9_takeTape_15 dX9_takeTape_16 dX9_takeTape_19 th_1 rfl rfl rfl rfl rfl
  · refine zi_iload1 (pc := 4) hX dX9_takeTape_4 ?_
    refine zi_aload0 (pc := 5) hX dX9_takeTape_5 ?_
    refine zi_geti (pc := 6) hX dX9_takeTape_6 fl_492 ly_0 rfl ?_
    refine zi_icmp_le (pc := 9) 20 hX dX9_takeTape_9 (by decide) (fun _ => ?_) (fun _ => ?_)
    · refine zi_aload0 (pc := 20) hX dX9_takeTape_20 ?_
      refine zi_iconst (pc := 21) hX dX9_takeTape_21 ki_0 ?_
      refine zi_puti (pc := 22) hX dX9_takeTape_22 fl_492 ly_0 rfl rfl rfl (zi_bg (fun g1 => ?_))
      exact zi_vret (pc := 25) hX dX9_takeTape_25 rfl rfl rfl
    · exact zi_thr (pc := 12) hX dX9_takeTape_12 dX9_takeTape_15 dX9_takeTape_16 dX9_takeTape_19 th_1 rfl rfl rfl rfl rfl
theorem ct_Et_takeTape {w : et_W} (hw : et_Sane w) (p1 : Int32) (g : et_G) : et_C w yX9_takeTape (Cond.code yX9_takeTape cX9_takeTape 2 (none)) rm_Et_takeTape et_tU [.ref (et_ad w 0), .int p1] g (fn_Et_takeTape p1 g) := et_mk hw (by decide) rfl rfl (fun X hX => zw_Et_takeTape hX p1 g)
def rm_To_endingSlot : Room := { frames := 0, cells := 0, slots := 0, locals := 0 }
def fn_To_endingSlot (p0 : Int32) (p1 : Int32) (g : et_G) : Option (Int32 × et_G) :=
  some (((12 : Int32) + ((5 : Int32) * p0)) + p1, g)
theorem zw_To_endingSlot {X : et_X} {w : et_W} (hX : et_Gd X w cX5_endingSlot RX5 2 (some .int) [] rm_To_endingSlot) (p0 : Int32) (p1 : Int32) (g : et_G) : et_Z X w 0 et_eI 0 [some (.int p0), some (.int p1)] [] g (fn_To_endingSlot p0 p1 g) := by
  unfold fn_To_endingSlot
  refine zi_bipush (pc := 0) hX dX5_endingSlot_0 kb_12 ?_
  refine zi_iconst (pc := 2) hX dX5_endingSlot_2 ki_5 ?_
  refine zi_iload0 (pc := 3) hX dX5_endingSlot_3 ?_
  refine zi_imul (pc := 4) hX dX5_endingSlot_4 ?_
  refine zi_iadd (pc := 5) hX dX5_endingSlot_5 ?_
  refine zi_iload1 (pc := 6) hX dX5_endingSlot_6 ?_
  refine zi_iadd (pc := 7) hX dX5_endingSlot_7 ?_
  exact zi_ret (pc := 8) hX dX5_endingSlot_8 rfl rfl rfl rfl
theorem ct_To_endingSlot {w : et_W} (hw : et_Sane w) (p0 : Int32) (p1 : Int32) (g : et_G) : et_C w yX5_endingSlot (Cond.code yX5_endingSlot cX5_endingSlot 2 (some .int)) rm_To_endingSlot et_eI [.int p0, .int p1] g (fn_To_endingSlot p0 p1 g) := et_mk hw (by decide) rfl rfl (fun X hX => zw_To_endingSlot hX p0 p1 g)
def rm_To_changeSlot : Room := { frames := 0, cells := 0, slots := 0, locals := 0 }
def fn_To_changeSlot (p0 : Int32) (p1 : Int32) (g : et_G) : Option (Int32 × et_G) :=
  some (((27 : Int32) + ((3 : Int32) * p0)) + p1, g)
theorem zw_To_changeSlot {X : et_X} {w : et_W} (hX : et_Gd X w cX5_changeSlot RX5 2 (some .int) [] rm_To_changeSlot) (p0 : Int32) (p1 : Int32) (g : et_G) : et_Z X w 0 et_eI 0 [some (.int p0), some (.int p1)] [] g (fn_To_changeSlot p0 p1 g) := by
  unfold fn_To_changeSlot
  refine zi_bipush (pc := 0) hX dX5_changeSlot_0 kb_27 ?_
  refine zi_iconst (pc := 2) hX dX5_changeSlot_2 ki_3 ?_
  refine zi_iload0 (pc := 3) hX dX5_changeSlot_3 ?_
  refine zi_imul (pc := 4) hX dX5_changeSlot_4 ?_
  refine zi_iadd (pc := 5) hX dX5_changeSlot_5 ?_
  refine zi_iload1 (pc := 6) hX dX5_changeSlot_6 ?_
  refine zi_iadd (pc := 7) hX dX5_changeSlot_7 ?_
  exact zi_ret (pc := 8) hX dX5_changeSlot_8 rfl rfl rfl rfl
theorem ct_To_changeSlot {w : et_W} (hw : et_Sane w) (p0 : Int32) (p1 : Int32) (g : et_G) : et_C w yX5_changeSlot (Cond.code yX5_changeSlot cX5_changeSlot 2 (some .int)) rm_To_changeSlot et_eI [.int p0, .int p1] g (fn_To_changeSlot p0 p1 g) := et_mk hw (by decide) rfl rfl (fun X hX => zw_To_changeSlot hX p0 p1 g)
def rm_Et_areSame_4_4 : Room := { frames := 0, cells := 0, slots := 0, locals := 0 }
def fn_Et_areSame_4_4_31 (x1 : Int32) (x3 : Int32) (x4 : Int32) : Nat → Int32 → et_G → Option (Int32 × et_G)
  | 0, _, _ => none
  | n + 1, x5, g =>
    if x4 ≤ x5 then
      some ((1 : Int32), g)
    else
      et_ck (et_ib (x1 + x5) 368) (
      et_ck (et_ib (x3 + x5) 368) (
      if (g.1 4 (x1 + x5).toNatClampNeg) = (g.1 4 (x3 + x5).toNatClampNeg) then
        et_b (x5 + (1 : Int32)) (fun v1 =>
        fn_Et_areSame_4_4_31 x1 x3 x4 n v1 g)
      else
        some ((0 : Int32), g)))
def fn_Et_areSame_4_4 (p1 : Int32) (p3 : Int32) (p4 : Int32) (g : et_G) : Option (Int32 × et_G) :=
  if p1 < 0 then
    some ((0 : Int32), g)
  else
    if (368 : Int32) < (p1 + p4) then
      some ((0 : Int32), g)
    else
      if p3 < 0 then
        some ((0 : Int32), g)
      else
        if (p3 + p4) ≤ (368 : Int32) then
          fn_Et_areSame_4_4_31 p1 p3 p4 1000000 (0 : Int32) g
        else
          some ((0 : Int32), g)
theorem zp_Et_areSame_4_4_31 {X : et_X} {w : et_W} (hX : et_Gd X w cX9_areSame RX9 6 (some .boolean) [] rm_Et_areSame_4_4) (x1 : Int32) (x3 : Int32) (x4 : Int32) : ∀ (n : Nat) (x5 : Int32) (g : et_G), et_Z X w 0 et_eI 31 [some (.ref (et_ad w 4)), some (.int x1), some (.ref (et_ad w 4)), some (.int x3), some (.int x4), some (.int x5)] [] g (fn_Et_areSame_4_4_31 x1 x3 x4 n x5 g) := by
  intro n
  induction n with
  | zero =>
    intro x5 g a g2 h
    cases h
  | succ n ih =>
    intro x5 g
    rw [fn_Et_areSame_4_4_31]
    refine zi_iload5 (pc := 31) hX dX9_areSame_31 ?_
    refine zi_iload4 (pc := 33) hX dX9_areSame_33 ?_
    refine zi_icmp_ge (pc := 35) 61 hX dX9_areSame_35 (by decide) (fun _ => ?_) (fun _ => ?_)
    · refine zi_iconst (pc := 61) hX dX9_areSame_61 ki_1 ?_
      exact zi_ret (pc := 62) hX dX9_areSame_62 et_z1 rfl rfl rfl
    · refine zi_aload0 (pc := 38) hX dX9_areSame_38 ?_
      refine zi_iload1 (pc := 39) hX dX9_areSame_39 ?_
      refine zi_iload5 (pc := 40) hX dX9_areSame_40 ?_
      refine zi_iadd (pc := 42) hX dX9_areSame_42 ?_
      refine zi_bald (pc := 43) hX dX9_areSame_43 ly_4 ?_
      refine zi_aload2 (pc := 44) hX dX9_areSame_44 ?_
      refine zi_iload3 (pc := 45) hX dX9_areSame_45 ?_
      refine zi_iload5 (pc := 46) hX dX9_areSame_46 ?_
      refine zi_iadd (pc := 48) hX dX9_areSame_48 ?_
      refine zi_bald (pc := 49) hX dX9_areSame_49 ly_4 ?_
      refine zi_icmp_eq (pc := 50) 55 hX dX9_areSame_50 (by decide) (fun _ => ?_) (fun _ => ?_)
      · refine zi_iincb5 (pc := 55) hX dX9_areSame_55 (kn_1 _) rfl rfl (fun v1 => ?_)
        refine zi_goto (pc := 58) 31 hX dX9_areSame_58 (by decide) ?_
        exact ih v1 g
      · refine zi_iconst (pc := 53) hX dX9_areSame_53 ki_0 ?_
        exact zi_ret (pc := 54) hX dX9_areSame_54 et_z0 rfl rfl rfl
theorem zw_Et_areSame_4_4 {X : et_X} {w : et_W} (hX : et_Gd X w cX9_areSame RX9 6 (some .boolean) [] rm_Et_areSame_4_4) (p1 : Int32) (p3 : Int32) (p4 : Int32) (g : et_G) : et_Z X w 0 et_eI 0 [some (.ref (et_ad w 4)), some (.int p1), some (.ref (et_ad w 4)), some (.int p3), some (.int p4), none] [] g (fn_Et_areSame_4_4 p1 p3 p4 g) := by
  unfold fn_Et_areSame_4_4
  refine zi_iload1 (pc := 0) hX dX9_areSame_0 ?_
  refine zi_if_lt (pc := 1) 26 hX dX9_areSame_1 (by decide) (fun _ => ?_) (fun _ => ?_)
  · refine zi_iconst (pc := 26) hX dX9_areSame_26 ki_0 ?_
    exact zi_ret (pc := 27) hX dX9_areSame_27 et_z0 rfl rfl rfl
  · refine zi_iload1 (pc := 4) hX dX9_areSame_4 ?_
    refine zi_iload4 (pc := 5) hX dX9_areSame_5 ?_
    refine zi_iadd (pc := 7) hX dX9_areSame_7 ?_
    refine zi_aload0 (pc := 8) hX dX9_areSame_8 ?_
    refine zi_alen (pc := 9) hX dX9_areSame_9 ly_4 1 (et_t1 w) ka_368 ?_
    refine zi_icmp_gt (pc := 10) 26 hX dX9_areSame_10 (by decide) (fun _ => ?_) (fun _ => ?_)
    · refine zi_iconst (pc := 26) hX dX9_areSame_26 ki_0 ?_
      exact zi_ret (pc := 27) hX dX9_areSame_27 et_z0 rfl rfl rfl
    · refine zi_iload3 (pc := 13) hX dX9_areSame_13 ?_
      refine zi_if_lt (pc := 14) 26 hX dX9_areSame_14 (by decide) (fun _ => ?_) (fun _ => ?_)
      · refine zi_iconst (pc := 26) hX dX9_areSame_26 ki_0 ?_
        exact zi_ret (pc := 27) hX dX9_areSame_27 et_z0 rfl rfl rfl
      · refine zi_iload3 (pc := 17) hX dX9_areSame_17 ?_
        refine zi_iload4 (pc := 18) hX dX9_areSame_18 ?_
        refine zi_iadd (pc := 20) hX dX9_areSame_20 ?_
        refine zi_aload2 (pc := 21) hX dX9_areSame_21 ?_
        refine zi_alen (pc := 22) hX dX9_areSame_22 ly_4 1 (et_t1 w) ka_368 ?_
        refine zi_icmp_le (pc := 23) 28 hX dX9_areSame_23 (by decide) (fun _ => ?_) (fun _ => ?_)
        · refine zi_iconst (pc := 28) hX dX9_areSame_28 ki_0 ?_
          refine zi_istore5 (pc := 29) hX dX9_areSame_29 rfl rfl ?_
          exact zp_Et_areSame_4_4_31 hX p1 p3 p4 1000000 (0 : Int32) g
        · refine zi_iconst (pc := 26) hX dX9_areSame_26 ki_0 ?_
          exact zi_ret (pc := 27) hX dX9_areSame_27 et_z0 rfl rfl rfl
theorem ct_Et_areSame_4_4 {w : et_W} (hw : et_Sane w) (p1 : Int32) (p3 : Int32) (p4 : Int32) (g : et_G) : et_C w yX9_areSame (Cond.code yX9_areSame cX9_areSame 6 (some .boolean)) rm_Et_areSame_4_4 et_eI [.ref (et_ad w 4), .int p1, .ref (et_ad w 4), .int p3, .int p4] g (fn_Et_areSame_4_4 p1 p3 p4 g) := et_mk hw (by decide) rfl rfl (fun X hX => zw_Et_areSame_4_4 hX p1 p3 p4 g)
def rm_To_standsAt : Room := { frames := 1, cells := 0, slots := 0, locals := 25 }
def fn_To_standsAt (p1 : Int32) (p2 : Int32) (p3 : Int32) (g : et_G) : Option (Int32 × et_G) :=
  if p2 < 0 then
    some ((0 : Int32), g)
  else
    et_ck (et_ib p3 46) (
    et_ck (et_ib p1 46) (
    if (g.1 5 p1.toNatClampNeg) < (p2 + (g.1 5 p3.toNatClampNeg)) then
      some ((0 : Int32), g)
    else
      et_ck (et_ib p3 46) (
      et_bd (fn_Et_areSame_4_4 ((p1 * (8 : Int32)) + p2) (p3 * (8 : Int32)) (g.1 5 p3.toNatClampNeg) g) (fun v1 g2 =>
      if v1 = 0 then
        some ((0 : Int32), g2)
      else
        some ((1 : Int32), g2)))))
theorem zw_To_standsAt {X : et_X} {w : et_W} (hX : et_Gd X w cX5_standsAt RX5 4 (some .boolean) [] rm_To_standsAt) (p1 : Int32) (p2 : Int32) (p3 : Int32) (g : et_G) : et_Z X w 0 et_eI 0 [some (.ref (et_ad w 3)), some (.int p1), some (.int p2), some (.int p3)] [] g (fn_To_standsAt p1 p2 p3 g) := by
  unfold fn_To_standsAt
  refine zi_iload2 (pc := 0) hX dX5_standsAt_0 ?_
  refine zi_if_lt (pc := 1) 55 hX dX5_standsAt_1 (by decide) (fun _ => ?_) (fun _ => ?_)
  · refine zi_iconst (pc := 55) hX dX5_standsAt_55 ki_0 ?_
    exact zi_ret (pc := 56) hX dX5_standsAt_56 et_z0 rfl rfl rfl
  · refine zi_iload2 (pc := 4) hX dX5_standsAt_4 ?_
    refine zi_aload0 (pc := 5) hX dX5_standsAt_5 ?_
    refine zi_getr (q := 5) (pc := 6) hX dX5_standsAt_6 fl_157 ly_3 rfl ?_
    refine zi_iload3 (pc := 9) hX dX5_standsAt_9 ?_
    refine zi_iald (pc := 10) hX dX5_standsAt_10 ly_5 ?_
    refine zi_iadd (pc := 11) hX dX5_standsAt_11 ?_
    refine zi_aload0 (pc := 12) hX dX5_standsAt_12 ?_
    refine zi_getr (q := 5) (pc := 13) hX dX5_standsAt_13 fl_157 ly_3 rfl ?_
    refine zi_iload1 (pc := 16) hX dX5_standsAt_16 ?_
    refine zi_iald (pc := 17) hX dX5_standsAt_17 ly_5 ?_
    refine zi_icmp_gt (pc := 18) 55 hX dX5_standsAt_18 (by decide) (fun _ => ?_) (fun _ => ?_)
    · refine zi_iconst (pc := 55) hX dX5_standsAt_55 ki_0 ?_
      exact zi_ret (pc := 56) hX dX5_standsAt_56 et_z0 rfl rfl rfl
    · refine zi_aload0 (pc := 21) hX dX5_standsAt_21 ?_
      refine zi_getr (q := 4) (pc := 22) hX dX5_standsAt_22 fl_156 ly_3 rfl ?_
      refine zi_iload1 (pc := 25) hX dX5_standsAt_25 ?_
      refine zi_bipush (pc := 26) hX dX5_standsAt_26 kb_8 ?_
      refine zi_imul (pc := 28) hX dX5_standsAt_28 ?_
      refine zi_iload2 (pc := 29) hX dX5_standsAt_29 ?_
      refine zi_iadd (pc := 30) hX dX5_standsAt_30 ?_
      refine zi_aload0 (pc := 31) hX dX5_standsAt_31 ?_
      refine zi_getr (q := 4) (pc := 32) hX dX5_standsAt_32 fl_156 ly_3 rfl ?_
      refine zi_iload3 (pc := 35) hX dX5_standsAt_35 ?_
      refine zi_bipush (pc := 36) hX dX5_standsAt_36 kb_8 ?_
      refine zi_imul (pc := 38) hX dX5_standsAt_38 ?_
      refine zi_aload0 (pc := 39) hX dX5_standsAt_39 ?_
      refine zi_getr (q := 5) (pc := 40) hX dX5_standsAt_40 fl_157 ly_3 rfl ?_
      refine zi_iload3 (pc := 43) hX dX5_standsAt_43 ?_
      refine zi_iald (pc := 44) hX dX5_standsAt_44 ly_5 ?_
      refine zi_callI (zc_nest (pc := 45) hX dX5_standsAt_45 nl_1087 md_X9_areSame st_X9_areSame (ct_Et_areSame_4_4 hX.sane ((p1 * (8 : Int32)) + p2) (p3 * (8 : Int32)) (g.1 5 p3.toNatClampNeg) g) rfl rfl rfl) (fun v1 g2 => ?_)
      refine zi_if_eq (pc := 48) 55 hX dX5_standsAt_48 (by decide) (fun _ => ?_) (fun _ => ?_)
      · refine zi_iconst (pc := 55) hX dX5_standsAt_55 ki_0 ?_
        exact zi_ret (pc := 56) hX dX5_standsAt_56 et_z0 rfl rfl rfl
      · refine zi_iconst (pc := 51) hX dX5_standsAt_51 ki_1 ?_
        refine zi_goto (pc := 52) 56 hX dX5_standsAt_52 (by decide) ?_
        exact zi_ret (pc := 56) hX dX5_standsAt_56 et_z1 rfl rfl rfl
theorem ct_To_standsAt {w : et_W} (hw : et_Sane w) (p1 : Int32) (p2 : Int32) (p3 : Int32) (g : et_G) : et_C w yX5_standsAt (Cond.code yX5_standsAt cX5_standsAt 4 (some .boolean)) rm_To_standsAt et_eI [.ref (et_ad w 3), .int p1, .int p2, .int p3] g (fn_To_standsAt p1 p2 p3 g) := et_mk hw (by decide) rfl rfl (fun X hX => zw_To_standsAt hX p1 p2 p3 g)
def rm_To_firstChange : Room := { frames := 2, cells := 0, slots := 0, locals := 48 }
def fn_To_firstChange_2 (x1 : Int32) (x2 : Int32) : Nat → Int32 → et_G → Option (Int32 × et_G)
  | 0, _, _ => none
  | n + 1, x3, g =>
    if (g.1 3 3) ≤ x3 then
      some ((-1 : Int32), g)
    else
      et_bd (fn_To_changeSlot x3 (0 : Int32) g) (fun v1 g2 =>
      et_ck (et_ib x1 46) (
      et_ck (et_ib v1 46) (
      et_bd (fn_To_standsAt x1 ((g2.1 5 x1.toNatClampNeg) - (g2.1 5 v1.toNatClampNeg)) v1 g2) (fun v3 g4 =>
      if v3 = 0 then
        et_b (x3 + (1 : Int32)) (fun v5 =>
        fn_To_firstChange_2 x1 x2 n v5 g4)
      else
        et_bd (fn_To_changeSlot x3 (1 : Int32) g4) (fun v6 g7 =>
        et_bd (fn_To_standsAt x2 (0 : Int32) v6 g7) (fun v8 g9 =>
        if v8 = 0 then
          et_b (x3 + (1 : Int32)) (fun v10 =>
          fn_To_firstChange_2 x1 x2 n v10 g9)
        else
          some (x3, g9)))))))
def fn_To_firstChange (p1 : Int32) (p2 : Int32) (g : et_G) : Option (Int32 × et_G) :=
  fn_To_firstChange_2 p1 p2 1000000 (0 : Int32) g
theorem zp_To_firstChange_2 {X : et_X} {w : et_W} (hX : et_Gd X w cX5_firstChange RX5 5 (some .int) [] rm_To_firstChange) (x1 : Int32) (x2 : Int32) : ∀ (n : Nat) (x3 : Int32) (g : et_G), et_Z X w 0 et_eI 2 [some (.ref (et_ad w 3)), some (.int x1), some (.int x2), some (.int x3), none] [] g (fn_To_firstChange_2 x1 x2 n x3 g) := by
  intro n
  induction n with
  | zero =>
    intro x3 g a g2 h
    cases h
  | succ n ih =>
    intro x3 g
    rw [fn_To_firstChange_2]
    refine zi_iload3 (pc := 2) hX dX5_firstChange_2 ?_
    refine zi_aload0 (pc := 3) hX dX5_firstChange_3 ?_
    refine zi_geti (pc := 4) hX dX5_firstChange_4 fl_162 ly_3 rfl ?_
    refine zi_icmp_ge (pc := 7) 63 hX dX5_firstChange_7 (by decide) (fun _ => ?_) (fun _ => ?_)
    · refine zi_iconst (pc := 63) hX dX5_firstChange_63 ki_m1 ?_
      exact zi_ret (pc := 64) hX dX5_firstChange_64 rfl rfl rfl rfl
    · refine zi_iload3 (pc := 10) hX dX5_firstChange_10 ?_
      refine zi_iconst (pc := 11) hX dX5_firstChange_11 ki_0 ?_
      refine zi_callI (zc_stat (pc := 12) hX dX5_firstChange_12 tm_1082 md_X5_changeSlot st_X5_changeSlot (ct_To_changeSlot hX.sane x3 (0 : Int32) g) rfl rfl rfl) (fun v1 g2 => ?_)
      refine zi_istore4 (pc := 15) hX dX5_firstChange_15 rfl rfl ?_
      refine zi_aload0 (pc := 17) hX dX5_firstChange_17 ?_
      refine zi_iload1 (pc := 18) hX dX5_firstChange_18 ?_
      refine zi_aload0 (pc := 19) hX dX5_firstChange_19 ?_
      refine zi_getr (q := 5) (pc := 20) hX dX5_firstChange_20 fl_157 ly_3 rfl ?_
      refine zi_iload1 (pc := 23) hX dX5_firstChange_23 ?_
      refine zi_iald (pc := 24) hX dX5_firstChange_24 ly_5 ?_
      refine zi_aload0 (pc := 25) hX dX5_firstChange_25 ?_
      refine zi_getr (q := 5) (pc := 26) hX dX5_firstChange_26 fl_157 ly_3 rfl ?_
      refine zi_iload4 (pc := 29) hX dX5_firstChange_29 ?_
      refine zi_iald (pc := 31) hX dX5_firstChange_31 ly_5 ?_
      refine zi_isub (pc := 32) hX dX5_firstChange_32 ?_
      refine zi_iload4 (pc := 33) hX dX5_firstChange_33 ?_
      refine zi_callI (zc_virt (pc := 35) hX dX5_firstChange_35 tm_1083 md_X5_standsAt mi_X5_standsAt ly_3 (ct_To_standsAt hX.sane x1 ((g2.1 5 x1.toNatClampNeg) - (g2.1 5 v1.toNatClampNeg)) v1 g2) rfl rfl rfl) (fun v3 g4 => ?_)
      refine zi_if_eq (pc := 38) 57 hX dX5_firstChange_38 (by decide) (fun _ => ?_) (fun _ => ?_)
      · refine zi_iincb3 (pc := 57) hX dX5_firstChange_57 (kn_1 _) rfl rfl (fun v5 => ?_)
        refine zi_goto (pc := 60) 2 hX dX5_firstChange_60 (by decide) ?_
        refine zi_drop (le_s (le_s (le_s (le_s (le_n le_nil))))) ?_; exact ih v5 g4
      · refine zi_aload0 (pc := 41) hX dX5_firstChange_41 ?_
        refine zi_iload2 (pc := 42) hX dX5_firstChange_42 ?_
        refine zi_iconst (pc := 43) hX dX5_firstChange_43 ki_0 ?_
        refine zi_iload3 (pc := 44) hX dX5_firstChange_44 ?_
        refine zi_iconst (pc := 45) hX dX5_firstChange_45 ki_1 ?_
        refine zi_callI (zc_stat (pc := 46) hX dX5_firstChange_46 tm_1082 md_X5_changeSlot st_X5_changeSlot (ct_To_changeSlot hX.sane x3 (1 : Int32) g4) rfl rfl rfl) (fun v6 g7 => ?_)
        refine zi_callI (zc_virt (pc := 49) hX dX5_firstChange_49 tm_1083 md_X5_standsAt mi_X5_standsAt ly_3 (ct_To_standsAt hX.sane x2 (0 : Int32) v6 g7) rfl rfl rfl) (fun v8 g9 => ?_)
        refine zi_if_eq (pc := 52) 57 hX dX5_firstChange_52 (by decide) (fun _ => ?_) (fun _ => ?_)
        · refine zi_iincb3 (pc := 57) hX dX5_firstChange_57 (kn_1 _) rfl rfl (fun v10 => ?_)
          refine zi_goto (pc := 60) 2 hX dX5_firstChange_60 (by decide) ?_
          refine zi_drop (le_s (le_s (le_s (le_s (le_n le_nil))))) ?_; exact ih v10 g9
        · refine zi_iload3 (pc := 55) hX dX5_firstChange_55 ?_
          exact zi_ret (pc := 56) hX dX5_firstChange_56 rfl rfl rfl rfl
theorem zw_To_firstChange {X : et_X} {w : et_W} (hX : et_Gd X w cX5_firstChange RX5 5 (some .int) [] rm_To_firstChange) (p1 : Int32) (p2 : Int32) (g : et_G) : et_Z X w 0 et_eI 0 [some (.ref (et_ad w 3)), some (.int p1), some (.int p2), none, none] [] g (fn_To_firstChange p1 p2 g) := by
  unfold fn_To_firstChange
  refine zi_iconst (pc := 0) hX dX5_firstChange_0 ki_0 ?_
  refine zi_istore3 (pc := 1) hX dX5_firstChange_1 rfl rfl ?_
  exact zp_To_firstChange_2 hX p1 p2 1000000 (0 : Int32) g
theorem ct_To_firstChange {w : et_W} (hw : et_Sane w) (p1 : Int32) (p2 : Int32) (g : et_G) : et_C w yX5_firstChange (Cond.code yX5_firstChange cX5_firstChange 5 (some .int)) rm_To_firstChange et_eI [.ref (et_ad w 3), .int p1, .int p2] g (fn_To_firstChange p1 p2 g) := et_mk hw (by decide) rfl rfl (fun X hX => zw_To_firstChange hX p1 p2 g)
def rm_To_add : Room := { frames := 0, cells := 0, slots := 0, locals := 0 }
def fn_To_add_3 (x1 : Int32) (x3 : Int32) : Nat → Int32 → et_G → Option (Unit × et_G)
  | 0, _, _ => none
  | n + 1, x4, g =>
    if x3 ≤ x4 then
      some ((), g)
    else
      if (24 : Int32) ≤ (g.1 3 5) then
        et_b (x4 + (1 : Int32)) (fun v1 =>
        fn_To_add_3 x1 x3 n v1 g)
      else
        et_ck (et_ib ((x1 * (8 : Int32)) + x4) 368) (
        et_ck (et_ib (g.1 3 5) 24) (et_b (et_si g 6 (g.1 3 5).toNatClampNeg (vp_nar .byte (g.1 4 ((x1 * (8 : Int32)) + x4).toNatClampNeg))) (fun g2 =>
        et_b (et_si g2 3 5 ((g2.1 3 5) + (1 : Int32))) (fun g3 =>
        et_b (x4 + (1 : Int32)) (fun v4 =>
        fn_To_add_3 x1 x3 n v4 g3)))))
def fn_To_add (p1 : Int32) (p2 : Int32) (p3 : Int32) (g : et_G) : Option (Unit × et_G) :=
  fn_To_add_3 p1 p3 1000000 p2 g
theorem zp_To_add_3 {X : et_X} {w : et_W} (hX : et_Gd X w cX5_add RX5 5 (none) [] rm_To_add) (x1 : Int32) (x3 : Int32) : ∀ (n : Nat) (x4 : Int32) (g : et_G), et_Z X w 0 et_eU 3 [some (.ref (et_ad w 3)), some (.int x1), none, some (.int x3), some (.int x4)] [] g (fn_To_add_3 x1 x3 n x4 g) := by
  intro n
  induction n with
  | zero =>
    intro x4 g a g2 h
    cases h
  | succ n ih =>
    intro x4 g
    rw [fn_To_add_3]
    refine zi_iload4 (pc := 3) hX dX5_add_3 ?_
    refine zi_iload3 (pc := 5) hX dX5_add_5 ?_
    refine zi_icmp_ge (pc := 6) 55 hX dX5_add_6 (by decide) (fun _ => ?_) (fun _ => ?_)
    · exact zi_vret (pc := 55) hX dX5_add_55 rfl rfl rfl
    · refine zi_aload0 (pc := 9) hX dX5_add_9 ?_
      refine zi_geti (pc := 10) hX dX5_add_10 fl_167 ly_3 rfl ?_
      refine zi_bipush (pc := 13) hX dX5_add_13 kb_24 ?_
      refine zi_icmp_ge (pc := 15) 49 hX dX5_add_15 (by decide) (fun _ => ?_) (fun _ => ?_)
      · refine zi_iincb4 (pc := 49) hX dX5_add_49 (kn_1 _) rfl rfl (fun v1 => ?_)
        refine zi_goto (pc := 52) 3 hX dX5_add_52 (by decide) ?_
        exact ih v1 g
      · refine zi_aload0 (pc := 18) hX dX5_add_18 ?_
        refine zi_getr (q := 6) (pc := 19) hX dX5_add_19 fl_165 ly_3 rfl ?_
        refine zi_aload0 (pc := 22) hX dX5_add_22 ?_
        refine zi_geti (pc := 23) hX dX5_add_23 fl_167 ly_3 rfl ?_
        refine zi_aload0 (pc := 26) hX dX5_add_26 ?_
        refine zi_getr (q := 4) (pc := 27) hX dX5_add_27 fl_156 ly_3 rfl ?_
        refine zi_iload1 (pc := 30) hX dX5_add_30 ?_
        refine zi_bipush (pc := 31) hX dX5_add_31 kb_8 ?_
        refine zi_imul (pc := 33) hX dX5_add_33 ?_
        refine zi_iload4 (pc := 34) hX dX5_add_34 ?_
        refine zi_iadd (pc := 36) hX dX5_add_36 ?_
        refine zi_bald (pc := 37) hX dX5_add_37 ly_4 ?_
        refine zi_bast (pc := 38) hX dX5_add_38 ly_6 (zi_bg (fun g2 => ?_))
        refine zi_aload0 (pc := 39) hX dX5_add_39 ?_
        refine zi_dup (pc := 40) hX dX5_add_40 rfl ?_
        refine zi_geti (pc := 41) hX dX5_add_41 fl_167 ly_3 rfl ?_
        refine zi_iconst (pc := 44) hX dX5_add_44 ki_1 ?_
        refine zi_iadd (pc := 45) hX dX5_add_45 ?_
        refine zi_puti (pc := 46) hX dX5_add_46 fl_167 ly_3 rfl rfl rfl (zi_bg (fun g3 => ?_))
        refine zi_iincb4 (pc := 49) hX dX5_add_49 (kn_1 _) rfl rfl (fun v4 => ?_)
        refine zi_goto (pc := 52) 3 hX dX5_add_52 (by decide) ?_
        exact ih v4 g3
theorem zw_To_add {X : et_X} {w : et_W} (hX : et_Gd X w cX5_add RX5 5 (none) [] rm_To_add) (p1 : Int32) (p2 : Int32) (p3 : Int32) (g : et_G) : et_Z X w 0 et_eU 0 [some (.ref (et_ad w 3)), some (.int p1), some (.int p2), some (.int p3), none] [] g (fn_To_add p1 p2 p3 g) := by
  unfold fn_To_add
  refine zi_iload2 (pc := 0) hX dX5_add_0 ?_
  refine zi_istore4 (pc := 1) hX dX5_add_1 rfl rfl ?_
  refine zi_drop (le_s (le_s (le_n (le_s (le_s le_nil))))) ?_; exact zp_To_add_3 hX p1 p3 1000000 p2 g
theorem ct_To_add {w : et_W} (hw : et_Sane w) (p1 : Int32) (p2 : Int32) (p3 : Int32) (g : et_G) : et_C w yX5_add (Cond.code yX5_add cX5_add 5 (none)) rm_To_add et_eU [.ref (et_ad w 3), .int p1, .int p2, .int p3] g (fn_To_add p1 p2 p3 g) := et_mk hw (by decide) rfl rfl (fun X hX => zw_To_add hX p1 p2 p3 g)
def rm_To_make : Room := { frames := 3, cells := 0, slots := 0, locals := 72 }
def fn_To_make (p1 : Int32) (p2 : Int32) (p3 : Int32) (g : et_G) : Option (Int32 × et_G) :=
  et_bd (fn_To_endingSlot p2 p3 g) (fun v1 g2 =>
  et_b (et_si g2 3 5 (0 : Int32)) (fun g3 =>
  et_ck (et_ib v1 46) (
  if (g3.1 5 v1.toNatClampNeg) = 0 then
    some ((0 : Int32), g3)
  else
    et_bd (fn_To_firstChange p1 v1 g3) (fun v4 g5 =>
    if v4 = (-1 : Int32) then
      et_ck (et_ib p1 46) (
      et_bd (fn_To_add p1 (0 : Int32) (g5.1 5 p1.toNatClampNeg) g5) (fun _ g19 =>
      et_ck (et_ib v1 46) (
      et_bd (fn_To_add v1 (0 : Int32) (g19.1 5 v1.toNatClampNeg) g19) (fun _ g21 =>
      some (g21.1 3 5, g21)))))
    else
      et_bd (fn_To_changeSlot v4 (2 : Int32) g5) (fun v6 g7 =>
      et_ck (et_ib p1 46) (
      et_bd (fn_To_changeSlot v4 (0 : Int32) g7) (fun v8 g9 =>
      et_ck (et_ib v8 46) (
      et_bd (fn_To_add p1 (0 : Int32) ((g7.1 5 p1.toNatClampNeg) - (g9.1 5 v8.toNatClampNeg)) g9) (fun _ g11 =>
      et_ck (et_ib v6 46) (
      et_bd (fn_To_add v6 (0 : Int32) (g11.1 5 v6.toNatClampNeg) g11) (fun _ g13 =>
      et_bd (fn_To_changeSlot v4 (1 : Int32) g13) (fun v14 g15 =>
      et_ck (et_ib v14 46) (
      et_ck (et_ib v1 46) (
      et_bd (fn_To_add v1 (g15.1 5 v14.toNatClampNeg) (g15.1 5 v1.toNatClampNeg) g15) (fun _ g17 =>
      some (g17.1 3 5, g17))))))))))))))))
theorem zw_To_make {X : et_X} {w : et_W} (hX : et_Gd X w cX5_make RX5 7 (some .int) [] rm_To_make) (p1 : Int32) (p2 : Int32) (p3 : Int32) (g : et_G) : et_Z X w 0 et_eI 0 [some (.ref (et_ad w 3)), some (.int p1), some (.int p2), some (.int p3), none, none, none] [] g (fn_To_make p1 p2 p3 g) := by
  unfold fn_To_make
  refine zi_iload2 (pc := 0) hX dX5_make_0 ?_
  refine zi_iload3 (pc := 1) hX dX5_make_1 ?_
  refine zi_callI (zc_stat (pc := 2) hX dX5_make_2 tm_904 md_X5_endingSlot st_X5_endingSlot (ct_To_endingSlot hX.sane p2 p3 g) rfl rfl rfl) (fun v1 g2 => ?_)
  refine zi_istore4 (pc := 5) hX dX5_make_5 rfl rfl ?_
  refine zi_aload0 (pc := 7) hX dX5_make_7 ?_
  refine zi_iconst (pc := 8) hX dX5_make_8 ki_0 ?_
  refine zi_puti (pc := 9) hX dX5_make_9 fl_167 ly_3 rfl rfl rfl (zi_bg (fun g3 => ?_))
  refine zi_aload0 (pc := 12) hX dX5_make_12 ?_
  refine zi_getr (q := 5) (pc := 13) hX dX5_make_13 fl_157 ly_3 rfl ?_
  refine zi_iload4 (pc := 16) hX dX5_make_16 ?_
  refine zi_iald (pc := 18) hX dX5_make_18 ly_5 ?_
  refine zi_if_ne (pc := 19) 24 hX dX5_make_19 (by decide) (fun _ => ?_) (fun _ => ?_)
  · refine zi_iconst (pc := 22) hX dX5_make_22 ki_0 ?_
    exact zi_ret (pc := 23) hX dX5_make_23 rfl rfl rfl rfl
  · refine zi_aload0 (pc := 24) hX dX5_make_24 ?_
    refine zi_iload1 (pc := 25) hX dX5_make_25 ?_
    refine zi_iload4 (pc := 26) hX dX5_make_26 ?_
    refine zi_callI (zc_virt (pc := 28) hX dX5_make_28 tm_1078 md_X5_firstChange mi_X5_firstChange ly_3 (ct_To_firstChange hX.sane p1 v1 g3) rfl rfl rfl) (fun v4 g5 => ?_)
    refine zi_istore5 (pc := 31) hX dX5_make_31 rfl rfl ?_
    refine zi_iload5 (pc := 33) hX dX5_make_33 ?_
    refine zi_iconst (pc := 35) hX dX5_make_35 ki_m1 ?_
    refine zi_icmp_ne (pc := 36) 68 hX dX5_make_36 (by decide) (fun _ => ?_) (fun _ => ?_)
    · refine zi_aload0 (pc := 39) hX dX5_make_39 ?_
      refine zi_iload1 (pc := 40) hX dX5_make_40 ?_
      refine zi_iconst (pc := 41) hX dX5_make_41 ki_0 ?_
      refine zi_aload0 (pc := 42) hX dX5_make_42 ?_
      refine zi_getr (q := 5) (pc := 43) hX dX5_make_43 fl_157 ly_3 rfl ?_
      refine zi_iload1 (pc := 46) hX dX5_make_46 ?_
      refine zi_iald (pc := 47) hX dX5_make_47 ly_5 ?_
      refine zi_callU (zc_virt (pc := 48) hX dX5_make_48 tm_1090 md_X5_add mi_X5_add ly_3 (ct_To_add hX.sane p1 (0 : Int32) (g5.1 5 p1.toNatClampNeg) g5) rfl rfl rfl) (fun g19 => ?_)
      refine zi_aload0 (pc := 51) hX dX5_make_51 ?_
      refine zi_iload4 (pc := 52) hX dX5_make_52 ?_
      refine zi_iconst (pc := 54) hX dX5_make_54 ki_0 ?_
      refine zi_aload0 (pc := 55) hX dX5_make_55 ?_
      refine zi_getr (q := 5) (pc := 56) hX dX5_make_56 fl_157 ly_3 rfl ?_
      refine zi_iload4 (pc := 59) hX dX5_make_59 ?_
      refine zi_iald (pc := 61) hX dX5_make_61 ly_5 ?_
      refine zi_callU (zc_virt (pc := 62) hX dX5_make_62 tm_1090 md_X5_add mi_X5_add ly_3 (ct_To_add hX.sane v1 (0 : Int32) (g19.1 5 v1.toNatClampNeg) g19) rfl rfl rfl) (fun g21 => ?_)
      refine zi_goto (pc := 65) 138 hX dX5_make_65 (by decide) ?_
      refine zi_aload0 (pc := 138) hX dX5_make_138 ?_
      refine zi_geti (pc := 139) hX dX5_make_139 fl_167 ly_3 rfl ?_
      exact zi_ret (pc := 142) hX dX5_make_142 rfl rfl rfl rfl
    · refine zi_iload5 (pc := 68) hX dX5_make_68 ?_
      refine zi_iconst (pc := 70) hX dX5_make_70 ki_2 ?_
      refine zi_callI (zc_stat (pc := 71) hX dX5_make_71 tm_1082 md_X5_changeSlot st_X5_changeSlot (ct_To_changeSlot hX.sane v4 (2 : Int32) g5) rfl rfl rfl) (fun v6 g7 => ?_)
      refine zi_istore6 (pc := 74) hX dX5_make_74 rfl rfl ?_
      refine zi_aload0 (pc := 76) hX dX5_make_76 ?_
      refine zi_iload1 (pc := 77) hX dX5_make_77 ?_
      refine zi_iconst (pc := 78) hX dX5_make_78 ki_0 ?_
      refine zi_aload0 (pc := 79) hX dX5_make_79 ?_
      refine zi_getr (q := 5) (pc := 80) hX dX5_make_80 fl_157 ly_3 rfl ?_
      refine zi_iload1 (pc := 83) hX dX5_make_83 ?_
      refine zi_iald (pc := 84) hX dX5_make_84 ly_5 ?_
      refine zi_aload0 (pc := 85) hX dX5_make_85 ?_
      refine zi_getr (q := 5) (pc := 86) hX dX5_make_86 fl_157 ly_3 rfl ?_
      refine zi_iload5 (pc := 89) hX dX5_make_89 ?_
      refine zi_iconst (pc := 91) hX dX5_make_91 ki_0 ?_
      refine zi_callI (zc_stat (pc := 92) hX dX5_make_92 tm_1082 md_X5_changeSlot st_X5_changeSlot (ct_To_changeSlot hX.sane v4 (0 : Int32) g7) rfl rfl rfl) (fun v8 g9 => ?_)
      refine zi_iald (pc := 95) hX dX5_make_95 ly_5 ?_
      refine zi_isub (pc := 96) hX dX5_make_96 ?_
      refine zi_callU (zc_virt (pc := 97) hX dX5_make_97 tm_1090 md_X5_add mi_X5_add ly_3 (ct_To_add hX.sane p1 (0 : Int32) ((g7.1 5 p1.toNatClampNeg) - (g9.1 5 v8.toNatClampNeg)) g9) rfl rfl rfl) (fun g11 => ?_)
      refine zi_aload0 (pc := 100) hX dX5_make_100 ?_
      refine zi_iload6 (pc := 101) hX dX5_make_101 ?_
      refine zi_iconst (pc := 103) hX dX5_make_103 ki_0 ?_
      refine zi_aload0 (pc := 104) hX dX5_make_104 ?_
      refine zi_getr (q := 5) (pc := 105) hX dX5_make_105 fl_157 ly_3 rfl ?_
      refine zi_iload6 (pc := 108) hX dX5_make_108 ?_
      refine zi_iald (pc := 110) hX dX5_make_110 ly_5 ?_
      refine zi_callU (zc_virt (pc := 111) hX dX5_make_111 tm_1090 md_X5_add mi_X5_add ly_3 (ct_To_add hX.sane v6 (0 : Int32) (g11.1 5 v6.toNatClampNeg) g11) rfl rfl rfl) (fun g13 => ?_)
      refine zi_aload0 (pc := 114) hX dX5_make_114 ?_
      refine zi_iload4 (pc := 115) hX dX5_make_115 ?_
      refine zi_aload0 (pc := 117) hX dX5_make_117 ?_
      refine zi_getr (q := 5) (pc := 118) hX dX5_make_118 fl_157 ly_3 rfl ?_
      refine zi_iload5 (pc := 121) hX dX5_make_121 ?_
      refine zi_iconst (pc := 123) hX dX5_make_123 ki_1 ?_
      refine zi_callI (zc_stat (pc := 124) hX dX5_make_124 tm_1082 md_X5_changeSlot st_X5_changeSlot (ct_To_changeSlot hX.sane v4 (1 : Int32) g13) rfl rfl rfl) (fun v14 g15 => ?_)
      refine zi_iald (pc := 127) hX dX5_make_127 ly_5 ?_
      refine zi_aload0 (pc := 128) hX dX5_make_128 ?_
      refine zi_getr (q := 5) (pc := 129) hX dX5_make_129 fl_157 ly_3 rfl ?_
      refine zi_iload4 (pc := 132) hX dX5_make_132 ?_
      refine zi_iald (pc := 134) hX dX5_make_134 ly_5 ?_
      refine zi_callU (zc_virt (pc := 135) hX dX5_make_135 tm_1090 md_X5_add mi_X5_add ly_3 (ct_To_add hX.sane v1 (g15.1 5 v14.toNatClampNeg) (g15.1 5 v1.toNatClampNeg) g15) rfl rfl rfl) (fun g17 => ?_)
      refine zi_aload0 (pc := 138) hX dX5_make_138 ?_
      refine zi_geti (pc := 139) hX dX5_make_139 fl_167 ly_3 rfl ?_
      exact zi_ret (pc := 142) hX dX5_make_142 rfl rfl rfl rfl
theorem ct_To_make {w : et_W} (hw : et_Sane w) (p1 : Int32) (p2 : Int32) (p3 : Int32) (g : et_G) : et_C w yX5_make (Cond.code yX5_make cX5_make 7 (some .int)) rm_To_make et_eI [.ref (et_ad w 3), .int p1, .int p2, .int p3] g (fn_To_make p1 p2 p3 g) := et_mk hw (by decide) rfl rfl (fun X hX => zw_To_make hX p1 p2 p3 g)
def rm_Et_areSame_6_1 : Room := { frames := 0, cells := 0, slots := 0, locals := 0 }
def fn_Et_areSame_6_1_31 (x1 : Int32) (x3 : Int32) (x4 : Int32) : Nat → Int32 → et_G → Option (Int32 × et_G)
  | 0, _, _ => none
  | n + 1, x5, g =>
    if x4 ≤ x5 then
      some ((1 : Int32), g)
    else
      et_ck (et_ib (x1 + x5) 24) (
      et_ck (et_ib (x3 + x5) 800) (
      if (g.1 6 (x1 + x5).toNatClampNeg) = (g.1 1 (x3 + x5).toNatClampNeg) then
        et_b (x5 + (1 : Int32)) (fun v1 =>
        fn_Et_areSame_6_1_31 x1 x3 x4 n v1 g)
      else
        some ((0 : Int32), g)))
def fn_Et_areSame_6_1 (p1 : Int32) (p3 : Int32) (p4 : Int32) (g : et_G) : Option (Int32 × et_G) :=
  if p1 < 0 then
    some ((0 : Int32), g)
  else
    if (24 : Int32) < (p1 + p4) then
      some ((0 : Int32), g)
    else
      if p3 < 0 then
        some ((0 : Int32), g)
      else
        if (p3 + p4) ≤ (800 : Int32) then
          fn_Et_areSame_6_1_31 p1 p3 p4 1000000 (0 : Int32) g
        else
          some ((0 : Int32), g)
theorem zp_Et_areSame_6_1_31 {X : et_X} {w : et_W} (hX : et_Gd X w cX9_areSame RX9 6 (some .boolean) [] rm_Et_areSame_6_1) (x1 : Int32) (x3 : Int32) (x4 : Int32) : ∀ (n : Nat) (x5 : Int32) (g : et_G), et_Z X w 0 et_eI 31 [some (.ref (et_ad w 6)), some (.int x1), some (.ref (et_ad w 1)), some (.int x3), some (.int x4), some (.int x5)] [] g (fn_Et_areSame_6_1_31 x1 x3 x4 n x5 g) := by
  intro n
  induction n with
  | zero =>
    intro x5 g a g2 h
    cases h
  | succ n ih =>
    intro x5 g
    rw [fn_Et_areSame_6_1_31]
    refine zi_iload5 (pc := 31) hX dX9_areSame_31 ?_
    refine zi_iload4 (pc := 33) hX dX9_areSame_33 ?_
    refine zi_icmp_ge (pc := 35) 61 hX dX9_areSame_35 (by decide) (fun _ => ?_) (fun _ => ?_)
    · refine zi_iconst (pc := 61) hX dX9_areSame_61 ki_1 ?_
      exact zi_ret (pc := 62) hX dX9_areSame_62 et_z1 rfl rfl rfl
    · refine zi_aload0 (pc := 38) hX dX9_areSame_38 ?_
      refine zi_iload1 (pc := 39) hX dX9_areSame_39 ?_
      refine zi_iload5 (pc := 40) hX dX9_areSame_40 ?_
      refine zi_iadd (pc := 42) hX dX9_areSame_42 ?_
      refine zi_bald (pc := 43) hX dX9_areSame_43 ly_6 ?_
      refine zi_aload2 (pc := 44) hX dX9_areSame_44 ?_
      refine zi_iload3 (pc := 45) hX dX9_areSame_45 ?_
      refine zi_iload5 (pc := 46) hX dX9_areSame_46 ?_
      refine zi_iadd (pc := 48) hX dX9_areSame_48 ?_
      refine zi_bald (pc := 49) hX dX9_areSame_49 ly_1 ?_
      refine zi_icmp_eq (pc := 50) 55 hX dX9_areSame_50 (by decide) (fun _ => ?_) (fun _ => ?_)
      · refine zi_iincb5 (pc := 55) hX dX9_areSame_55 (kn_1 _) rfl rfl (fun v1 => ?_)
        refine zi_goto (pc := 58) 31 hX dX9_areSame_58 (by decide) ?_
        exact ih v1 g
      · refine zi_iconst (pc := 53) hX dX9_areSame_53 ki_0 ?_
        exact zi_ret (pc := 54) hX dX9_areSame_54 et_z0 rfl rfl rfl
theorem zw_Et_areSame_6_1 {X : et_X} {w : et_W} (hX : et_Gd X w cX9_areSame RX9 6 (some .boolean) [] rm_Et_areSame_6_1) (p1 : Int32) (p3 : Int32) (p4 : Int32) (g : et_G) : et_Z X w 0 et_eI 0 [some (.ref (et_ad w 6)), some (.int p1), some (.ref (et_ad w 1)), some (.int p3), some (.int p4), none] [] g (fn_Et_areSame_6_1 p1 p3 p4 g) := by
  unfold fn_Et_areSame_6_1
  refine zi_iload1 (pc := 0) hX dX9_areSame_0 ?_
  refine zi_if_lt (pc := 1) 26 hX dX9_areSame_1 (by decide) (fun _ => ?_) (fun _ => ?_)
  · refine zi_iconst (pc := 26) hX dX9_areSame_26 ki_0 ?_
    exact zi_ret (pc := 27) hX dX9_areSame_27 et_z0 rfl rfl rfl
  · refine zi_iload1 (pc := 4) hX dX9_areSame_4 ?_
    refine zi_iload4 (pc := 5) hX dX9_areSame_5 ?_
    refine zi_iadd (pc := 7) hX dX9_areSame_7 ?_
    refine zi_aload0 (pc := 8) hX dX9_areSame_8 ?_
    refine zi_alen (pc := 9) hX dX9_areSame_9 ly_6 1 (et_t1 w) ka_24 ?_
    refine zi_icmp_gt (pc := 10) 26 hX dX9_areSame_10 (by decide) (fun _ => ?_) (fun _ => ?_)
    · refine zi_iconst (pc := 26) hX dX9_areSame_26 ki_0 ?_
      exact zi_ret (pc := 27) hX dX9_areSame_27 et_z0 rfl rfl rfl
    · refine zi_iload3 (pc := 13) hX dX9_areSame_13 ?_
      refine zi_if_lt (pc := 14) 26 hX dX9_areSame_14 (by decide) (fun _ => ?_) (fun _ => ?_)
      · refine zi_iconst (pc := 26) hX dX9_areSame_26 ki_0 ?_
        exact zi_ret (pc := 27) hX dX9_areSame_27 et_z0 rfl rfl rfl
      · refine zi_iload3 (pc := 17) hX dX9_areSame_17 ?_
        refine zi_iload4 (pc := 18) hX dX9_areSame_18 ?_
        refine zi_iadd (pc := 20) hX dX9_areSame_20 ?_
        refine zi_aload2 (pc := 21) hX dX9_areSame_21 ?_
        refine zi_alen (pc := 22) hX dX9_areSame_22 ly_1 1 (et_t1 w) ka_800 ?_
        refine zi_icmp_le (pc := 23) 28 hX dX9_areSame_23 (by decide) (fun _ => ?_) (fun _ => ?_)
        · refine zi_iconst (pc := 28) hX dX9_areSame_28 ki_0 ?_
          refine zi_istore5 (pc := 29) hX dX9_areSame_29 rfl rfl ?_
          exact zp_Et_areSame_6_1_31 hX p1 p3 p4 1000000 (0 : Int32) g
        · refine zi_iconst (pc := 26) hX dX9_areSame_26 ki_0 ?_
          exact zi_ret (pc := 27) hX dX9_areSame_27 et_z0 rfl rfl rfl
theorem ct_Et_areSame_6_1 {w : et_W} (hw : et_Sane w) (p1 : Int32) (p3 : Int32) (p4 : Int32) (g : et_G) : et_C w yX9_areSame (Cond.code yX9_areSame cX9_areSame 6 (some .boolean)) rm_Et_areSame_6_1 et_eI [.ref (et_ad w 6), .int p1, .ref (et_ad w 1), .int p3, .int p4] g (fn_Et_areSame_6_1 p1 p3 p4 g) := et_mk hw (by decide) rfl rfl (fun X hX => zw_Et_areSame_6_1 hX p1 p3 p4 g)
def rm_To_isMade_1 : Room := { frames := 1, cells := 0, slots := 0, locals := 25 }
def fn_To_isMade_1 (p2 : Int32) (p3 : Int32) (g : et_G) : Option (Int32 × et_G) :=
  if p3 = (g.1 3 5) then
    et_bd (fn_Et_areSame_6_1 (0 : Int32) p2 p3 g) (fun v1 g2 =>
    if v1 = 0 then
      some ((0 : Int32), g2)
    else
      some ((1 : Int32), g2))
  else
    some ((0 : Int32), g)
theorem zw_To_isMade_1 {X : et_X} {w : et_W} (hX : et_Gd X w cX5_isMade RX5 4 (some .boolean) [] rm_To_isMade_1) (p2 : Int32) (p3 : Int32) (g : et_G) : et_Z X w 0 et_eI 0 [some (.ref (et_ad w 3)), some (.ref (et_ad w 1)), some (.int p2), some (.int p3)] [] g (fn_To_isMade_1 p2 p3 g) := by
  unfold fn_To_isMade_1
  refine zi_iload3 (pc := 0) hX dX5_isMade_0 ?_
  refine zi_aload0 (pc := 1) hX dX5_isMade_1 ?_
  refine zi_geti (pc := 2) hX dX5_isMade_2 fl_167 ly_3 rfl ?_
  refine zi_icmp_ne (pc := 5) 26 hX dX5_isMade_5 (by decide) (fun _ => ?_) (fun _ => ?_)
  · refine zi_aload0 (pc := 8) hX dX5_isMade_8 ?_
    refine zi_getr (q := 6) (pc := 9) hX dX5_isMade_9 fl_165 ly_3 rfl ?_
    refine zi_iconst (pc := 12) hX dX5_isMade_12 ki_0 ?_
    refine zi_aload1 (pc := 13) hX dX5_isMade_13 ?_
    refine zi_iload2 (pc := 14) hX dX5_isMade_14 ?_
    refine zi_iload3 (pc := 15) hX dX5_isMade_15 ?_
    refine zi_callI (zc_nest (pc := 16) hX dX5_isMade_16 nl_1087 md_X9_areSame st_X9_areSame (ct_Et_areSame_6_1 hX.sane (0 : Int32) p2 p3 g) rfl rfl rfl) (fun v1 g2 => ?_)
    refine zi_if_eq (pc := 19) 26 hX dX5_isMade_19 (by decide) (fun _ => ?_) (fun _ => ?_)
    · refine zi_iconst (pc := 26) hX dX5_isMade_26 ki_0 ?_
      exact zi_ret (pc := 27) hX dX5_isMade_27 et_z0 rfl rfl rfl
    · refine zi_iconst (pc := 22) hX dX5_isMade_22 ki_1 ?_
      refine zi_goto (pc := 23) 27 hX dX5_isMade_23 (by decide) ?_
      exact zi_ret (pc := 27) hX dX5_isMade_27 et_z1 rfl rfl rfl
  · refine zi_iconst (pc := 26) hX dX5_isMade_26 ki_0 ?_
    exact zi_ret (pc := 27) hX dX5_isMade_27 et_z0 rfl rfl rfl
theorem ct_To_isMade_1 {w : et_W} (hw : et_Sane w) (p2 : Int32) (p3 : Int32) (g : et_G) : et_C w yX5_isMade (Cond.code yX5_isMade cX5_isMade 4 (some .boolean)) rm_To_isMade_1 et_eI [.ref (et_ad w 3), .ref (et_ad w 1), .int p2, .int p3] g (fn_To_isMade_1 p2 p3 g) := et_mk hw (by decide) rfl rfl (fun X hX => zw_To_isMade_1 hX p2 p3 g)
def rm_Wa_keep : Room := { frames := 0, cells := 0, slots := 0, locals := 0 }
def fn_Wa_keep (p1 : Int32) (g : et_G) : Option (Unit × et_G) :=
  if (180 : Int32) ≤ (g.1 29 1) then
    some ((), g)
  else
    et_ck (et_ib (g.1 29 1) 180) (et_b (et_si g 30 (g.1 29 1).toNatClampNeg p1) (fun g1 =>
    et_b (et_si g1 29 1 ((g1.1 29 1) + (1 : Int32))) (fun g2 =>
    some ((), g2))))
theorem zw_Wa_keep {X : et_X} {w : et_W} (hX : et_Gd X w cX8_keep RX8 2 (none) [] rm_Wa_keep) (p1 : Int32) (g : et_G) : et_Z X w 0 et_eU 0 [some (.ref (et_ad w 29)), some (.int p1)] [] g (fn_Wa_keep p1 g) := by
  unfold fn_Wa_keep
  refine zi_aload0 (pc := 0) hX dX8_keep_0 ?_
  refine zi_geti (pc := 1) hX dX8_keep_1 fl_311 ly_29 rfl ?_
  refine zi_aload0 (pc := 4) hX dX8_keep_4 ?_
  refine zi_getr (q := 30) (pc := 5) hX dX8_keep_5 fl_308 ly_29 rfl ?_
  refine zi_alen (pc := 8) hX dX8_keep_8 ly_30 0 (et_t0 w) ka_180 ?_
  refine zi_icmp_ge (pc := 9) 32 hX dX8_keep_9 (by decide) (fun _ => ?_) (fun _ => ?_)
  · exact zi_vret (pc := 32) hX dX8_keep_32 rfl rfl rfl
  · refine zi_aload0 (pc := 12) hX dX8_keep_12 ?_
    refine zi_getr (q := 30) (pc := 13) hX dX8_keep_13 fl_308 ly_29 rfl ?_
    refine zi_aload0 (pc := 16) hX dX8_keep_16 ?_
    refine zi_geti (pc := 17) hX dX8_keep_17 fl_311 ly_29 rfl ?_
    refine zi_iload1 (pc := 20) hX dX8_keep_20 ?_
    refine zi_iast (pc := 21) hX dX8_keep_21 ly_30 (zi_bg (fun g1 => ?_))
    refine zi_aload0 (pc := 22) hX dX8_keep_22 ?_
    refine zi_dup (pc := 23) hX dX8_keep_23 rfl ?_
    refine zi_geti (pc := 24) hX dX8_keep_24 fl_311 ly_29 rfl ?_
    refine zi_iconst (pc := 27) hX dX8_keep_27 ki_1 ?_
    refine zi_iadd (pc := 28) hX dX8_keep_28 ?_
    refine zi_puti (pc := 29) hX dX8_keep_29 fl_311 ly_29 rfl rfl rfl (zi_bg (fun g2 => ?_))
    exact zi_vret (pc := 32) hX dX8_keep_32 rfl rfl rfl
theorem ct_Wa_keep {w : et_W} (hw : et_Sane w) (p1 : Int32) (g : et_G) : et_C w yX8_keep (Cond.code yX8_keep cX8_keep 2 (none)) rm_Wa_keep et_eU [.ref (et_ad w 29), .int p1] g (fn_Wa_keep p1 g) := et_mk hw (by decide) rfl rfl (fun X hX => zw_Wa_keep hX p1 g)
def rm_Wa_find_1 : Room := { frames := 4, cells := 0, slots := 0, locals := 98 }
def fn_Wa_find_1_43 (r22 : Int32 → et_G → Option (Unit × et_G)) (r34 : Int32 → et_G → Option (Unit × et_G)) (x3 : Int32) (x4 : Int32) (x5 : Int32) (x6 : Int32) : Nat → Int32 → et_G → Option (Unit × et_G)
  | 0, _, _ => none
  | n + 1, x7, g =>
    if (5 : Int32) ≤ x7 then
      et_b (x6 + (1 : Int32)) (fun v3 =>
      r34 v3 g)
    else
      et_bd (fn_To_make x5 x6 x7 g) (fun v4 g5 =>
      if v4 = x4 then
        et_bd (fn_To_isMade_1 x3 x4 g5) (fun v7 g8 =>
        if v7 = 0 then
          et_b (x7 + (1 : Int32)) (fun v9 =>
          fn_Wa_find_1_43 r22 r34 x3 x4 x5 x6 n v9 g8)
        else
          et_bd (fn_Wa_keep ((((15 : Int32) * x5) + ((5 : Int32) * x6)) + x7) g8) (fun _ g11 =>
          et_b (x7 + (1 : Int32)) (fun v12 =>
          fn_Wa_find_1_43 r22 r34 x3 x4 x5 x6 n v12 g11)))
      else
        et_b (x7 + (1 : Int32)) (fun v6 =>
        fn_Wa_find_1_43 r22 r34 x3 x4 x5 x6 n v6 g5))
def fn_Wa_find_1_34 (r22 : Int32 → et_G → Option (Unit × et_G)) (x3 : Int32) (x4 : Int32) (x5 : Int32) : Nat → Int32 → et_G → Option (Unit × et_G)
  | 0, _, _ => none
  | n + 1, x6, g =>
    if (3 : Int32) ≤ x6 then
      et_b (x5 + (1 : Int32)) (fun v2 =>
      r22 v2 g)
    else
      fn_Wa_find_1_43 r22 (fun z6 g => fn_Wa_find_1_34 r22 x3 x4 x5 n z6 g) x3 x4 x5 x6 1000000 (0 : Int32) g
def fn_Wa_find_1_22 (x3 : Int32) (x4 : Int32) : Nat → Int32 → et_G → Option (Unit × et_G)
  | 0, _, _ => none
  | n + 1, x5, g =>
    if (g.1 3 2) ≤ x5 then
      some ((), g)
    else
      fn_Wa_find_1_34 (fun z5 g => fn_Wa_find_1_22 x3 x4 n z5 g) x3 x4 x5 1000000 (0 : Int32) g
def fn_Wa_find_1 (p3 : Int32) (p4 : Int32) (g : et_G) : Option (Unit × et_G) :=
  et_b (et_si g 29 1 (0 : Int32)) (fun g1 =>
  if p4 < (1 : Int32) then
    some ((), g1)
  else
    if p4 ≤ (24 : Int32) then
      fn_Wa_find_1_22 p3 p4 1000000 (0 : Int32) g1
    else
      some ((), g1))
theorem zp_Wa_find_1_43 {X : et_X} {w : et_W} (hX : et_Gd X w cX8_find RX8 8 (none) [] rm_Wa_find_1) (r22 : Int32 → et_G → Option (Unit × et_G)) (r34 : Int32 → et_G → Option (Unit × et_G)) (x3 : Int32) (x4 : Int32) (x5 : Int32) (x6 : Int32) (hr22 : ∀ (y5 : Int32) (g : et_G), et_Z X w 0 et_eU 22 [some (.ref (et_ad w 29)), some (.ref (et_ad w 3)), some (.ref (et_ad w 1)), some (.int x3), some (.int x4), some (.int y5), none, none] [] g (r22 y5 g)) (hr34 : ∀ (y6 : Int32) (g : et_G), et_Z X w 0 et_eU 34 [some (.ref (et_ad w 29)), some (.ref (et_ad w 3)), some (.ref (et_ad w 1)), some (.int x3), some (.int x4), some (.int x5), some (.int y6), none] [] g (r34 y6 g)) : ∀ (n : Nat) (x7 : Int32) (g : et_G), et_Z X w 0 et_eU 43 [some (.ref (et_ad w 29)), some (.ref (et_ad w 3)), some (.ref (et_ad w 1)), some (.int x3), some (.int x4), some (.int x5), some (.int x6), some (.int x7)] [] g (fn_Wa_find_1_43 r22 r34 x3 x4 x5 x6 n x7 g) := by
  intro n
  induction n with
  | zero =>
    intro x7 g a g2 h
    cases h
  | succ n ih =>
    intro x7 g
    rw [fn_Wa_find_1_43]
    refine zi_iload7 (pc := 43) hX dX8_find_43 ?_
    refine zi_iconst (pc := 45) hX dX8_find_45 ki_5 ?_
    refine zi_icmp_ge (pc := 46) 98 hX dX8_find_46 (by decide) (fun _ => ?_) (fun _ => ?_)
    · refine zi_iincb6 (pc := 98) hX dX8_find_98 (kn_1 _) rfl rfl (fun v3 => ?_)
      refine zi_goto (pc := 101) 34 hX dX8_find_101 (by decide) ?_
      refine zi_drop (le_s (le_s (le_s (le_s (le_s (le_s (le_s (le_n le_nil)))))))) ?_; exact hr34 v3 g
    · refine zi_aload1 (pc := 49) hX dX8_find_49 ?_
      refine zi_iload5 (pc := 50) hX dX8_find_50 ?_
      refine zi_iload6 (pc := 52) hX dX8_find_52 ?_
      refine zi_iload7 (pc := 54) hX dX8_find_54 ?_
      refine zi_callI (zc_virt (pc := 56) hX dX8_find_56 tm_1105 md_X5_make mi_X5_make ly_3 (ct_To_make hX.sane x5 x6 x7 g) rfl rfl rfl) (fun v4 g5 => ?_)
      refine zi_iload4 (pc := 59) hX dX8_find_59 ?_
      refine zi_icmp_ne (pc := 61) 92 hX dX8_find_61 (by decide) (fun _ => ?_) (fun _ => ?_)
      · refine zi_aload1 (pc := 64) hX dX8_find_64 ?_
        refine zi_aload2 (pc := 65) hX dX8_find_65 ?_
        refine zi_iload3 (pc := 66) hX dX8_find_66 ?_
        refine zi_iload4 (pc := 67) hX dX8_find_67 ?_
        refine zi_callI (zc_virt (pc := 69) hX dX8_find_69 tm_1106 md_X5_isMade mi_X5_isMade ly_3 (ct_To_isMade_1 hX.sane x3 x4 g5) rfl rfl rfl) (fun v7 g8 => ?_)
        refine zi_if_eq (pc := 72) 92 hX dX8_find_72 (by decide) (fun _ => ?_) (fun _ => ?_)
        · refine zi_iincb7 (pc := 92) hX dX8_find_92 (kn_1 _) rfl rfl (fun v9 => ?_)
          refine zi_goto (pc := 95) 43 hX dX8_find_95 (by decide) ?_
          exact ih v9 g8
        · refine zi_aload0 (pc := 75) hX dX8_find_75 ?_
          refine zi_bipush (pc := 76) hX dX8_find_76 kb_15 ?_
          refine zi_iload5 (pc := 78) hX dX8_find_78 ?_
          refine zi_imul (pc := 80) hX dX8_find_80 ?_
          refine zi_iconst (pc := 81) hX dX8_find_81 ki_5 ?_
          refine zi_iload6 (pc := 82) hX dX8_find_82 ?_
          refine zi_imul (pc := 84) hX dX8_find_84 ?_
          refine zi_iadd (pc := 85) hX dX8_find_85 ?_
          refine zi_iload7 (pc := 86) hX dX8_find_86 ?_
          refine zi_iadd (pc := 88) hX dX8_find_88 ?_
          refine zi_callU (zc_virt (pc := 89) hX dX8_find_89 tm_1110 md_X8_keep mi_X8_keep ly_29 (ct_Wa_keep hX.sane ((((15 : Int32) * x5) + ((5 : Int32) * x6)) + x7) g8) rfl rfl rfl) (fun g11 => ?_)
          refine zi_iincb7 (pc := 92) hX dX8_find_92 (kn_1 _) rfl rfl (fun v12 => ?_)
          refine zi_goto (pc := 95) 43 hX dX8_find_95 (by decide) ?_
          exact ih v12 g11
      · refine zi_iincb7 (pc := 92) hX dX8_find_92 (kn_1 _) rfl rfl (fun v6 => ?_)
        refine zi_goto (pc := 95) 43 hX dX8_find_95 (by decide) ?_
        exact ih v6 g5
theorem zp_Wa_find_1_34 {X : et_X} {w : et_W} (hX : et_Gd X w cX8_find RX8 8 (none) [] rm_Wa_find_1) (r22 : Int32 → et_G → Option (Unit × et_G)) (x3 : Int32) (x4 : Int32) (x5 : Int32) (hr22 : ∀ (y5 : Int32) (g : et_G), et_Z X w 0 et_eU 22 [some (.ref (et_ad w 29)), some (.ref (et_ad w 3)), some (.ref (et_ad w 1)), some (.int x3), some (.int x4), some (.int y5), none, none] [] g (r22 y5 g)) : ∀ (n : Nat) (x6 : Int32) (g : et_G), et_Z X w 0 et_eU 34 [some (.ref (et_ad w 29)), some (.ref (et_ad w 3)), some (.ref (et_ad w 1)), some (.int x3), some (.int x4), some (.int x5), some (.int x6), none] [] g (fn_Wa_find_1_34 r22 x3 x4 x5 n x6 g) := by
  intro n
  induction n with
  | zero =>
    intro x6 g a g2 h
    cases h
  | succ n ih =>
    intro x6 g
    rw [fn_Wa_find_1_34]
    refine zi_iload6 (pc := 34) hX dX8_find_34 ?_
    refine zi_iconst (pc := 36) hX dX8_find_36 ki_3 ?_
    refine zi_icmp_ge (pc := 37) 104 hX dX8_find_37 (by decide) (fun _ => ?_) (fun _ => ?_)
    · refine zi_iincb5 (pc := 104) hX dX8_find_104 (kn_1 _) rfl rfl (fun v2 => ?_)
      refine zi_goto (pc := 107) 22 hX dX8_find_107 (by decide) ?_
      refine zi_drop (le_s (le_s (le_s (le_s (le_s (le_s (le_n (le_s le_nil)))))))) ?_; exact hr22 v2 g
    · refine zi_iconst (pc := 40) hX dX8_find_40 ki_0 ?_
      refine zi_istore7 (pc := 41) hX dX8_find_41 rfl rfl ?_
      exact zp_Wa_find_1_43 hX r22 (fun z6 g => fn_Wa_find_1_34 r22 x3 x4 x5 n z6 g) x3 x4 x5 x6 hr22 (fun z6 g => ih z6 g) 1000000 (0 : Int32) g
theorem zp_Wa_find_1_22 {X : et_X} {w : et_W} (hX : et_Gd X w cX8_find RX8 8 (none) [] rm_Wa_find_1) (x3 : Int32) (x4 : Int32) : ∀ (n : Nat) (x5 : Int32) (g : et_G), et_Z X w 0 et_eU 22 [some (.ref (et_ad w 29)), some (.ref (et_ad w 3)), some (.ref (et_ad w 1)), some (.int x3), some (.int x4), some (.int x5), none, none] [] g (fn_Wa_find_1_22 x3 x4 n x5 g) := by
  intro n
  induction n with
  | zero =>
    intro x5 g a g2 h
    cases h
  | succ n ih =>
    intro x5 g
    rw [fn_Wa_find_1_22]
    refine zi_iload5 (pc := 22) hX dX8_find_22 ?_
    refine zi_aload1 (pc := 24) hX dX8_find_24 ?_
    refine zi_geti (pc := 25) hX dX8_find_25 fl_159 ly_3 rfl ?_
    refine zi_icmp_ge (pc := 28) 110 hX dX8_find_28 (by decide) (fun _ => ?_) (fun _ => ?_)
    · exact zi_vret (pc := 110) hX dX8_find_110 rfl rfl rfl
    · refine zi_iconst (pc := 31) hX dX8_find_31 ki_0 ?_
      refine zi_istore6 (pc := 32) hX dX8_find_32 rfl rfl ?_
      exact zp_Wa_find_1_34 hX (fun z5 g => fn_Wa_find_1_22 x3 x4 n z5 g) x3 x4 x5 (fun z5 g => ih z5 g) 1000000 (0 : Int32) g
theorem zw_Wa_find_1 {X : et_X} {w : et_W} (hX : et_Gd X w cX8_find RX8 8 (none) [] rm_Wa_find_1) (p3 : Int32) (p4 : Int32) (g : et_G) : et_Z X w 0 et_eU 0 [some (.ref (et_ad w 29)), some (.ref (et_ad w 3)), some (.ref (et_ad w 1)), some (.int p3), some (.int p4), none, none, none] [] g (fn_Wa_find_1 p3 p4 g) := by
  unfold fn_Wa_find_1
  refine zi_aload0 (pc := 0) hX dX8_find_0 ?_
  refine zi_iconst (pc := 1) hX dX8_find_1 ki_0 ?_
  refine zi_puti (pc := 2) hX dX8_find_2 fl_311 ly_29 rfl rfl rfl (zi_bg (fun g1 => ?_))
  refine zi_iload4 (pc := 5) hX dX8_find_5 ?_
  refine zi_iconst (pc := 7) hX dX8_find_7 ki_1 ?_
  refine zi_icmp_lt (pc := 8) 18 hX dX8_find_8 (by decide) (fun _ => ?_) (fun _ => ?_)
  · exact zi_vret (pc := 18) hX dX8_find_18 rfl rfl rfl
  · refine zi_iload4 (pc := 11) hX dX8_find_11 ?_
    refine zi_bipush (pc := 13) hX dX8_find_13 kb_24 ?_
    refine zi_icmp_le (pc := 15) 19 hX dX8_find_15 (by decide) (fun _ => ?_) (fun _ => ?_)
    · refine zi_iconst (pc := 19) hX dX8_find_19 ki_0 ?_
      refine zi_istore5 (pc := 20) hX dX8_find_20 rfl rfl ?_
      exact zp_Wa_find_1_22 hX p3 p4 1000000 (0 : Int32) g1
    · exact zi_vret (pc := 18) hX dX8_find_18 rfl rfl rfl
theorem ct_Wa_find_1 {w : et_W} (hw : et_Sane w) (p3 : Int32) (p4 : Int32) (g : et_G) : et_C w yX8_find (Cond.code yX8_find cX8_find 8 (none)) rm_Wa_find_1 et_eU [.ref (et_ad w 29), .ref (et_ad w 3), .ref (et_ad w 1), .int p3, .int p4] g (fn_Wa_find_1 p3 p4 g) := et_mk hw (by decide) rfl rfl (fun X hX => zw_Wa_find_1 hX p3 p4 g)
def rm_Et_apart : Room := { frames := 7, cells := 1, slots := 6, locals := 125 }
def fn_Et_apart (p1 : Int32) (g : et_G) : Option ((Nat ⊕ Int32) × et_G) :=
  et_bt (fn_Et_takeTape p1 g) (fun _ g2 =>
  et_bd (fn_Wa_find_1 (0 : Int32) p1 g2) (fun _ g4 =>
  some (.inr (g4.1 29 1), g4)))
theorem zw_Et_apart {X : et_X} {w : et_W} (hX : et_Gd X w cX9_apart RX9 2 (some .int) [] rm_Et_apart) (p1 : Int32) (g : et_G) : et_Z X w 0 et_tI 0 [some (.ref (et_ad w 0)), some (.int p1)] [] g (fn_Et_apart p1 g) := by
  unfold fn_Et_apart
  refine zi_aload0 (pc := 0) hX dX9_apart_0 ?_
  refine zi_iload1 (pc := 1) hX dX9_apart_1 ?_
  refine zi_callTU hX (fun _ => rfl) rfl rfl (zc_virt (pc := 2) hX dX9_apart_2 tm_707 md_X9_takeTape mi_X9_takeTape ly_0 (ct_Et_takeTape hX.sane p1 g) rfl rfl rfl) (fun g2 => ?_)
  refine zi_aload0 (pc := 5) hX dX9_apart_5 ?_
  refine zi_getr (q := 29) (pc := 6) hX dX9_apart_6 fl_496 ly_0 rfl ?_
  refine zi_aload0 (pc := 9) hX dX9_apart_9 ?_
  refine zi_getr (q := 2) (pc := 10) hX dX9_apart_10 fl_493 ly_0 rfl ?_
  refine zi_getr (q := 3) (pc := 13) hX dX9_apart_13 fl_186 ly_2 rfl ?_
  refine zi_aload0 (pc := 16) hX dX9_apart_16 ?_
  refine zi_getr (q := 1) (pc := 17) hX dX9_apart_17 fl_491 ly_0 rfl ?_
  refine zi_iconst (pc := 20) hX dX9_apart_20 ki_0 ?_
  refine zi_iload1 (pc := 21) hX dX9_apart_21 ?_
  refine zi_callU (zc_virt (pc := 22) hX dX9_apart_22 tm_1101 md_X8_find mi_X8_find ly_29 (ct_Wa_find_1 hX.sane (0 : Int32) p1 g2) rfl rfl rfl) (fun g4 => ?_)
  refine zi_aload0 (pc := 25) hX dX9_apart_25 ?_
  refine zi_getr (q := 29) (pc := 26) hX dX9_apart_26 fl_496 ly_0 rfl ?_
  refine zi_geti (pc := 29) hX dX9_apart_29 fl_313 ly_29 rfl ?_
  exact zi_ret (pc := 32) hX dX9_apart_32 rfl rfl rfl rfl
theorem ct_Et_apart {w : et_W} (hw : et_Sane w) (p1 : Int32) (g : et_G) : et_C w yX9_apart (Cond.code yX9_apart cX9_apart 2 (some .int)) rm_Et_apart et_tI [.ref (et_ad w 0), .int p1] g (fn_Et_apart p1 g) := et_mk hw (by decide) rfl rfl (fun X hX => zw_Et_apart hX p1 g)
def rm_Tw_hasPerson : Room := { frames := 0, cells := 0, slots := 0, locals := 0 }
def fn_Tw_hasPerson (p1 : Int32) (g : et_G) : Option (Int32 × et_G) :=
  if p1 < 0 then
    some ((0 : Int32), g)
  else
    if (g.1 2 3) ≤ p1 then
      some ((0 : Int32), g)
    else
      some ((1 : Int32), g)
theorem zw_Tw_hasPerson {X : et_X} {w : et_W} (hX : et_Gd X w cX6_hasPerson RX6 2 (some .boolean) [] rm_Tw_hasPerson) (p1 : Int32) (g : et_G) : et_Z X w 0 et_eI 0 [some (.ref (et_ad w 2)), some (.int p1)] [] g (fn_Tw_hasPerson p1 g) := by
  unfold fn_Tw_hasPerson
  refine zi_iload1 (pc := 0) hX dX6_hasPerson_0 ?_
  refine zi_if_lt (pc := 1) 16 hX dX6_hasPerson_1 (by decide) (fun _ => ?_) (fun _ => ?_)
  · refine zi_iconst (pc := 16) hX dX6_hasPerson_16 ki_0 ?_
    exact zi_ret (pc := 17) hX dX6_hasPerson_17 et_z0 rfl rfl rfl
  · refine zi_iload1 (pc := 4) hX dX6_hasPerson_4 ?_
    refine zi_aload0 (pc := 5) hX dX6_hasPerson_5 ?_
    refine zi_geti (pc := 6) hX dX6_hasPerson_6 fl_192 ly_2 rfl ?_
    refine zi_icmp_ge (pc := 9) 16 hX dX6_hasPerson_9 (by decide) (fun _ => ?_) (fun _ => ?_)
    · refine zi_iconst (pc := 16) hX dX6_hasPerson_16 ki_0 ?_
      exact zi_ret (pc := 17) hX dX6_hasPerson_17 et_z0 rfl rfl rfl
    · refine zi_iconst (pc := 12) hX dX6_hasPerson_12 ki_1 ?_
      refine zi_goto (pc := 13) 17 hX dX6_hasPerson_13 (by decide) ?_
      exact zi_ret (pc := 17) hX dX6_hasPerson_17 et_z1 rfl rfl rfl
theorem ct_Tw_hasPerson {w : et_W} (hw : et_Sane w) (p1 : Int32) (g : et_G) : et_C w yX6_hasPerson (Cond.code yX6_hasPerson cX6_hasPerson 2 (some .boolean)) rm_Tw_hasPerson et_eI [.ref (et_ad w 2), .int p1] g (fn_Tw_hasPerson p1 g) := et_mk hw (by decide) rfl rfl (fun X hX => zw_Tw_hasPerson hX p1 g)
def rm_Et_needPerson : Room := { frames := 6, cells := 1, slots := 6, locals := 81 }
def fn_Et_needPerson (p1 : Int32) (g : et_G) : Option ((Nat ⊕ Unit) × et_G) :=
  et_bd (fn_Tw_hasPerson p1 g) (fun v1 g2 =>
  if v1 = 0 then
    some (.inl 0, g2)
  else
    some (.inr (), g2))
theorem zw_Et_needPerson {X : et_X} {w : et_W} (hX : et_Gd X w cX9_needPerson RX9 2 (none) [] rm_Et_needPerson) (p1 : Int32) (g : et_G) : et_Z X w 0 et_tU 0 [some (.ref (et_ad w 0)), some (.int p1)] [] g (fn_Et_needPerson p1 g) := by
  unfold fn_Et_needPerson
  refine zi_aload0 (pc := 0) hX dX9_needPerson_0 ?_
  refine zi_getr (q := 2) (pc := 1) hX dX9_needPerson_1 fl_493 ly_0 rfl ?_
  refine zi_iload1 (pc := 4) hX dX9_needPerson_4 ?_
  refine zi_callI (zc_virt (pc := 5) hX dX9_needPerson_5 tm_1035 md_X6_hasPerson mi_X6_hasPerson ly_2 (ct_Tw_hasPerson hX.sane p1 g) rfl rfl rfl) (fun v1 g2 => ?_)
  refine zi_if_ne (pc := 8) 19 hX dX9_needPerson_8 (by decide) (fun _ => ?_) (fun _ => ?_)
  · exact zi_thr (pc := 11) hX dX9_needPerson_11 dX9_needPerson_14 dX9_needPerson_15 dX9_needPerson_18 th_0 rfl rfl rfl rfl rfl
  · exact zi_vret (pc := 19) hX dX9_needPerson_19 rfl rfl rfl
theorem ct_Et_needPerson {w : et_W} (hw : et_Sane w) (p1 : Int32) (g : et_G) : et_C w yX9_needPerson (Cond.code yX9_needPerson cX9_needPerson 2 (none)) rm_Et_needPerson et_tU [.ref (et_ad w 0), .int p1] g (fn_Et_needPerson p1 g) := et_mk hw (by decide) rfl rfl (fun X hX => zw_Et_needPerson hX p1 g)
def rm_Tw_isHour : Room := { frames := 0, cells := 0, slots := 0, locals := 0 }
def fn_Tw_isHour (p0 : Int32) (g : et_G) : Option (Int32 × et_G) :=
  if p0 < 0 then
    some ((0 : Int32), g)
  else
    if (24 : Int32) ≤ p0 then
      some ((0 : Int32), g)
    else
      some ((1 : Int32), g)
theorem zw_Tw_isHour {X : et_X} {w : et_W} (hX : et_Gd X w cX6_isHour RX6 1 (some .boolean) [] rm_Tw_isHour) (p0 : Int32) (g : et_G) : et_Z X w 0 et_eI 0 [some (.int p0)] [] g (fn_Tw_isHour p0 g) := by
  unfold fn_Tw_isHour
  refine zi_iload0 (pc := 0) hX dX6_isHour_0 ?_
  refine zi_if_lt (pc := 1) 14 hX dX6_isHour_1 (by decide) (fun _ => ?_) (fun _ => ?_)
  · refine zi_iconst (pc := 14) hX dX6_isHour_14 ki_0 ?_
    exact zi_ret (pc := 15) hX dX6_isHour_15 et_z0 rfl rfl rfl
  · refine zi_iload0 (pc := 4) hX dX6_isHour_4 ?_
    refine zi_bipush (pc := 5) hX dX6_isHour_5 kb_24 ?_
    refine zi_icmp_ge (pc := 7) 14 hX dX6_isHour_7 (by decide) (fun _ => ?_) (fun _ => ?_)
    · refine zi_iconst (pc := 14) hX dX6_isHour_14 ki_0 ?_
      exact zi_ret (pc := 15) hX dX6_isHour_15 et_z0 rfl rfl rfl
    · refine zi_iconst (pc := 10) hX dX6_isHour_10 ki_1 ?_
      refine zi_goto (pc := 11) 15 hX dX6_isHour_11 (by decide) ?_
      exact zi_ret (pc := 15) hX dX6_isHour_15 et_z1 rfl rfl rfl
theorem ct_Tw_isHour {w : et_W} (hw : et_Sane w) (p0 : Int32) (g : et_G) : et_C w yX6_isHour (Cond.code yX6_isHour cX6_isHour 1 (some .boolean)) rm_Tw_isHour et_eI [.int p0] g (fn_Tw_isHour p0 g) := et_mk hw (by decide) rfl rfl (fun X hX => zw_Tw_isHour hX p0 g)
def rm_Et_needHour : Room := { frames := 6, cells := 1, slots := 6, locals := 81 }
def fn_Et_needHour (p1 : Int32) (g : et_G) : Option ((Nat ⊕ Unit) × et_G) :=
  et_bd (fn_Tw_isHour p1 g) (fun v1 g2 =>
  if v1 = 0 then
    some (.inl 0, g2)
  else
    some (.inr (), g2))
theorem zw_Et_needHour {X : et_X} {w : et_W} (hX : et_Gd X w cX9_needHour RX9 2 (none) [] rm_Et_needHour) (p1 : Int32) (g : et_G) : et_Z X w 0 et_tU 0 [some (.ref (et_ad w 0)), some (.int p1)] [] g (fn_Et_needHour p1 g) := by
  unfold fn_Et_needHour
  refine zi_iload1 (pc := 0) hX dX9_needHour_0 ?_
  refine zi_callI (zc_stat (pc := 1) hX dX9_needHour_1 tm_1043 md_X6_isHour st_X6_isHour (ct_Tw_isHour hX.sane p1 g) rfl rfl rfl) (fun v1 g2 => ?_)
  refine zi_if_ne (pc := 4) 15 hX dX9_needHour_4 (by decide) (fun _ => ?_) (fun _ => ?_)
  · exact zi_thr (pc := 7) hX dX9_needHour_7 dX9_needHour_10 dX9_needHour_11 dX9_needHour_14 th_0 rfl rfl rfl rfl rfl
  · exact zi_vret (pc := 15) hX dX9_needHour_15 rfl rfl rfl
theorem ct_Et_needHour {w : et_W} (hw : et_Sane w) (p1 : Int32) (g : et_G) : et_C w yX9_needHour (Cond.code yX9_needHour cX9_needHour 2 (none)) rm_Et_needHour et_tU [.ref (et_ad w 0), .int p1] g (fn_Et_needHour p1 g) := et_mk hw (by decide) rfl rfl (fun X hX => zw_Et_needHour hX p1 g)
