def rm_Mo_steps : Room := { frames := 1, cells := 0, slots := 0, locals := 21 }
def fn_Mo_steps_278 (g : et_G) : Option (Unit × et_G) :=
  et_b (et_si g 61 25 ((g.1 61 22) - (g.1 61 24))) (fun g12 =>
  some ((), g12))
def fn_Mo_steps_275 (s0 : Int32) (g : et_G) : Option (Unit × et_G) :=
  et_b (et_si g 61 23 s0) (fun g11 =>
  fn_Mo_steps_278 g11)
def fn_Mo_steps_245 (g : et_G) : Option (Unit × et_G) :=
  et_b (et_si g 61 23 (2 : Int32)) (fun g17 =>
  fn_Mo_steps_278 g17)
def fn_Mo_steps_232 (r182 : et_G → Option (Unit × et_G)) (g : et_G) : Option (Unit × et_G) :=
  et_b (et_si g 61 22 ((g.1 61 22) + (1 : Int32))) (fun g18 =>
  r182 g18)
def fn_Mo_steps_182 : Nat → et_G → Option (Unit × et_G)
  | 0, _ => none
  | n + 1, g =>
    et_bd (fn_Mo_byteAt (g.1 61 22) g) (fun v13 g14 =>
    et_bd (fn_Mo_isDigit v13 g14) (fun v15 g16 =>
    if v15 = 0 then
      fn_Mo_steps_245 g16
    else
      if (3 : Int32) ≤ ((g16.1 61 22) - (g16.1 61 24)) then
        fn_Mo_steps_232 (fun g => fn_Mo_steps_182 n g) g16
      else
        et_bd (fn_Mo_byteAt (g16.1 61 22) g16) (fun v19 g20 =>
        et_b (et_si g20 61 26 ((((10 : Int32) * (g16.1 61 26)) + v19) - (48 : Int32))) (fun g21 =>
        fn_Mo_steps_232 (fun g => fn_Mo_steps_182 n g) g21))))
def fn_Mo_steps_167 (g : et_G) : Option (Unit × et_G) :=
  et_b (et_si g 61 23 (1 : Int32)) (fun g26 =>
  fn_Mo_steps_278 g26)
def fn_Mo_steps_154 (r103 : et_G → Option (Unit × et_G)) (g : et_G) : Option (Unit × et_G) :=
  et_b (et_si g 61 22 ((g.1 61 22) + (1 : Int32))) (fun g27 =>
  r103 g27)
def fn_Mo_steps_103 : Nat → et_G → Option (Unit × et_G)
  | 0, _ => none
  | n + 1, g =>
    et_bd (fn_Mo_byteAt (g.1 61 22) g) (fun v22 g23 =>
    et_bd (fn_Mo_isLetter v22 g23) (fun v24 g25 =>
    if v24 = 0 then
      fn_Mo_steps_167 g25
    else
      if (6 : Int32) ≤ ((g25.1 61 22) - (g25.1 61 24)) then
        fn_Mo_steps_154 (fun g => fn_Mo_steps_103 n g) g25
      else
        et_bd (fn_Mo_byteAt (g25.1 61 22) g25) (fun v28 g29 =>
        et_b (et_sl g29 61 27 (((g25.2 61 27) <<< ((5 : Int32).toInt64 &&& 63)) ||| ((v28 - (96 : Int32)).toInt64))) (fun g30 =>
        fn_Mo_steps_154 (fun g => fn_Mo_steps_103 n g) g30))))
def fn_Mo_steps_50 (g : et_G) : Option (Unit × et_G) :=
  et_b (et_si g 61 24 (g.1 61 22)) (fun g1 =>
  et_b (et_sl g1 61 27 (0 : Int64)) (fun g2 =>
  et_b (et_si g2 61 26 (0 : Int32)) (fun g3 =>
  et_bd (fn_Mo_byteAt (g3.1 61 22) g3) (fun v4 g5 =>
  if (g5.1 61 22) < (g5.1 61 21) then
    et_bd (fn_Mo_isLetter v4 g5) (fun v6 g7 =>
    if v6 = 0 then
      et_bd (fn_Mo_isDigit v4 g7) (fun v8 g9 =>
      if v8 = 0 then
        et_b (et_si g9 61 22 ((g9.1 61 22) + (1 : Int32))) (fun g10 =>
        if v4 = (59 : Int32) then
          fn_Mo_steps_275 (3 : Int32) g10
        else
          fn_Mo_steps_275 (4 : Int32) g10)
      else
        fn_Mo_steps_182 1000000 g9)
    else
      fn_Mo_steps_103 1000000 g7)
  else
    et_b (et_si g5 61 23 (0 : Int32)) (fun g31 =>
    fn_Mo_steps_278 g31)))))
def fn_Mo_steps_37 (r0 : et_G → Option (Unit × et_G)) (g : et_G) : Option (Unit × et_G) :=
  et_b (et_si g 61 22 ((g.1 61 22) + (1 : Int32))) (fun g34 =>
  r0 g34)
def fn_Mo_steps_0 : Nat → et_G → Option (Unit × et_G)
  | 0, _ => none
  | n + 1, g =>
    if (g.1 61 21) ≤ (g.1 61 22) then
      fn_Mo_steps_50 g
    else
      et_bd (fn_Mo_byteAt (g.1 61 22) g) (fun v32 g33 =>
      if v32 = (32 : Int32) then
        fn_Mo_steps_37 (fun g => fn_Mo_steps_0 n g) g33
      else
        et_bd (fn_Mo_byteAt (g33.1 61 22) g33) (fun v35 g36 =>
        if v35 = (10 : Int32) then
          fn_Mo_steps_37 (fun g => fn_Mo_steps_0 n g) g36
        else
          fn_Mo_steps_50 g36))
def fn_Mo_steps (g : et_G) : Option (Unit × et_G) :=
  fn_Mo_steps_0 1000000 g
theorem zp_Mo_steps_278 {X : et_X} {w : et_W} (hX : et_Gd X w cX10_steps RX10 2 (none) [] rm_Mo_steps) (g : et_G) : et_Z X w 0 et_eU 278 [some (.ref (et_ad w 61)), none] [] g (fn_Mo_steps_278 g) := by
  unfold fn_Mo_steps_278
  refine zi_aload0 (pc := 278) hX dX10_steps_278 ?_
  refine zi_aload0 (pc := 279) hX dX10_steps_279 ?_
  refine zi_geti (pc := 280) hX dX10_steps_280 fl_1370 ly_61 rfl ?_
  refine zi_aload0 (pc := 283) hX dX10_steps_283 ?_
  refine zi_geti (pc := 284) hX dX10_steps_284 fl_1372 ly_61 rfl ?_
  refine zi_isub (pc := 287) hX dX10_steps_287 ?_
  refine zi_puti (pc := 288) hX dX10_steps_288 fl_1373 ly_61 rfl rfl rfl (zi_bg (fun g12 => ?_))
  exact zi_vret (pc := 291) hX dX10_steps_291 rfl rfl rfl
theorem zp_Mo_steps_275 {X : et_X} {w : et_W} (hX : et_Gd X w cX10_steps RX10 2 (none) [] rm_Mo_steps) (s0 : Int32) (g : et_G) : et_Z X w 0 et_eU 275 [some (.ref (et_ad w 61)), none] [.int s0, .ref (et_ad w 61)] g (fn_Mo_steps_275 s0 g) := by
  unfold fn_Mo_steps_275
  refine zi_puti (pc := 275) hX dX10_steps_275 fl_1371 ly_61 rfl rfl rfl (zi_bg (fun g11 => ?_))
  exact zp_Mo_steps_278 hX g11
theorem zp_Mo_steps_245 {X : et_X} {w : et_W} (hX : et_Gd X w cX10_steps RX10 2 (none) [] rm_Mo_steps) (g : et_G) : et_Z X w 0 et_eU 245 [some (.ref (et_ad w 61)), none] [] g (fn_Mo_steps_245 g) := by
  unfold fn_Mo_steps_245
  refine zi_aload0 (pc := 245) hX dX10_steps_245 ?_
  refine zi_iconst (pc := 246) hX dX10_steps_246 ki_2 ?_
  refine zi_puti (pc := 247) hX dX10_steps_247 fl_1371 ly_61 rfl rfl rfl (zi_bg (fun g17 => ?_))
  refine zi_goto (pc := 250) 278 hX dX10_steps_250 (by decide) ?_
  exact zp_Mo_steps_278 hX g17
theorem zp_Mo_steps_232 {X : et_X} {w : et_W} (hX : et_Gd X w cX10_steps RX10 2 (none) [] rm_Mo_steps) (r182 : et_G → Option (Unit × et_G)) (hr182 : ∀ (g : et_G), et_Z X w 0 et_eU 182 [some (.ref (et_ad w 61)), none] [] g (r182 g)) (g : et_G) : et_Z X w 0 et_eU 232 [some (.ref (et_ad w 61)), none] [] g (fn_Mo_steps_232 r182 g) := by
  unfold fn_Mo_steps_232
  refine zi_aload0 (pc := 232) hX dX10_steps_232 ?_
  refine zi_dup (pc := 233) hX dX10_steps_233 rfl ?_
  refine zi_geti (pc := 234) hX dX10_steps_234 fl_1370 ly_61 rfl ?_
  refine zi_iconst (pc := 237) hX dX10_steps_237 ki_1 ?_
  refine zi_iadd (pc := 238) hX dX10_steps_238 ?_
  refine zi_puti (pc := 239) hX dX10_steps_239 fl_1370 ly_61 rfl rfl rfl (zi_bg (fun g18 => ?_))
  refine zi_goto (pc := 242) 182 hX dX10_steps_242 (by decide) ?_
  exact hr182 g18
theorem zp_Mo_steps_182 {X : et_X} {w : et_W} (hX : et_Gd X w cX10_steps RX10 2 (none) [] rm_Mo_steps) : ∀ (n : Nat) (g : et_G), et_Z X w 0 et_eU 182 [some (.ref (et_ad w 61)), none] [] g (fn_Mo_steps_182 n g) := by
  intro n
  induction n with
  | zero =>
    intro g a g2 h
    cases h
  | succ n ih =>
    intro g
    rw [fn_Mo_steps_182]
    refine zi_aload0 (pc := 182) hX dX10_steps_182 ?_
    refine zi_aload0 (pc := 183) hX dX10_steps_183 ?_
    refine zi_geti (pc := 184) hX dX10_steps_184 fl_1370 ly_61 rfl ?_
    refine zi_callI (zc_virt (pc := 187) hX dX10_steps_187 tm_1599 md_X10_byteAt mi_X10_byteAt ly_61 (ct_Mo_byteAt hX.sane (g.1 61 22) g) rfl rfl rfl) (fun v13 g14 => ?_)
    refine zi_callI (zc_stat (pc := 190) hX dX10_steps_190 tm_1606 md_X10_isDigit st_X10_isDigit (ct_Mo_isDigit hX.sane v13 g14) rfl rfl rfl) (fun v15 g16 => ?_)
    refine zi_if_eq (pc := 193) 245 hX dX10_steps_193 (by decide) (fun _ => ?_) (fun _ => ?_)
    · exact zp_Mo_steps_245 hX g16
    · refine zi_aload0 (pc := 196) hX dX10_steps_196 ?_
      refine zi_geti (pc := 197) hX dX10_steps_197 fl_1370 ly_61 rfl ?_
      refine zi_aload0 (pc := 200) hX dX10_steps_200 ?_
      refine zi_geti (pc := 201) hX dX10_steps_201 fl_1372 ly_61 rfl ?_
      refine zi_isub (pc := 204) hX dX10_steps_204 ?_
      refine zi_iconst (pc := 205) hX dX10_steps_205 ki_3 ?_
      refine zi_icmp_ge (pc := 206) 232 hX dX10_steps_206 (by decide) (fun _ => ?_) (fun _ => ?_)
      · exact zp_Mo_steps_232 hX (fun g => fn_Mo_steps_182 n g) (fun g => ih g) g16
      · refine zi_aload0 (pc := 209) hX dX10_steps_209 ?_
        refine zi_bipush (pc := 210) hX dX10_steps_210 kb_10 ?_
        refine zi_aload0 (pc := 212) hX dX10_steps_212 ?_
        refine zi_geti (pc := 213) hX dX10_steps_213 fl_1374 ly_61 rfl ?_
        refine zi_imul (pc := 216) hX dX10_steps_216 ?_
        refine zi_aload0 (pc := 217) hX dX10_steps_217 ?_
        refine zi_aload0 (pc := 218) hX dX10_steps_218 ?_
        refine zi_geti (pc := 219) hX dX10_steps_219 fl_1370 ly_61 rfl ?_
        refine zi_callI (zc_virt (pc := 222) hX dX10_steps_222 tm_1599 md_X10_byteAt mi_X10_byteAt ly_61 (ct_Mo_byteAt hX.sane (g16.1 61 22) g16) rfl rfl rfl) (fun v19 g20 => ?_)
        refine zi_iadd (pc := 225) hX dX10_steps_225 ?_
        refine zi_bipush (pc := 226) hX dX10_steps_226 kb_48 ?_
        refine zi_isub (pc := 228) hX dX10_steps_228 ?_
        refine zi_puti (pc := 229) hX dX10_steps_229 fl_1374 ly_61 rfl rfl rfl (zi_bg (fun g21 => ?_))
        exact zp_Mo_steps_232 hX (fun g => fn_Mo_steps_182 n g) (fun g => ih g) g21
theorem zp_Mo_steps_167 {X : et_X} {w : et_W} (hX : et_Gd X w cX10_steps RX10 2 (none) [] rm_Mo_steps) (g : et_G) : et_Z X w 0 et_eU 167 [some (.ref (et_ad w 61)), none] [] g (fn_Mo_steps_167 g) := by
  unfold fn_Mo_steps_167
  refine zi_aload0 (pc := 167) hX dX10_steps_167 ?_
  refine zi_iconst (pc := 168) hX dX10_steps_168 ki_1 ?_
  refine zi_puti (pc := 169) hX dX10_steps_169 fl_1371 ly_61 rfl rfl rfl (zi_bg (fun g26 => ?_))
  refine zi_goto (pc := 172) 278 hX dX10_steps_172 (by decide) ?_
  exact zp_Mo_steps_278 hX g26
theorem zp_Mo_steps_154 {X : et_X} {w : et_W} (hX : et_Gd X w cX10_steps RX10 2 (none) [] rm_Mo_steps) (r103 : et_G → Option (Unit × et_G)) (hr103 : ∀ (g : et_G), et_Z X w 0 et_eU 103 [some (.ref (et_ad w 61)), none] [] g (r103 g)) (g : et_G) : et_Z X w 0 et_eU 154 [some (.ref (et_ad w 61)), none] [] g (fn_Mo_steps_154 r103 g) := by
  unfold fn_Mo_steps_154
  refine zi_aload0 (pc := 154) hX dX10_steps_154 ?_
  refine zi_dup (pc := 155) hX dX10_steps_155 rfl ?_
  refine zi_geti (pc := 156) hX dX10_steps_156 fl_1370 ly_61 rfl ?_
  refine zi_iconst (pc := 159) hX dX10_steps_159 ki_1 ?_
  refine zi_iadd (pc := 160) hX dX10_steps_160 ?_
  refine zi_puti (pc := 161) hX dX10_steps_161 fl_1370 ly_61 rfl rfl rfl (zi_bg (fun g27 => ?_))
  refine zi_goto (pc := 164) 103 hX dX10_steps_164 (by decide) ?_
  exact hr103 g27
theorem zp_Mo_steps_103 {X : et_X} {w : et_W} (hX : et_Gd X w cX10_steps RX10 2 (none) [] rm_Mo_steps) : ∀ (n : Nat) (g : et_G), et_Z X w 0 et_eU 103 [some (.ref (et_ad w 61)), none] [] g (fn_Mo_steps_103 n g) := by
  intro n
  induction n with
  | zero =>
    intro g a g2 h
    cases h
  | succ n ih =>
    intro g
    rw [fn_Mo_steps_103]
    refine zi_aload0 (pc := 103) hX dX10_steps_103 ?_
    refine zi_aload0 (pc := 104) hX dX10_steps_104 ?_
    refine zi_geti (pc := 105) hX dX10_steps_105 fl_1370 ly_61 rfl ?_
    refine zi_callI (zc_virt (pc := 108) hX dX10_steps_108 tm_1599 md_X10_byteAt mi_X10_byteAt ly_61 (ct_Mo_byteAt hX.sane (g.1 61 22) g) rfl rfl rfl) (fun v22 g23 => ?_)
    refine zi_callI (zc_stat (pc := 111) hX dX10_steps_111 tm_1603 md_X10_isLetter st_X10_isLetter (ct_Mo_isLetter hX.sane v22 g23) rfl rfl rfl) (fun v24 g25 => ?_)
    refine zi_if_eq (pc := 114) 167 hX dX10_steps_114 (by decide) (fun _ => ?_) (fun _ => ?_)
    · exact zp_Mo_steps_167 hX g25
    · refine zi_aload0 (pc := 117) hX dX10_steps_117 ?_
      refine zi_geti (pc := 118) hX dX10_steps_118 fl_1370 ly_61 rfl ?_
      refine zi_aload0 (pc := 121) hX dX10_steps_121 ?_
      refine zi_geti (pc := 122) hX dX10_steps_122 fl_1372 ly_61 rfl ?_
      refine zi_isub (pc := 125) hX dX10_steps_125 ?_
      refine zi_bipush (pc := 126) hX dX10_steps_126 kb_6 ?_
      refine zi_icmp_ge (pc := 128) 154 hX dX10_steps_128 (by decide) (fun _ => ?_) (fun _ => ?_)
      · exact zp_Mo_steps_154 hX (fun g => fn_Mo_steps_103 n g) (fun g => ih g) g25
      · refine zi_aload0 (pc := 131) hX dX10_steps_131 ?_
        refine zi_aload0 (pc := 132) hX dX10_steps_132 ?_
        refine zi_getl (pc := 133) hX dX10_steps_133 fl_1375 ly_61 rfl ?_
        refine zi_iconst (pc := 136) hX dX10_steps_136 ki_5 ?_
        refine zi_lshl (pc := 137) hX dX10_steps_137 ?_
        refine zi_aload0 (pc := 138) hX dX10_steps_138 ?_
        refine zi_aload0 (pc := 139) hX dX10_steps_139 ?_
        refine zi_geti (pc := 140) hX dX10_steps_140 fl_1370 ly_61 rfl ?_
        refine zi_callI (zc_virt (pc := 143) hX dX10_steps_143 tm_1599 md_X10_byteAt mi_X10_byteAt ly_61 (ct_Mo_byteAt hX.sane (g25.1 61 22) g25) rfl rfl rfl) (fun v28 g29 => ?_)
        refine zi_bipush (pc := 146) hX dX10_steps_146 kb_96 ?_
        refine zi_isub (pc := 148) hX dX10_steps_148 ?_
        refine zi_i2l (pc := 149) hX dX10_steps_149 ?_
        refine zi_lor (pc := 150) hX dX10_steps_150 ?_
        refine zi_putl (pc := 151) hX dX10_steps_151 fl_1375 ly_61 rfl (zi_bg (fun g30 => ?_))
        exact zp_Mo_steps_154 hX (fun g => fn_Mo_steps_103 n g) (fun g => ih g) g30
theorem zp_Mo_steps_50 {X : et_X} {w : et_W} (hX : et_Gd X w cX10_steps RX10 2 (none) [] rm_Mo_steps) (g : et_G) : et_Z X w 0 et_eU 50 [some (.ref (et_ad w 61)), none] [] g (fn_Mo_steps_50 g) := by
  unfold fn_Mo_steps_50
  refine zi_aload0 (pc := 50) hX dX10_steps_50 ?_
  refine zi_aload0 (pc := 51) hX dX10_steps_51 ?_
  refine zi_geti (pc := 52) hX dX10_steps_52 fl_1370 ly_61 rfl ?_
  refine zi_puti (pc := 55) hX dX10_steps_55 fl_1372 ly_61 rfl rfl rfl (zi_bg (fun g1 => ?_))
  refine zi_aload0 (pc := 58) hX dX10_steps_58 ?_
  refine zi_lconst (pc := 59) hX dX10_steps_59 kl_0 ?_
  refine zi_putl (pc := 60) hX dX10_steps_60 fl_1375 ly_61 rfl (zi_bg (fun g2 => ?_))
  refine zi_aload0 (pc := 63) hX dX10_steps_63 ?_
  refine zi_iconst (pc := 64) hX dX10_steps_64 ki_0 ?_
  refine zi_puti (pc := 65) hX dX10_steps_65 fl_1374 ly_61 rfl rfl rfl (zi_bg (fun g3 => ?_))
  refine zi_aload0 (pc := 68) hX dX10_steps_68 ?_
  refine zi_aload0 (pc := 69) hX dX10_steps_69 ?_
  refine zi_geti (pc := 70) hX dX10_steps_70 fl_1370 ly_61 rfl ?_
  refine zi_callI (zc_virt (pc := 73) hX dX10_steps_73 tm_1599 md_X10_byteAt mi_X10_byteAt ly_61 (ct_Mo_byteAt hX.sane (g3.1 61 22) g3) rfl rfl rfl) (fun v4 g5 => ?_)
  refine zi_istore1 (pc := 76) hX dX10_steps_76 rfl rfl ?_
  refine zi_aload0 (pc := 77) hX dX10_steps_77 ?_
  refine zi_geti (pc := 78) hX dX10_steps_78 fl_1370 ly_61 rfl ?_
  refine zi_aload0 (pc := 81) hX dX10_steps_81 ?_
  refine zi_geti (pc := 82) hX dX10_steps_82 fl_1369 ly_61 rfl ?_
  refine zi_icmp_lt (pc := 85) 96 hX dX10_steps_85 (by decide) (fun _ => ?_) (fun _ => ?_)
  · refine zi_iload1 (pc := 96) hX dX10_steps_96 ?_
    refine zi_callI (zc_stat (pc := 97) hX dX10_steps_97 tm_1603 md_X10_isLetter st_X10_isLetter (ct_Mo_isLetter hX.sane v4 g5) rfl rfl rfl) (fun v6 g7 => ?_)
    refine zi_if_eq (pc := 100) 175 hX dX10_steps_100 (by decide) (fun _ => ?_) (fun _ => ?_)
    · refine zi_iload1 (pc := 175) hX dX10_steps_175 ?_
      refine zi_callI (zc_stat (pc := 176) hX dX10_steps_176 tm_1606 md_X10_isDigit st_X10_isDigit (ct_Mo_isDigit hX.sane v4 g7) rfl rfl rfl) (fun v8 g9 => ?_)
      refine zi_if_eq (pc := 179) 253 hX dX10_steps_179 (by decide) (fun _ => ?_) (fun _ => ?_)
      · refine zi_aload0 (pc := 253) hX dX10_steps_253 ?_
        refine zi_dup (pc := 254) hX dX10_steps_254 rfl ?_
        refine zi_geti (pc := 255) hX dX10_steps_255 fl_1370 ly_61 rfl ?_
        refine zi_iconst (pc := 258) hX dX10_steps_258 ki_1 ?_
        refine zi_iadd (pc := 259) hX dX10_steps_259 ?_
        refine zi_puti (pc := 260) hX dX10_steps_260 fl_1370 ly_61 rfl rfl rfl (zi_bg (fun g10 => ?_))
        refine zi_aload0 (pc := 263) hX dX10_steps_263 ?_
        refine zi_iload1 (pc := 264) hX dX10_steps_264 ?_
        refine zi_bipush (pc := 265) hX dX10_steps_265 kb_59 ?_
        refine zi_icmp_ne (pc := 267) 274 hX dX10_steps_267 (by decide) (fun _ => ?_) (fun _ => ?_)
        · refine zi_iconst (pc := 270) hX dX10_steps_270 ki_3 ?_
          refine zi_goto (pc := 271) 275 hX dX10_steps_271 (by decide) ?_
          refine zi_drop (le_s (le_n le_nil)) ?_; exact zp_Mo_steps_275 hX (3 : Int32) g10
        · refine zi_iconst (pc := 274) hX dX10_steps_274 ki_4 ?_
          refine zi_drop (le_s (le_n le_nil)) ?_; exact zp_Mo_steps_275 hX (4 : Int32) g10
      · refine zi_drop (le_s (le_n le_nil)) ?_; exact zp_Mo_steps_182 hX 1000000 g9
    · refine zi_drop (le_s (le_n le_nil)) ?_; exact zp_Mo_steps_103 hX 1000000 g7
  · refine zi_aload0 (pc := 88) hX dX10_steps_88 ?_
    refine zi_iconst (pc := 89) hX dX10_steps_89 ki_0 ?_
    refine zi_puti (pc := 90) hX dX10_steps_90 fl_1371 ly_61 rfl rfl rfl (zi_bg (fun g31 => ?_))
    refine zi_goto (pc := 93) 278 hX dX10_steps_93 (by decide) ?_
    refine zi_drop (le_s (le_n le_nil)) ?_; exact zp_Mo_steps_278 hX g31
theorem zp_Mo_steps_37 {X : et_X} {w : et_W} (hX : et_Gd X w cX10_steps RX10 2 (none) [] rm_Mo_steps) (r0 : et_G → Option (Unit × et_G)) (hr0 : ∀ (g : et_G), et_Z X w 0 et_eU 0 [some (.ref (et_ad w 61)), none] [] g (r0 g)) (g : et_G) : et_Z X w 0 et_eU 37 [some (.ref (et_ad w 61)), none] [] g (fn_Mo_steps_37 r0 g) := by
  unfold fn_Mo_steps_37
  refine zi_aload0 (pc := 37) hX dX10_steps_37 ?_
  refine zi_dup (pc := 38) hX dX10_steps_38 rfl ?_
  refine zi_geti (pc := 39) hX dX10_steps_39 fl_1370 ly_61 rfl ?_
  refine zi_iconst (pc := 42) hX dX10_steps_42 ki_1 ?_
  refine zi_iadd (pc := 43) hX dX10_steps_43 ?_
  refine zi_puti (pc := 44) hX dX10_steps_44 fl_1370 ly_61 rfl rfl rfl (zi_bg (fun g34 => ?_))
  refine zi_goto (pc := 47) 0 hX dX10_steps_47 (by decide) ?_
  exact hr0 g34
theorem zp_Mo_steps_0 {X : et_X} {w : et_W} (hX : et_Gd X w cX10_steps RX10 2 (none) [] rm_Mo_steps) : ∀ (n : Nat) (g : et_G), et_Z X w 0 et_eU 0 [some (.ref (et_ad w 61)), none] [] g (fn_Mo_steps_0 n g) := by
  intro n
  induction n with
  | zero =>
    intro g a g2 h
    cases h
  | succ n ih =>
    intro g
    rw [fn_Mo_steps_0]
    refine zi_aload0 (pc := 0) hX dX10_steps_0 ?_
    refine zi_geti (pc := 1) hX dX10_steps_1 fl_1370 ly_61 rfl ?_
    refine zi_aload0 (pc := 4) hX dX10_steps_4 ?_
    refine zi_geti (pc := 5) hX dX10_steps_5 fl_1369 ly_61 rfl ?_
    refine zi_icmp_ge (pc := 8) 50 hX dX10_steps_8 (by decide) (fun _ => ?_) (fun _ => ?_)
    · exact zp_Mo_steps_50 hX g
    · refine zi_aload0 (pc := 11) hX dX10_steps_11 ?_
      refine zi_aload0 (pc := 12) hX dX10_steps_12 ?_
      refine zi_geti (pc := 13) hX dX10_steps_13 fl_1370 ly_61 rfl ?_
      refine zi_callI (zc_virt (pc := 16) hX dX10_steps_16 tm_1599 md_X10_byteAt mi_X10_byteAt ly_61 (ct_Mo_byteAt hX.sane (g.1 61 22) g) rfl rfl rfl) (fun v32 g33 => ?_)
      refine zi_bipush (pc := 19) hX dX10_steps_19 kb_32 ?_
      refine zi_icmp_eq (pc := 21) 37 hX dX10_steps_21 (by decide) (fun _ => ?_) (fun _ => ?_)
      · exact zp_Mo_steps_37 hX (fun g => fn_Mo_steps_0 n g) (fun g => ih g) g33
      · refine zi_aload0 (pc := 24) hX dX10_steps_24 ?_
        refine zi_aload0 (pc := 25) hX dX10_steps_25 ?_
        refine zi_geti (pc := 26) hX dX10_steps_26 fl_1370 ly_61 rfl ?_
        refine zi_callI (zc_virt (pc := 29) hX dX10_steps_29 tm_1599 md_X10_byteAt mi_X10_byteAt ly_61 (ct_Mo_byteAt hX.sane (g33.1 61 22) g33) rfl rfl rfl) (fun v35 g36 => ?_)
        refine zi_bipush (pc := 32) hX dX10_steps_32 kb_10 ?_
        refine zi_icmp_ne (pc := 34) 50 hX dX10_steps_34 (by decide) (fun _ => ?_) (fun _ => ?_)
        · exact zp_Mo_steps_37 hX (fun g => fn_Mo_steps_0 n g) (fun g => ih g) g36
        · exact zp_Mo_steps_50 hX g36
theorem zw_Mo_steps {X : et_X} {w : et_W} (hX : et_Gd X w cX10_steps RX10 2 (none) [] rm_Mo_steps) (g : et_G) : et_Z X w 0 et_eU 0 [some (.ref (et_ad w 61)), none] [] g (fn_Mo_steps g) := by
  unfold fn_Mo_steps
  exact zp_Mo_steps_0 hX 1000000 g
theorem ct_Mo_steps {w : et_W} (hw : et_Sane w) (g : et_G) : et_C w yX10_steps (Cond.code yX10_steps cX10_steps 2 (none)) rm_Mo_steps et_eU [.ref (et_ad w 61)] g (fn_Mo_steps g) := et_mk hw (by decide) rfl rfl (fun X hX => zw_Mo_steps hX g)
def rm_Mo_isGood : Room := { frames := 0, cells := 0, slots := 0, locals := 0 }
def fn_Mo_isGood (g : et_G) : Option (Int32 × et_G) :=
  if (g.1 61 18) = 0 then
    some ((1 : Int32), g)
  else
    some ((0 : Int32), g)
theorem zw_Mo_isGood {X : et_X} {w : et_W} (hX : et_Gd X w cX10_isGood RX10 1 (some .boolean) [] rm_Mo_isGood) (g : et_G) : et_Z X w 0 et_eI 0 [some (.ref (et_ad w 61))] [] g (fn_Mo_isGood g) := by
  unfold fn_Mo_isGood
  refine zi_aload0 (pc := 0) hX dX10_isGood_0 ?_
  refine zi_geti (pc := 1) hX dX10_isGood_1 fl_1366 ly_61 rfl ?_
  refine zi_if_ne (pc := 4) 11 hX dX10_isGood_4 (by decide) (fun _ => ?_) (fun _ => ?_)
  · refine zi_iconst (pc := 7) hX dX10_isGood_7 ki_1 ?_
    refine zi_goto (pc := 8) 12 hX dX10_isGood_8 (by decide) ?_
    exact zi_ret (pc := 12) hX dX10_isGood_12 et_z1 rfl rfl rfl
  · refine zi_iconst (pc := 11) hX dX10_isGood_11 ki_0 ?_
    exact zi_ret (pc := 12) hX dX10_isGood_12 et_z0 rfl rfl rfl
theorem ct_Mo_isGood {w : et_W} (hw : et_Sane w) (g : et_G) : et_C w yX10_isGood (Cond.code yX10_isGood cX10_isGood 1 (some .boolean)) rm_Mo_isGood et_eI [.ref (et_ad w 61)] g (fn_Mo_isGood g) := et_mk hw (by decide) rfl rfl (fun X hX => zw_Mo_isGood hX g)
def rm_Mo_copies_73_62 : Room := { frames := 0, cells := 0, slots := 0, locals := 0 }
def fn_Mo_copies_73_62_2 : Nat → Int32 → et_G → Option (Unit × et_G)
  | 0, _, _ => none
  | n + 1, x3, g =>
    if (108 : Int32) ≤ x3 then
      some ((), g)
    else
      et_ck (et_ib x3 108) (
      et_ck (et_ib x3 108) (et_b (et_si g 62 x3.toNatClampNeg (g.1 73 x3.toNatClampNeg)) (fun g1 =>
      et_b (x3 + (1 : Int32)) (fun v2 =>
      fn_Mo_copies_73_62_2 n v2 g1))))
def fn_Mo_copies_73_62 (g : et_G) : Option (Unit × et_G) :=
  fn_Mo_copies_73_62_2 1000000 (0 : Int32) g
theorem zp_Mo_copies_73_62_2 {X : et_X} {w : et_W} (hX : et_Gd X w cX10_copies RX10 4 (none) [] rm_Mo_copies_73_62) : ∀ (n : Nat) (x3 : Int32) (g : et_G), et_Z X w 0 et_eU 2 [none, some (.ref (et_ad w 73)), some (.ref (et_ad w 62)), some (.int x3)] [] g (fn_Mo_copies_73_62_2 n x3 g) := by
  intro n
  induction n with
  | zero =>
    intro x3 g a g2 h
    cases h
  | succ n ih =>
    intro x3 g
    rw [fn_Mo_copies_73_62_2]
    refine zi_iload3 (pc := 2) hX dX10_copies_2 ?_
    refine zi_aload1 (pc := 3) hX dX10_copies_3 ?_
    refine zi_alen (pc := 4) hX dX10_copies_4 ly_73 0 (et_t0 w) ka_108 ?_
    refine zi_icmp_ge (pc := 5) 20 hX dX10_copies_5 (by decide) (fun _ => ?_) (fun _ => ?_)
    · exact zi_vret (pc := 20) hX dX10_copies_20 rfl rfl rfl
    · refine zi_aload2 (pc := 8) hX dX10_copies_8 ?_
      refine zi_iload3 (pc := 9) hX dX10_copies_9 ?_
      refine zi_aload1 (pc := 10) hX dX10_copies_10 ?_
      refine zi_iload3 (pc := 11) hX dX10_copies_11 ?_
      refine zi_iald (pc := 12) hX dX10_copies_12 ly_73 ?_
      refine zi_iast (pc := 13) hX dX10_copies_13 ly_62 (zi_bg (fun g1 => ?_))
      refine zi_iincb3 (pc := 14) hX dX10_copies_14 (kn_1 _) rfl rfl (fun v2 => ?_)
      refine zi_goto (pc := 17) 2 hX dX10_copies_17 (by decide) ?_
      exact ih v2 g1
theorem zw_Mo_copies_73_62 {X : et_X} {w : et_W} (hX : et_Gd X w cX10_copies RX10 4 (none) [] rm_Mo_copies_73_62) (g : et_G) : et_Z X w 0 et_eU 0 [some (.ref (et_ad w 61)), some (.ref (et_ad w 73)), some (.ref (et_ad w 62)), none] [] g (fn_Mo_copies_73_62 g) := by
  unfold fn_Mo_copies_73_62
  refine zi_iconst (pc := 0) hX dX10_copies_0 ki_0 ?_
  refine zi_istore3 (pc := 1) hX dX10_copies_1 rfl rfl ?_
  refine zi_drop (le_n (le_s (le_s (le_s le_nil)))) ?_; exact zp_Mo_copies_73_62_2 hX 1000000 (0 : Int32) g
theorem ct_Mo_copies_73_62 {w : et_W} (hw : et_Sane w) (g : et_G) : et_C w yX10_copies (Cond.code yX10_copies cX10_copies 4 (none)) rm_Mo_copies_73_62 et_eU [.ref (et_ad w 61), .ref (et_ad w 73), .ref (et_ad w 62)] g (fn_Mo_copies_73_62 g) := et_mk hw (by decide) rfl rfl (fun X hX => zw_Mo_copies_73_62 hX g)
def rm_Mo_copies_74_63 : Room := { frames := 0, cells := 0, slots := 0, locals := 0 }
def fn_Mo_copies_74_63_2 : Nat → Int32 → et_G → Option (Unit × et_G)
  | 0, _, _ => none
  | n + 1, x3, g =>
    if (135 : Int32) ≤ x3 then
      some ((), g)
    else
      et_ck (et_ib x3 135) (
      et_ck (et_ib x3 135) (et_b (et_si g 63 x3.toNatClampNeg (g.1 74 x3.toNatClampNeg)) (fun g1 =>
      et_b (x3 + (1 : Int32)) (fun v2 =>
      fn_Mo_copies_74_63_2 n v2 g1))))
def fn_Mo_copies_74_63 (g : et_G) : Option (Unit × et_G) :=
  fn_Mo_copies_74_63_2 1000000 (0 : Int32) g
theorem zp_Mo_copies_74_63_2 {X : et_X} {w : et_W} (hX : et_Gd X w cX10_copies RX10 4 (none) [] rm_Mo_copies_74_63) : ∀ (n : Nat) (x3 : Int32) (g : et_G), et_Z X w 0 et_eU 2 [none, some (.ref (et_ad w 74)), some (.ref (et_ad w 63)), some (.int x3)] [] g (fn_Mo_copies_74_63_2 n x3 g) := by
  intro n
  induction n with
  | zero =>
    intro x3 g a g2 h
    cases h
  | succ n ih =>
    intro x3 g
    rw [fn_Mo_copies_74_63_2]
    refine zi_iload3 (pc := 2) hX dX10_copies_2 ?_
    refine zi_aload1 (pc := 3) hX dX10_copies_3 ?_
    refine zi_alen (pc := 4) hX dX10_copies_4 ly_74 0 (et_t0 w) ka_135 ?_
    refine zi_icmp_ge (pc := 5) 20 hX dX10_copies_5 (by decide) (fun _ => ?_) (fun _ => ?_)
    · exact zi_vret (pc := 20) hX dX10_copies_20 rfl rfl rfl
    · refine zi_aload2 (pc := 8) hX dX10_copies_8 ?_
      refine zi_iload3 (pc := 9) hX dX10_copies_9 ?_
      refine zi_aload1 (pc := 10) hX dX10_copies_10 ?_
      refine zi_iload3 (pc := 11) hX dX10_copies_11 ?_
      refine zi_iald (pc := 12) hX dX10_copies_12 ly_74 ?_
      refine zi_iast (pc := 13) hX dX10_copies_13 ly_63 (zi_bg (fun g1 => ?_))
      refine zi_iincb3 (pc := 14) hX dX10_copies_14 (kn_1 _) rfl rfl (fun v2 => ?_)
      refine zi_goto (pc := 17) 2 hX dX10_copies_17 (by decide) ?_
      exact ih v2 g1
theorem zw_Mo_copies_74_63 {X : et_X} {w : et_W} (hX : et_Gd X w cX10_copies RX10 4 (none) [] rm_Mo_copies_74_63) (g : et_G) : et_Z X w 0 et_eU 0 [some (.ref (et_ad w 61)), some (.ref (et_ad w 74)), some (.ref (et_ad w 63)), none] [] g (fn_Mo_copies_74_63 g) := by
  unfold fn_Mo_copies_74_63
  refine zi_iconst (pc := 0) hX dX10_copies_0 ki_0 ?_
  refine zi_istore3 (pc := 1) hX dX10_copies_1 rfl rfl ?_
  refine zi_drop (le_n (le_s (le_s (le_s le_nil)))) ?_; exact zp_Mo_copies_74_63_2 hX 1000000 (0 : Int32) g
theorem ct_Mo_copies_74_63 {w : et_W} (hw : et_Sane w) (g : et_G) : et_C w yX10_copies (Cond.code yX10_copies cX10_copies 4 (none)) rm_Mo_copies_74_63 et_eU [.ref (et_ad w 61), .ref (et_ad w 74), .ref (et_ad w 63)] g (fn_Mo_copies_74_63 g) := et_mk hw (by decide) rfl rfl (fun X hX => zw_Mo_copies_74_63 hX g)
def rm_Mo_copies_75_64 : Room := { frames := 0, cells := 0, slots := 0, locals := 0 }
def fn_Mo_copies_75_64_2 : Nat → Int32 → et_G → Option (Unit × et_G)
  | 0, _, _ => none
  | n + 1, x3, g =>
    if (162 : Int32) ≤ x3 then
      some ((), g)
    else
      et_ck (et_ib x3 162) (
      et_ck (et_ib x3 162) (et_b (et_si g 64 x3.toNatClampNeg (g.1 75 x3.toNatClampNeg)) (fun g1 =>
      et_b (x3 + (1 : Int32)) (fun v2 =>
      fn_Mo_copies_75_64_2 n v2 g1))))
def fn_Mo_copies_75_64 (g : et_G) : Option (Unit × et_G) :=
  fn_Mo_copies_75_64_2 1000000 (0 : Int32) g
theorem zp_Mo_copies_75_64_2 {X : et_X} {w : et_W} (hX : et_Gd X w cX10_copies RX10 4 (none) [] rm_Mo_copies_75_64) : ∀ (n : Nat) (x3 : Int32) (g : et_G), et_Z X w 0 et_eU 2 [none, some (.ref (et_ad w 75)), some (.ref (et_ad w 64)), some (.int x3)] [] g (fn_Mo_copies_75_64_2 n x3 g) := by
  intro n
  induction n with
  | zero =>
    intro x3 g a g2 h
    cases h
  | succ n ih =>
    intro x3 g
    rw [fn_Mo_copies_75_64_2]
    refine zi_iload3 (pc := 2) hX dX10_copies_2 ?_
    refine zi_aload1 (pc := 3) hX dX10_copies_3 ?_
    refine zi_alen (pc := 4) hX dX10_copies_4 ly_75 0 (et_t0 w) ka_162 ?_
    refine zi_icmp_ge (pc := 5) 20 hX dX10_copies_5 (by decide) (fun _ => ?_) (fun _ => ?_)
    · exact zi_vret (pc := 20) hX dX10_copies_20 rfl rfl rfl
    · refine zi_aload2 (pc := 8) hX dX10_copies_8 ?_
      refine zi_iload3 (pc := 9) hX dX10_copies_9 ?_
      refine zi_aload1 (pc := 10) hX dX10_copies_10 ?_
      refine zi_iload3 (pc := 11) hX dX10_copies_11 ?_
      refine zi_iald (pc := 12) hX dX10_copies_12 ly_75 ?_
      refine zi_iast (pc := 13) hX dX10_copies_13 ly_64 (zi_bg (fun g1 => ?_))
      refine zi_iincb3 (pc := 14) hX dX10_copies_14 (kn_1 _) rfl rfl (fun v2 => ?_)
      refine zi_goto (pc := 17) 2 hX dX10_copies_17 (by decide) ?_
      exact ih v2 g1
theorem zw_Mo_copies_75_64 {X : et_X} {w : et_W} (hX : et_Gd X w cX10_copies RX10 4 (none) [] rm_Mo_copies_75_64) (g : et_G) : et_Z X w 0 et_eU 0 [some (.ref (et_ad w 61)), some (.ref (et_ad w 75)), some (.ref (et_ad w 64)), none] [] g (fn_Mo_copies_75_64 g) := by
  unfold fn_Mo_copies_75_64
  refine zi_iconst (pc := 0) hX dX10_copies_0 ki_0 ?_
  refine zi_istore3 (pc := 1) hX dX10_copies_1 rfl rfl ?_
  refine zi_drop (le_n (le_s (le_s (le_s le_nil)))) ?_; exact zp_Mo_copies_75_64_2 hX 1000000 (0 : Int32) g
theorem ct_Mo_copies_75_64 {w : et_W} (hw : et_Sane w) (g : et_G) : et_C w yX10_copies (Cond.code yX10_copies cX10_copies 4 (none)) rm_Mo_copies_75_64 et_eU [.ref (et_ad w 61), .ref (et_ad w 75), .ref (et_ad w 64)] g (fn_Mo_copies_75_64 g) := et_mk hw (by decide) rfl rfl (fun X hX => zw_Mo_copies_75_64 hX g)
def rm_Mo_copies_76_65 : Room := { frames := 0, cells := 0, slots := 0, locals := 0 }
def fn_Mo_copies_76_65_2 : Nat → Int32 → et_G → Option (Unit × et_G)
  | 0, _, _ => none
  | n + 1, x3, g =>
    if (9 : Int32) ≤ x3 then
      some ((), g)
    else
      et_ck (et_ib x3 9) (
      et_ck (et_ib x3 9) (et_b (et_si g 65 x3.toNatClampNeg (g.1 76 x3.toNatClampNeg)) (fun g1 =>
      et_b (x3 + (1 : Int32)) (fun v2 =>
      fn_Mo_copies_76_65_2 n v2 g1))))
def fn_Mo_copies_76_65 (g : et_G) : Option (Unit × et_G) :=
  fn_Mo_copies_76_65_2 1000000 (0 : Int32) g
theorem zp_Mo_copies_76_65_2 {X : et_X} {w : et_W} (hX : et_Gd X w cX10_copies RX10 4 (none) [] rm_Mo_copies_76_65) : ∀ (n : Nat) (x3 : Int32) (g : et_G), et_Z X w 0 et_eU 2 [none, some (.ref (et_ad w 76)), some (.ref (et_ad w 65)), some (.int x3)] [] g (fn_Mo_copies_76_65_2 n x3 g) := by
  intro n
  induction n with
  | zero =>
    intro x3 g a g2 h
    cases h
  | succ n ih =>
    intro x3 g
    rw [fn_Mo_copies_76_65_2]
    refine zi_iload3 (pc := 2) hX dX10_copies_2 ?_
    refine zi_aload1 (pc := 3) hX dX10_copies_3 ?_
    refine zi_alen (pc := 4) hX dX10_copies_4 ly_76 0 (et_t0 w) ka_9 ?_
    refine zi_icmp_ge (pc := 5) 20 hX dX10_copies_5 (by decide) (fun _ => ?_) (fun _ => ?_)
    · exact zi_vret (pc := 20) hX dX10_copies_20 rfl rfl rfl
    · refine zi_aload2 (pc := 8) hX dX10_copies_8 ?_
      refine zi_iload3 (pc := 9) hX dX10_copies_9 ?_
      refine zi_aload1 (pc := 10) hX dX10_copies_10 ?_
      refine zi_iload3 (pc := 11) hX dX10_copies_11 ?_
      refine zi_iald (pc := 12) hX dX10_copies_12 ly_76 ?_
      refine zi_iast (pc := 13) hX dX10_copies_13 ly_65 (zi_bg (fun g1 => ?_))
      refine zi_iincb3 (pc := 14) hX dX10_copies_14 (kn_1 _) rfl rfl (fun v2 => ?_)
      refine zi_goto (pc := 17) 2 hX dX10_copies_17 (by decide) ?_
      exact ih v2 g1
theorem zw_Mo_copies_76_65 {X : et_X} {w : et_W} (hX : et_Gd X w cX10_copies RX10 4 (none) [] rm_Mo_copies_76_65) (g : et_G) : et_Z X w 0 et_eU 0 [some (.ref (et_ad w 61)), some (.ref (et_ad w 76)), some (.ref (et_ad w 65)), none] [] g (fn_Mo_copies_76_65 g) := by
  unfold fn_Mo_copies_76_65
  refine zi_iconst (pc := 0) hX dX10_copies_0 ki_0 ?_
  refine zi_istore3 (pc := 1) hX dX10_copies_1 rfl rfl ?_
  refine zi_drop (le_n (le_s (le_s (le_s le_nil)))) ?_; exact zp_Mo_copies_76_65_2 hX 1000000 (0 : Int32) g
theorem ct_Mo_copies_76_65 {w : et_W} (hw : et_Sane w) (g : et_G) : et_C w yX10_copies (Cond.code yX10_copies cX10_copies 4 (none)) rm_Mo_copies_76_65 et_eU [.ref (et_ad w 61), .ref (et_ad w 76), .ref (et_ad w 65)] g (fn_Mo_copies_76_65 g) := et_mk hw (by decide) rfl rfl (fun X hX => zw_Mo_copies_76_65 hX g)
def rm_Mo_copies_77_66 : Room := { frames := 0, cells := 0, slots := 0, locals := 0 }
def fn_Mo_copies_77_66_2 : Nat → Int32 → et_G → Option (Unit × et_G)
  | 0, _, _ => none
  | n + 1, x3, g =>
    if (40 : Int32) ≤ x3 then
      some ((), g)
    else
      et_ck (et_ib x3 40) (
      et_ck (et_ib x3 40) (et_b (et_si g 66 x3.toNatClampNeg (g.1 77 x3.toNatClampNeg)) (fun g1 =>
      et_b (x3 + (1 : Int32)) (fun v2 =>
      fn_Mo_copies_77_66_2 n v2 g1))))
def fn_Mo_copies_77_66 (g : et_G) : Option (Unit × et_G) :=
  fn_Mo_copies_77_66_2 1000000 (0 : Int32) g
theorem zp_Mo_copies_77_66_2 {X : et_X} {w : et_W} (hX : et_Gd X w cX10_copies RX10 4 (none) [] rm_Mo_copies_77_66) : ∀ (n : Nat) (x3 : Int32) (g : et_G), et_Z X w 0 et_eU 2 [none, some (.ref (et_ad w 77)), some (.ref (et_ad w 66)), some (.int x3)] [] g (fn_Mo_copies_77_66_2 n x3 g) := by
  intro n
  induction n with
  | zero =>
    intro x3 g a g2 h
    cases h
  | succ n ih =>
    intro x3 g
    rw [fn_Mo_copies_77_66_2]
    refine zi_iload3 (pc := 2) hX dX10_copies_2 ?_
    refine zi_aload1 (pc := 3) hX dX10_copies_3 ?_
    refine zi_alen (pc := 4) hX dX10_copies_4 ly_77 0 (et_t0 w) ka_40 ?_
    refine zi_icmp_ge (pc := 5) 20 hX dX10_copies_5 (by decide) (fun _ => ?_) (fun _ => ?_)
    · exact zi_vret (pc := 20) hX dX10_copies_20 rfl rfl rfl
    · refine zi_aload2 (pc := 8) hX dX10_copies_8 ?_
      refine zi_iload3 (pc := 9) hX dX10_copies_9 ?_
      refine zi_aload1 (pc := 10) hX dX10_copies_10 ?_
      refine zi_iload3 (pc := 11) hX dX10_copies_11 ?_
      refine zi_iald (pc := 12) hX dX10_copies_12 ly_77 ?_
      refine zi_iast (pc := 13) hX dX10_copies_13 ly_66 (zi_bg (fun g1 => ?_))
      refine zi_iincb3 (pc := 14) hX dX10_copies_14 (kn_1 _) rfl rfl (fun v2 => ?_)
      refine zi_goto (pc := 17) 2 hX dX10_copies_17 (by decide) ?_
      exact ih v2 g1
theorem zw_Mo_copies_77_66 {X : et_X} {w : et_W} (hX : et_Gd X w cX10_copies RX10 4 (none) [] rm_Mo_copies_77_66) (g : et_G) : et_Z X w 0 et_eU 0 [some (.ref (et_ad w 61)), some (.ref (et_ad w 77)), some (.ref (et_ad w 66)), none] [] g (fn_Mo_copies_77_66 g) := by
  unfold fn_Mo_copies_77_66
  refine zi_iconst (pc := 0) hX dX10_copies_0 ki_0 ?_
  refine zi_istore3 (pc := 1) hX dX10_copies_1 rfl rfl ?_
  refine zi_drop (le_n (le_s (le_s (le_s le_nil)))) ?_; exact zp_Mo_copies_77_66_2 hX 1000000 (0 : Int32) g
theorem ct_Mo_copies_77_66 {w : et_W} (hw : et_Sane w) (g : et_G) : et_C w yX10_copies (Cond.code yX10_copies cX10_copies 4 (none)) rm_Mo_copies_77_66 et_eU [.ref (et_ad w 61), .ref (et_ad w 77), .ref (et_ad w 66)] g (fn_Mo_copies_77_66 g) := et_mk hw (by decide) rfl rfl (fun X hX => zw_Mo_copies_77_66 hX g)
def rm_Mo_copies_78_67 : Room := { frames := 0, cells := 0, slots := 0, locals := 0 }
def fn_Mo_copies_78_67_2 : Nat → Int32 → et_G → Option (Unit × et_G)
  | 0, _, _ => none
  | n + 1, x3, g =>
    if (30 : Int32) ≤ x3 then
      some ((), g)
    else
      et_ck (et_ib x3 30) (
      et_ck (et_ib x3 30) (et_b (et_si g 67 x3.toNatClampNeg (g.1 78 x3.toNatClampNeg)) (fun g1 =>
      et_b (x3 + (1 : Int32)) (fun v2 =>
      fn_Mo_copies_78_67_2 n v2 g1))))
def fn_Mo_copies_78_67 (g : et_G) : Option (Unit × et_G) :=
  fn_Mo_copies_78_67_2 1000000 (0 : Int32) g
theorem zp_Mo_copies_78_67_2 {X : et_X} {w : et_W} (hX : et_Gd X w cX10_copies RX10 4 (none) [] rm_Mo_copies_78_67) : ∀ (n : Nat) (x3 : Int32) (g : et_G), et_Z X w 0 et_eU 2 [none, some (.ref (et_ad w 78)), some (.ref (et_ad w 67)), some (.int x3)] [] g (fn_Mo_copies_78_67_2 n x3 g) := by
  intro n
  induction n with
  | zero =>
    intro x3 g a g2 h
    cases h
  | succ n ih =>
    intro x3 g
    rw [fn_Mo_copies_78_67_2]
    refine zi_iload3 (pc := 2) hX dX10_copies_2 ?_
    refine zi_aload1 (pc := 3) hX dX10_copies_3 ?_
    refine zi_alen (pc := 4) hX dX10_copies_4 ly_78 0 (et_t0 w) ka_30 ?_
    refine zi_icmp_ge (pc := 5) 20 hX dX10_copies_5 (by decide) (fun _ => ?_) (fun _ => ?_)
    · exact zi_vret (pc := 20) hX dX10_copies_20 rfl rfl rfl
    · refine zi_aload2 (pc := 8) hX dX10_copies_8 ?_
      refine zi_iload3 (pc := 9) hX dX10_copies_9 ?_
      refine zi_aload1 (pc := 10) hX dX10_copies_10 ?_
      refine zi_iload3 (pc := 11) hX dX10_copies_11 ?_
      refine zi_iald (pc := 12) hX dX10_copies_12 ly_78 ?_
      refine zi_iast (pc := 13) hX dX10_copies_13 ly_67 (zi_bg (fun g1 => ?_))
      refine zi_iincb3 (pc := 14) hX dX10_copies_14 (kn_1 _) rfl rfl (fun v2 => ?_)
      refine zi_goto (pc := 17) 2 hX dX10_copies_17 (by decide) ?_
      exact ih v2 g1
theorem zw_Mo_copies_78_67 {X : et_X} {w : et_W} (hX : et_Gd X w cX10_copies RX10 4 (none) [] rm_Mo_copies_78_67) (g : et_G) : et_Z X w 0 et_eU 0 [some (.ref (et_ad w 61)), some (.ref (et_ad w 78)), some (.ref (et_ad w 67)), none] [] g (fn_Mo_copies_78_67 g) := by
  unfold fn_Mo_copies_78_67
  refine zi_iconst (pc := 0) hX dX10_copies_0 ki_0 ?_
  refine zi_istore3 (pc := 1) hX dX10_copies_1 rfl rfl ?_
  refine zi_drop (le_n (le_s (le_s (le_s le_nil)))) ?_; exact zp_Mo_copies_78_67_2 hX 1000000 (0 : Int32) g
theorem ct_Mo_copies_78_67 {w : et_W} (hw : et_Sane w) (g : et_G) : et_C w yX10_copies (Cond.code yX10_copies cX10_copies 4 (none)) rm_Mo_copies_78_67 et_eU [.ref (et_ad w 61), .ref (et_ad w 78), .ref (et_ad w 67)] g (fn_Mo_copies_78_67 g) := et_mk hw (by decide) rfl rfl (fun X hX => zw_Mo_copies_78_67 hX g)
def rm_Mo_copies_79_68 : Room := { frames := 0, cells := 0, slots := 0, locals := 0 }
def fn_Mo_copies_79_68_2 : Nat → Int32 → et_G → Option (Unit × et_G)
  | 0, _, _ => none
  | n + 1, x3, g =>
    if (6 : Int32) ≤ x3 then
      some ((), g)
    else
      et_ck (et_ib x3 6) (
      et_ck (et_ib x3 6) (et_b (et_si g 68 x3.toNatClampNeg (g.1 79 x3.toNatClampNeg)) (fun g1 =>
      et_b (x3 + (1 : Int32)) (fun v2 =>
      fn_Mo_copies_79_68_2 n v2 g1))))
def fn_Mo_copies_79_68 (g : et_G) : Option (Unit × et_G) :=
  fn_Mo_copies_79_68_2 1000000 (0 : Int32) g
theorem zp_Mo_copies_79_68_2 {X : et_X} {w : et_W} (hX : et_Gd X w cX10_copies RX10 4 (none) [] rm_Mo_copies_79_68) : ∀ (n : Nat) (x3 : Int32) (g : et_G), et_Z X w 0 et_eU 2 [none, some (.ref (et_ad w 79)), some (.ref (et_ad w 68)), some (.int x3)] [] g (fn_Mo_copies_79_68_2 n x3 g) := by
  intro n
  induction n with
  | zero =>
    intro x3 g a g2 h
    cases h
  | succ n ih =>
    intro x3 g
    rw [fn_Mo_copies_79_68_2]
    refine zi_iload3 (pc := 2) hX dX10_copies_2 ?_
    refine zi_aload1 (pc := 3) hX dX10_copies_3 ?_
    refine zi_alen (pc := 4) hX dX10_copies_4 ly_79 0 (et_t0 w) ka_6 ?_
    refine zi_icmp_ge (pc := 5) 20 hX dX10_copies_5 (by decide) (fun _ => ?_) (fun _ => ?_)
    · exact zi_vret (pc := 20) hX dX10_copies_20 rfl rfl rfl
    · refine zi_aload2 (pc := 8) hX dX10_copies_8 ?_
      refine zi_iload3 (pc := 9) hX dX10_copies_9 ?_
      refine zi_aload1 (pc := 10) hX dX10_copies_10 ?_
      refine zi_iload3 (pc := 11) hX dX10_copies_11 ?_
      refine zi_iald (pc := 12) hX dX10_copies_12 ly_79 ?_
      refine zi_iast (pc := 13) hX dX10_copies_13 ly_68 (zi_bg (fun g1 => ?_))
      refine zi_iincb3 (pc := 14) hX dX10_copies_14 (kn_1 _) rfl rfl (fun v2 => ?_)
      refine zi_goto (pc := 17) 2 hX dX10_copies_17 (by decide) ?_
      exact ih v2 g1
theorem zw_Mo_copies_79_68 {X : et_X} {w : et_W} (hX : et_Gd X w cX10_copies RX10 4 (none) [] rm_Mo_copies_79_68) (g : et_G) : et_Z X w 0 et_eU 0 [some (.ref (et_ad w 61)), some (.ref (et_ad w 79)), some (.ref (et_ad w 68)), none] [] g (fn_Mo_copies_79_68 g) := by
  unfold fn_Mo_copies_79_68
  refine zi_iconst (pc := 0) hX dX10_copies_0 ki_0 ?_
  refine zi_istore3 (pc := 1) hX dX10_copies_1 rfl rfl ?_
  refine zi_drop (le_n (le_s (le_s (le_s le_nil)))) ?_; exact zp_Mo_copies_79_68_2 hX 1000000 (0 : Int32) g
theorem ct_Mo_copies_79_68 {w : et_W} (hw : et_Sane w) (g : et_G) : et_C w yX10_copies (Cond.code yX10_copies cX10_copies 4 (none)) rm_Mo_copies_79_68 et_eU [.ref (et_ad w 61), .ref (et_ad w 79), .ref (et_ad w 68)] g (fn_Mo_copies_79_68 g) := et_mk hw (by decide) rfl rfl (fun X hX => zw_Mo_copies_79_68 hX g)
def rm_Mo_copies_81_70 : Room := { frames := 0, cells := 0, slots := 0, locals := 0 }
def fn_Mo_copies_81_70_2 : Nat → Int32 → et_G → Option (Unit × et_G)
  | 0, _, _ => none
  | n + 1, x3, g =>
    if (10 : Int32) ≤ x3 then
      some ((), g)
    else
      et_ck (et_ib x3 10) (
      et_ck (et_ib x3 10) (et_b (et_si g 70 x3.toNatClampNeg (g.1 81 x3.toNatClampNeg)) (fun g1 =>
      et_b (x3 + (1 : Int32)) (fun v2 =>
      fn_Mo_copies_81_70_2 n v2 g1))))
def fn_Mo_copies_81_70 (g : et_G) : Option (Unit × et_G) :=
  fn_Mo_copies_81_70_2 1000000 (0 : Int32) g
theorem zp_Mo_copies_81_70_2 {X : et_X} {w : et_W} (hX : et_Gd X w cX10_copies RX10 4 (none) [] rm_Mo_copies_81_70) : ∀ (n : Nat) (x3 : Int32) (g : et_G), et_Z X w 0 et_eU 2 [none, some (.ref (et_ad w 81)), some (.ref (et_ad w 70)), some (.int x3)] [] g (fn_Mo_copies_81_70_2 n x3 g) := by
  intro n
  induction n with
  | zero =>
    intro x3 g a g2 h
    cases h
  | succ n ih =>
    intro x3 g
    rw [fn_Mo_copies_81_70_2]
    refine zi_iload3 (pc := 2) hX dX10_copies_2 ?_
    refine zi_aload1 (pc := 3) hX dX10_copies_3 ?_
    refine zi_alen (pc := 4) hX dX10_copies_4 ly_81 0 (et_t0 w) ka_10 ?_
    refine zi_icmp_ge (pc := 5) 20 hX dX10_copies_5 (by decide) (fun _ => ?_) (fun _ => ?_)
    · exact zi_vret (pc := 20) hX dX10_copies_20 rfl rfl rfl
    · refine zi_aload2 (pc := 8) hX dX10_copies_8 ?_
      refine zi_iload3 (pc := 9) hX dX10_copies_9 ?_
      refine zi_aload1 (pc := 10) hX dX10_copies_10 ?_
      refine zi_iload3 (pc := 11) hX dX10_copies_11 ?_
      refine zi_iald (pc := 12) hX dX10_copies_12 ly_81 ?_
      refine zi_iast (pc := 13) hX dX10_copies_13 ly_70 (zi_bg (fun g1 => ?_))
      refine zi_iincb3 (pc := 14) hX dX10_copies_14 (kn_1 _) rfl rfl (fun v2 => ?_)
      refine zi_goto (pc := 17) 2 hX dX10_copies_17 (by decide) ?_
      exact ih v2 g1
theorem zw_Mo_copies_81_70 {X : et_X} {w : et_W} (hX : et_Gd X w cX10_copies RX10 4 (none) [] rm_Mo_copies_81_70) (g : et_G) : et_Z X w 0 et_eU 0 [some (.ref (et_ad w 61)), some (.ref (et_ad w 81)), some (.ref (et_ad w 70)), none] [] g (fn_Mo_copies_81_70 g) := by
  unfold fn_Mo_copies_81_70
  refine zi_iconst (pc := 0) hX dX10_copies_0 ki_0 ?_
  refine zi_istore3 (pc := 1) hX dX10_copies_1 rfl rfl ?_
  refine zi_drop (le_n (le_s (le_s (le_s le_nil)))) ?_; exact zp_Mo_copies_81_70_2 hX 1000000 (0 : Int32) g
theorem ct_Mo_copies_81_70 {w : et_W} (hw : et_Sane w) (g : et_G) : et_C w yX10_copies (Cond.code yX10_copies cX10_copies 4 (none)) rm_Mo_copies_81_70 et_eU [.ref (et_ad w 61), .ref (et_ad w 81), .ref (et_ad w 70)] g (fn_Mo_copies_81_70 g) := et_mk hw (by decide) rfl rfl (fun X hX => zw_Mo_copies_81_70 hX g)
def rm_Mo_spelled : Room := { frames := 0, cells := 0, slots := 0, locals := 0 }
def fn_Mo_spelled_69 (x5 : Int32) (x6 : Int64) (g : et_G) : Option (Int64 × et_G) :=
  if x5 = 0 then
    some (x6, g)
  else
    et_b ((x6 <<< ((5 : Int32).toInt64 &&& 63)) ||| ((x5 - (96 : Int32)).toInt64)) (fun v3 =>
    some (v3, g))
def fn_Mo_spelled_51 (x4 : Int32) (x5 : Int32) (x6 : Int64) (g : et_G) : Option (Int64 × et_G) :=
  if x4 = 0 then
    fn_Mo_spelled_69 x5 x6 g
  else
    et_b ((x6 <<< ((5 : Int32).toInt64 &&& 63)) ||| ((x4 - (96 : Int32)).toInt64)) (fun v4 =>
    fn_Mo_spelled_69 x5 v4 g)
def fn_Mo_spelled_35 (x3 : Int32) (x4 : Int32) (x5 : Int32) (x6 : Int64) (g : et_G) : Option (Int64 × et_G) :=
  if x3 = 0 then
    fn_Mo_spelled_51 x4 x5 x6 g
  else
    et_b ((x6 <<< ((5 : Int32).toInt64 &&& 63)) ||| ((x3 - (96 : Int32)).toInt64)) (fun v5 =>
    fn_Mo_spelled_51 x4 x5 v5 g)
def fn_Mo_spelled (p0 : Int32) (p1 : Int32) (p2 : Int32) (p3 : Int32) (p4 : Int32) (p5 : Int32) (g : et_G) : Option (Int64 × et_G) :=
  et_b ((p0 - (96 : Int32)).toInt64) (fun v1 =>
  et_b ((v1 <<< ((5 : Int32).toInt64 &&& 63)) ||| ((p1 - (96 : Int32)).toInt64)) (fun v2 =>
  if p2 = 0 then
    fn_Mo_spelled_35 p3 p4 p5 v2 g
  else
    et_b ((v2 <<< ((5 : Int32).toInt64 &&& 63)) ||| ((p2 - (96 : Int32)).toInt64)) (fun v6 =>
    fn_Mo_spelled_35 p3 p4 p5 v6 g)))
theorem zp_Mo_spelled_69 {X : et_X} {w : et_W} (hX : et_Gd X w cX10_spelled RX10 8 (some .long) [] rm_Mo_spelled) (x5 : Int32) (x6 : Int64) (g : et_G) : et_Z X w 0 et_eJ 69 [none, none, none, none, none, some (.int x5), some (.long x6), none] [] g (fn_Mo_spelled_69 x5 x6 g) := by
  unfold fn_Mo_spelled_69
  refine zi_iload5 (pc := 69) hX dX10_spelled_69 ?_
  refine zi_if_eq (pc := 71) 87 hX dX10_spelled_71 (by decide) (fun _ => ?_) (fun _ => ?_)
  · refine zi_lload6 (pc := 87) hX dX10_spelled_87 ?_
    exact zi_lret (pc := 89) hX dX10_spelled_89 rfl rfl rfl
  · refine zi_lload6 (pc := 74) hX dX10_spelled_74 ?_
    refine zi_iconst (pc := 76) hX dX10_spelled_76 ki_5 ?_
    refine zi_lshl (pc := 77) hX dX10_spelled_77 ?_
    refine zi_iload5 (pc := 78) hX dX10_spelled_78 ?_
    refine zi_bipush (pc := 80) hX dX10_spelled_80 kb_96 ?_
    refine zi_isub (pc := 82) hX dX10_spelled_82 ?_
    refine zi_i2l (pc := 83) hX dX10_spelled_83 ?_
    refine zi_lor (pc := 84) hX dX10_spelled_84 ?_
    refine zi_bl (fun v3 => ?_)
    refine zi_lstore6 (pc := 85) hX dX10_spelled_85 rfl rfl ?_
    refine zi_lload6 (pc := 87) hX dX10_spelled_87 ?_
    exact zi_lret (pc := 89) hX dX10_spelled_89 rfl rfl rfl
theorem zp_Mo_spelled_51 {X : et_X} {w : et_W} (hX : et_Gd X w cX10_spelled RX10 8 (some .long) [] rm_Mo_spelled) (x4 : Int32) (x5 : Int32) (x6 : Int64) (g : et_G) : et_Z X w 0 et_eJ 51 [none, none, none, none, some (.int x4), some (.int x5), some (.long x6), none] [] g (fn_Mo_spelled_51 x4 x5 x6 g) := by
  unfold fn_Mo_spelled_51
  refine zi_iload4 (pc := 51) hX dX10_spelled_51 ?_
  refine zi_if_eq (pc := 53) 69 hX dX10_spelled_53 (by decide) (fun _ => ?_) (fun _ => ?_)
  · refine zi_drop (le_s (le_s (le_s (le_s (le_n (le_s (le_s (le_s le_nil)))))))) ?_; exact zp_Mo_spelled_69 hX x5 x6 g
  · refine zi_lload6 (pc := 56) hX dX10_spelled_56 ?_
    refine zi_iconst (pc := 58) hX dX10_spelled_58 ki_5 ?_
    refine zi_lshl (pc := 59) hX dX10_spelled_59 ?_
    refine zi_iload4 (pc := 60) hX dX10_spelled_60 ?_
    refine zi_bipush (pc := 62) hX dX10_spelled_62 kb_96 ?_
    refine zi_isub (pc := 64) hX dX10_spelled_64 ?_
    refine zi_i2l (pc := 65) hX dX10_spelled_65 ?_
    refine zi_lor (pc := 66) hX dX10_spelled_66 ?_
    refine zi_bl (fun v4 => ?_)
    refine zi_lstore6 (pc := 67) hX dX10_spelled_67 rfl rfl ?_
    refine zi_drop (le_s (le_s (le_s (le_s (le_n (le_s (le_s (le_s le_nil)))))))) ?_; exact zp_Mo_spelled_69 hX x5 v4 g
theorem zp_Mo_spelled_35 {X : et_X} {w : et_W} (hX : et_Gd X w cX10_spelled RX10 8 (some .long) [] rm_Mo_spelled) (x3 : Int32) (x4 : Int32) (x5 : Int32) (x6 : Int64) (g : et_G) : et_Z X w 0 et_eJ 35 [none, none, none, some (.int x3), some (.int x4), some (.int x5), some (.long x6), none] [] g (fn_Mo_spelled_35 x3 x4 x5 x6 g) := by
  unfold fn_Mo_spelled_35
  refine zi_iload3 (pc := 35) hX dX10_spelled_35 ?_
  refine zi_if_eq (pc := 36) 51 hX dX10_spelled_36 (by decide) (fun _ => ?_) (fun _ => ?_)
  · refine zi_drop (le_s (le_s (le_s (le_n (le_s (le_s (le_s (le_s le_nil)))))))) ?_; exact zp_Mo_spelled_51 hX x4 x5 x6 g
  · refine zi_lload6 (pc := 39) hX dX10_spelled_39 ?_
    refine zi_iconst (pc := 41) hX dX10_spelled_41 ki_5 ?_
    refine zi_lshl (pc := 42) hX dX10_spelled_42 ?_
    refine zi_iload3 (pc := 43) hX dX10_spelled_43 ?_
    refine zi_bipush (pc := 44) hX dX10_spelled_44 kb_96 ?_
    refine zi_isub (pc := 46) hX dX10_spelled_46 ?_
    refine zi_i2l (pc := 47) hX dX10_spelled_47 ?_
    refine zi_lor (pc := 48) hX dX10_spelled_48 ?_
    refine zi_bl (fun v5 => ?_)
    refine zi_lstore6 (pc := 49) hX dX10_spelled_49 rfl rfl ?_
    refine zi_drop (le_s (le_s (le_s (le_n (le_s (le_s (le_s (le_s le_nil)))))))) ?_; exact zp_Mo_spelled_51 hX x4 x5 v5 g
theorem zw_Mo_spelled {X : et_X} {w : et_W} (hX : et_Gd X w cX10_spelled RX10 8 (some .long) [] rm_Mo_spelled) (p0 : Int32) (p1 : Int32) (p2 : Int32) (p3 : Int32) (p4 : Int32) (p5 : Int32) (g : et_G) : et_Z X w 0 et_eJ 0 [some (.int p0), some (.int p1), some (.int p2), some (.int p3), some (.int p4), some (.int p5), none, none] [] g (fn_Mo_spelled p0 p1 p2 p3 p4 p5 g) := by
  unfold fn_Mo_spelled
  refine zi_iload0 (pc := 0) hX dX10_spelled_0 ?_
  refine zi_bipush (pc := 1) hX dX10_spelled_1 kb_96 ?_
  refine zi_isub (pc := 3) hX dX10_spelled_3 ?_
  refine zi_i2l (pc := 4) hX dX10_spelled_4 ?_
  refine zi_bl (fun v1 => ?_)
  refine zi_lstore6 (pc := 5) hX dX10_spelled_5 rfl rfl ?_
  refine zi_lload6 (pc := 7) hX dX10_spelled_7 ?_
  refine zi_iconst (pc := 9) hX dX10_spelled_9 ki_5 ?_
  refine zi_lshl (pc := 10) hX dX10_spelled_10 ?_
  refine zi_iload1 (pc := 11) hX dX10_spelled_11 ?_
  refine zi_bipush (pc := 12) hX dX10_spelled_12 kb_96 ?_
  refine zi_isub (pc := 14) hX dX10_spelled_14 ?_
  refine zi_i2l (pc := 15) hX dX10_spelled_15 ?_
  refine zi_lor (pc := 16) hX dX10_spelled_16 ?_
  refine zi_bl (fun v2 => ?_)
  refine zi_lstore6 (pc := 17) hX dX10_spelled_17 rfl rfl ?_
  refine zi_iload2 (pc := 19) hX dX10_spelled_19 ?_
  refine zi_if_eq (pc := 20) 35 hX dX10_spelled_20 (by decide) (fun _ => ?_) (fun _ => ?_)
  · refine zi_drop (le_n (le_n (le_n (le_s (le_s (le_s (le_s (le_s le_nil)))))))) ?_; exact zp_Mo_spelled_35 hX p3 p4 p5 v2 g
  · refine zi_lload6 (pc := 23) hX dX10_spelled_23 ?_
    refine zi_iconst (pc := 25) hX dX10_spelled_25 ki_5 ?_
    refine zi_lshl (pc := 26) hX dX10_spelled_26 ?_
    refine zi_iload2 (pc := 27) hX dX10_spelled_27 ?_
    refine zi_bipush (pc := 28) hX dX10_spelled_28 kb_96 ?_
    refine zi_isub (pc := 30) hX dX10_spelled_30 ?_
    refine zi_i2l (pc := 31) hX dX10_spelled_31 ?_
    refine zi_lor (pc := 32) hX dX10_spelled_32 ?_
    refine zi_bl (fun v6 => ?_)
    refine zi_lstore6 (pc := 33) hX dX10_spelled_33 rfl rfl ?_
    refine zi_drop (le_n (le_n (le_n (le_s (le_s (le_s (le_s (le_s le_nil)))))))) ?_; exact zp_Mo_spelled_35 hX p3 p4 p5 v6 g
theorem ct_Mo_spelled {w : et_W} (hw : et_Sane w) (p0 : Int32) (p1 : Int32) (p2 : Int32) (p3 : Int32) (p4 : Int32) (p5 : Int32) (g : et_G) : et_C w yX10_spelled (Cond.code yX10_spelled cX10_spelled 8 (some .long)) rm_Mo_spelled et_eJ [.int p0, .int p1, .int p2, .int p3, .int p4, .int p5] g (fn_Mo_spelled p0 p1 p2 p3 p4 p5 g) := et_mk hw (by decide) rfl rfl (fun X hX => zw_Mo_spelled hX p0 p1 p2 p3 p4 p5 g)
def rm_Mo_letters : Room := { frames := 1, cells := 0, slots := 0, locals := 27 }
def fn_Mo_letters (p0 : Int32) (g : et_G) : Option (Int64 × et_G) :=
  if p0 = 0 then
    et_bd (fn_Mo_spelled (115 : Int32) (116 : Int32) (101 : Int32) (109 : Int32) (0 : Int32) (0 : Int32) g) (fun v1 g2 =>
    some (v1, g2))
  else
  if p0 = 1 then
    et_bd (fn_Mo_spelled (101 : Int32) (110 : Int32) (100 : Int32) (105 : Int32) (110 : Int32) (103 : Int32) g) (fun v3 g4 =>
    some (v3, g4))
  else
  if p0 = 2 then
    et_bd (fn_Mo_spelled (99 : Int32) (104 : Int32) (97 : Int32) (110 : Int32) (103 : Int32) (101 : Int32) g) (fun v5 g6 =>
    some (v5, g6))
  else
  if p0 = 3 then
    et_bd (fn_Mo_spelled (110 : Int32) (111 : Int32) (116 : Int32) (0 : Int32) (0 : Int32) (0 : Int32) g) (fun v7 g8 =>
    some (v7, g8))
  else
  if p0 = 4 then
    et_bd (fn_Mo_spelled (112 : Int32) (108 : Int32) (97 : Int32) (99 : Int32) (101 : Int32) (115 : Int32) g) (fun v9 g10 =>
    some (v9, g10))
  else
  if p0 = 5 then
    et_bd (fn_Mo_spelled (110 : Int32) (101 : Int32) (97 : Int32) (114 : Int32) (0 : Int32) (0 : Int32) g) (fun v11 g12 =>
    some (v11, g12))
  else
  if p0 = 6 then
    et_bd (fn_Mo_spelled (112 : Int32) (101 : Int32) (114 : Int32) (115 : Int32) (111 : Int32) (110 : Int32) g) (fun v13 g14 =>
    some (v13, g14))
  else
  if p0 = 7 then
    et_bd (fn_Mo_spelled (116 : Int32) (104 : Int32) (105 : Int32) (110 : Int32) (103 : Int32) (0 : Int32) g) (fun v15 g16 =>
    some (v15, g16))
  else
  if p0 = 8 then
    et_bd (fn_Mo_spelled (114 : Int32) (117 : Int32) (108 : Int32) (101 : Int32) (0 : Int32) (0 : Int32) g) (fun v17 g18 =>
    some (v17, g18))
  else
  if p0 = 9 then
    et_bd (fn_Mo_spelled (97 : Int32) (116 : Int32) (0 : Int32) (0 : Int32) (0 : Int32) (0 : Int32) g) (fun v19 g20 =>
    some (v19, g20))
  else
  if p0 = 10 then
    et_bd (fn_Mo_spelled (119 : Int32) (101 : Int32) (105 : Int32) (103 : Int32) (104 : Int32) (0 : Int32) g) (fun v21 g22 =>
    some (v21, g22))
  else
  if p0 = 11 then
    et_bd (fn_Mo_spelled (108 : Int32) (111 : Int32) (117 : Int32) (100 : Int32) (0 : Int32) (0 : Int32) g) (fun v23 g24 =>
    some (v23, g24))
  else
  et_bd (fn_Mo_spelled (110 : Int32) (101 : Int32) (118 : Int32) (101 : Int32) (114 : Int32) (0 : Int32) g) (fun v25 g26 =>
  some (v25, g26))
theorem zw_Mo_letters {X : et_X} {w : et_W} (hX : et_Gd X w cX10_letters RX10 1 (some .long) [] rm_Mo_letters) (p0 : Int32) (g : et_G) : et_Z X w 0 et_eJ 0 [some (.int p0)] [] g (fn_Mo_letters p0 g) := by
  unfold fn_Mo_letters
  refine zi_iload0 (pc := 0) hX dX10_letters_0 ?_
  refine zi_ite (fun h0 => ?_) (fun h0 => ?_)
  · refine zi_tabI (pc := 1) 64 hX dX10_letters_1 0 h0 (by decide) (by decide) rfl (by decide) ?_
    refine zi_bipush (pc := 64) hX dX10_letters_64 kb_115 ?_
    refine zi_bipush (pc := 66) hX dX10_letters_66 kb_116 ?_
    refine zi_bipush (pc := 68) hX dX10_letters_68 kb_101 ?_
    refine zi_bipush (pc := 70) hX dX10_letters_70 kb_109 ?_
    refine zi_iconst (pc := 72) hX dX10_letters_72 ki_0 ?_
    refine zi_iconst (pc := 73) hX dX10_letters_73 ki_0 ?_
    refine zi_callJ (zc_stat (pc := 74) hX dX10_letters_74 tm_1624 md_X10_spelled st_X10_spelled (ct_Mo_spelled hX.sane (115 : Int32) (116 : Int32) (101 : Int32) (109 : Int32) (0 : Int32) (0 : Int32) g) rfl rfl rfl) (fun v1 g2 => ?_)
    exact zi_lret (pc := 77) hX dX10_letters_77 rfl rfl rfl
  refine zi_ite (fun h1 => ?_) (fun h1 => ?_)
  · refine zi_tabI (pc := 1) 78 hX dX10_letters_1 1 h1 (by decide) (by decide) rfl (by decide) ?_
    refine zi_bipush (pc := 78) hX dX10_letters_78 kb_101 ?_
    refine zi_bipush (pc := 80) hX dX10_letters_80 kb_110 ?_
    refine zi_bipush (pc := 82) hX dX10_letters_82 kb_100 ?_
    refine zi_bipush (pc := 84) hX dX10_letters_84 kb_105 ?_
    refine zi_bipush (pc := 86) hX dX10_letters_86 kb_110 ?_
    refine zi_bipush (pc := 88) hX dX10_letters_88 kb_103 ?_
    refine zi_callJ (zc_stat (pc := 90) hX dX10_letters_90 tm_1624 md_X10_spelled st_X10_spelled (ct_Mo_spelled hX.sane (101 : Int32) (110 : Int32) (100 : Int32) (105 : Int32) (110 : Int32) (103 : Int32) g) rfl rfl rfl) (fun v3 g4 => ?_)
    exact zi_lret (pc := 93) hX dX10_letters_93 rfl rfl rfl
  refine zi_ite (fun h2 => ?_) (fun h2 => ?_)
  · refine zi_tabI (pc := 1) 94 hX dX10_letters_1 2 h2 (by decide) (by decide) rfl (by decide) ?_
    refine zi_bipush (pc := 94) hX dX10_letters_94 kb_99 ?_
    refine zi_bipush (pc := 96) hX dX10_letters_96 kb_104 ?_
    refine zi_bipush (pc := 98) hX dX10_letters_98 kb_97 ?_
    refine zi_bipush (pc := 100) hX dX10_letters_100 kb_110 ?_
    refine zi_bipush (pc := 102) hX dX10_letters_102 kb_103 ?_
    refine zi_bipush (pc := 104) hX dX10_letters_104 kb_101 ?_
    refine zi_callJ (zc_stat (pc := 106) hX dX10_letters_106 tm_1624 md_X10_spelled st_X10_spelled (ct_Mo_spelled hX.sane (99 : Int32) (104 : Int32) (97 : Int32) (110 : Int32) (103 : Int32) (101 : Int32) g) rfl rfl rfl) (fun v5 g6 => ?_)
    exact zi_lret (pc := 109) hX dX10_letters_109 rfl rfl rfl
  refine zi_ite (fun h3 => ?_) (fun h3 => ?_)
  · refine zi_tabI (pc := 1) 110 hX dX10_letters_1 3 h3 (by decide) (by decide) rfl (by decide) ?_
    refine zi_bipush (pc := 110) hX dX10_letters_110 kb_110 ?_
    refine zi_bipush (pc := 112) hX dX10_letters_112 kb_111 ?_
    refine zi_bipush (pc := 114) hX dX10_letters_114 kb_116 ?_
    refine zi_iconst (pc := 116) hX dX10_letters_116 ki_0 ?_
    refine zi_iconst (pc := 117) hX dX10_letters_117 ki_0 ?_
    refine zi_iconst (pc := 118) hX dX10_letters_118 ki_0 ?_
    refine zi_callJ (zc_stat (pc := 119) hX dX10_letters_119 tm_1624 md_X10_spelled st_X10_spelled (ct_Mo_spelled hX.sane (110 : Int32) (111 : Int32) (116 : Int32) (0 : Int32) (0 : Int32) (0 : Int32) g) rfl rfl rfl) (fun v7 g8 => ?_)
    exact zi_lret (pc := 122) hX dX10_letters_122 rfl rfl rfl
  refine zi_ite (fun h4 => ?_) (fun h4 => ?_)
  · refine zi_tabI (pc := 1) 123 hX dX10_letters_1 4 h4 (by decide) (by decide) rfl (by decide) ?_
    refine zi_bipush (pc := 123) hX dX10_letters_123 kb_112 ?_
    refine zi_bipush (pc := 125) hX dX10_letters_125 kb_108 ?_
    refine zi_bipush (pc := 127) hX dX10_letters_127 kb_97 ?_
    refine zi_bipush (pc := 129) hX dX10_letters_129 kb_99 ?_
    refine zi_bipush (pc := 131) hX dX10_letters_131 kb_101 ?_
    refine zi_bipush (pc := 133) hX dX10_letters_133 kb_115 ?_
    refine zi_callJ (zc_stat (pc := 135) hX dX10_letters_135 tm_1624 md_X10_spelled st_X10_spelled (ct_Mo_spelled hX.sane (112 : Int32) (108 : Int32) (97 : Int32) (99 : Int32) (101 : Int32) (115 : Int32) g) rfl rfl rfl) (fun v9 g10 => ?_)
    exact zi_lret (pc := 138) hX dX10_letters_138 rfl rfl rfl
  refine zi_ite (fun h5 => ?_) (fun h5 => ?_)
  · refine zi_tabI (pc := 1) 139 hX dX10_letters_1 5 h5 (by decide) (by decide) rfl (by decide) ?_
    refine zi_bipush (pc := 139) hX dX10_letters_139 kb_110 ?_
    refine zi_bipush (pc := 141) hX dX10_letters_141 kb_101 ?_
    refine zi_bipush (pc := 143) hX dX10_letters_143 kb_97 ?_
    refine zi_bipush (pc := 145) hX dX10_letters_145 kb_114 ?_
    refine zi_iconst (pc := 147) hX dX10_letters_147 ki_0 ?_
    refine zi_iconst (pc := 148) hX dX10_letters_148 ki_0 ?_
    refine zi_callJ (zc_stat (pc := 149) hX dX10_letters_149 tm_1624 md_X10_spelled st_X10_spelled (ct_Mo_spelled hX.sane (110 : Int32) (101 : Int32) (97 : Int32) (114 : Int32) (0 : Int32) (0 : Int32) g) rfl rfl rfl) (fun v11 g12 => ?_)
    exact zi_lret (pc := 152) hX dX10_letters_152 rfl rfl rfl
  refine zi_ite (fun h6 => ?_) (fun h6 => ?_)
  · refine zi_tabI (pc := 1) 153 hX dX10_letters_1 6 h6 (by decide) (by decide) rfl (by decide) ?_
    refine zi_bipush (pc := 153) hX dX10_letters_153 kb_112 ?_
    refine zi_bipush (pc := 155) hX dX10_letters_155 kb_101 ?_
    refine zi_bipush (pc := 157) hX dX10_letters_157 kb_114 ?_
    refine zi_bipush (pc := 159) hX dX10_letters_159 kb_115 ?_
    refine zi_bipush (pc := 161) hX dX10_letters_161 kb_111 ?_
    refine zi_bipush (pc := 163) hX dX10_letters_163 kb_110 ?_
    refine zi_callJ (zc_stat (pc := 165) hX dX10_letters_165 tm_1624 md_X10_spelled st_X10_spelled (ct_Mo_spelled hX.sane (112 : Int32) (101 : Int32) (114 : Int32) (115 : Int32) (111 : Int32) (110 : Int32) g) rfl rfl rfl) (fun v13 g14 => ?_)
    exact zi_lret (pc := 168) hX dX10_letters_168 rfl rfl rfl
  refine zi_ite (fun h7 => ?_) (fun h7 => ?_)
  · refine zi_tabI (pc := 1) 169 hX dX10_letters_1 7 h7 (by decide) (by decide) rfl (by decide) ?_
    refine zi_bipush (pc := 169) hX dX10_letters_169 kb_116 ?_
    refine zi_bipush (pc := 171) hX dX10_letters_171 kb_104 ?_
    refine zi_bipush (pc := 173) hX dX10_letters_173 kb_105 ?_
    refine zi_bipush (pc := 175) hX dX10_letters_175 kb_110 ?_
    refine zi_bipush (pc := 177) hX dX10_letters_177 kb_103 ?_
    refine zi_iconst (pc := 179) hX dX10_letters_179 ki_0 ?_
    refine zi_callJ (zc_stat (pc := 180) hX dX10_letters_180 tm_1624 md_X10_spelled st_X10_spelled (ct_Mo_spelled hX.sane (116 : Int32) (104 : Int32) (105 : Int32) (110 : Int32) (103 : Int32) (0 : Int32) g) rfl rfl rfl) (fun v15 g16 => ?_)
    exact zi_lret (pc := 183) hX dX10_letters_183 rfl rfl rfl
  refine zi_ite (fun h8 => ?_) (fun h8 => ?_)
  · refine zi_tabI (pc := 1) 184 hX dX10_letters_1 8 h8 (by decide) (by decide) rfl (by decide) ?_
    refine zi_bipush (pc := 184) hX dX10_letters_184 kb_114 ?_
    refine zi_bipush (pc := 186) hX dX10_letters_186 kb_117 ?_
    refine zi_bipush (pc := 188) hX dX10_letters_188 kb_108 ?_
    refine zi_bipush (pc := 190) hX dX10_letters_190 kb_101 ?_
    refine zi_iconst (pc := 192) hX dX10_letters_192 ki_0 ?_
    refine zi_iconst (pc := 193) hX dX10_letters_193 ki_0 ?_
    refine zi_callJ (zc_stat (pc := 194) hX dX10_letters_194 tm_1624 md_X10_spelled st_X10_spelled (ct_Mo_spelled hX.sane (114 : Int32) (117 : Int32) (108 : Int32) (101 : Int32) (0 : Int32) (0 : Int32) g) rfl rfl rfl) (fun v17 g18 => ?_)
    exact zi_lret (pc := 197) hX dX10_letters_197 rfl rfl rfl
  refine zi_ite (fun h9 => ?_) (fun h9 => ?_)
  · refine zi_tabI (pc := 1) 198 hX dX10_letters_1 9 h9 (by decide) (by decide) rfl (by decide) ?_
    refine zi_bipush (pc := 198) hX dX10_letters_198 kb_97 ?_
    refine zi_bipush (pc := 200) hX dX10_letters_200 kb_116 ?_
    refine zi_iconst (pc := 202) hX dX10_letters_202 ki_0 ?_
    refine zi_iconst (pc := 203) hX dX10_letters_203 ki_0 ?_
    refine zi_iconst (pc := 204) hX dX10_letters_204 ki_0 ?_
    refine zi_iconst (pc := 205) hX dX10_letters_205 ki_0 ?_
    refine zi_callJ (zc_stat (pc := 206) hX dX10_letters_206 tm_1624 md_X10_spelled st_X10_spelled (ct_Mo_spelled hX.sane (97 : Int32) (116 : Int32) (0 : Int32) (0 : Int32) (0 : Int32) (0 : Int32) g) rfl rfl rfl) (fun v19 g20 => ?_)
    exact zi_lret (pc := 209) hX dX10_letters_209 rfl rfl rfl
  refine zi_ite (fun h10 => ?_) (fun h10 => ?_)
  · refine zi_tabI (pc := 1) 210 hX dX10_letters_1 10 h10 (by decide) (by decide) rfl (by decide) ?_
    refine zi_bipush (pc := 210) hX dX10_letters_210 kb_119 ?_
    refine zi_bipush (pc := 212) hX dX10_letters_212 kb_101 ?_
    refine zi_bipush (pc := 214) hX dX10_letters_214 kb_105 ?_
    refine zi_bipush (pc := 216) hX dX10_letters_216 kb_103 ?_
    refine zi_bipush (pc := 218) hX dX10_letters_218 kb_104 ?_
    refine zi_iconst (pc := 220) hX dX10_letters_220 ki_0 ?_
    refine zi_callJ (zc_stat (pc := 221) hX dX10_letters_221 tm_1624 md_X10_spelled st_X10_spelled (ct_Mo_spelled hX.sane (119 : Int32) (101 : Int32) (105 : Int32) (103 : Int32) (104 : Int32) (0 : Int32) g) rfl rfl rfl) (fun v21 g22 => ?_)
    exact zi_lret (pc := 224) hX dX10_letters_224 rfl rfl rfl
  refine zi_ite (fun h11 => ?_) (fun h11 => ?_)
  · refine zi_tabI (pc := 1) 225 hX dX10_letters_1 11 h11 (by decide) (by decide) rfl (by decide) ?_
    refine zi_bipush (pc := 225) hX dX10_letters_225 kb_108 ?_
    refine zi_bipush (pc := 227) hX dX10_letters_227 kb_111 ?_
    refine zi_bipush (pc := 229) hX dX10_letters_229 kb_117 ?_
    refine zi_bipush (pc := 231) hX dX10_letters_231 kb_100 ?_
    refine zi_iconst (pc := 233) hX dX10_letters_233 ki_0 ?_
    refine zi_iconst (pc := 234) hX dX10_letters_234 ki_0 ?_
    refine zi_callJ (zc_stat (pc := 235) hX dX10_letters_235 tm_1624 md_X10_spelled st_X10_spelled (ct_Mo_spelled hX.sane (108 : Int32) (111 : Int32) (117 : Int32) (100 : Int32) (0 : Int32) (0 : Int32) g) rfl rfl rfl) (fun v23 g24 => ?_)
    exact zi_lret (pc := 238) hX dX10_letters_238 rfl rfl rfl
  refine zi_tabO (pc := 1) 239 hX dX10_letters_1 (et_out0_11 h0 h1 h2 h3 h4 h5 h6 h7 h8 h9 h10 h11) (by decide) ?_
  refine zi_bipush (pc := 239) hX dX10_letters_239 kb_110 ?_
  refine zi_bipush (pc := 241) hX dX10_letters_241 kb_101 ?_
  refine zi_bipush (pc := 243) hX dX10_letters_243 kb_118 ?_
  refine zi_bipush (pc := 245) hX dX10_letters_245 kb_101 ?_
  refine zi_bipush (pc := 247) hX dX10_letters_247 kb_114 ?_
  refine zi_iconst (pc := 249) hX dX10_letters_249 ki_0 ?_
  refine zi_callJ (zc_stat (pc := 250) hX dX10_letters_250 tm_1624 md_X10_spelled st_X10_spelled (ct_Mo_spelled hX.sane (110 : Int32) (101 : Int32) (118 : Int32) (101 : Int32) (114 : Int32) (0 : Int32) g) rfl rfl rfl) (fun v25 g26 => ?_)
  exact zi_lret (pc := 253) hX dX10_letters_253 rfl rfl rfl
theorem ct_Mo_letters {w : et_W} (hw : et_Sane w) (p0 : Int32) (g : et_G) : et_C w yX10_letters (Cond.code yX10_letters cX10_letters 1 (some .long)) rm_Mo_letters et_eJ [.int p0] g (fn_Mo_letters p0 g) := et_mk hw (by decide) rfl rfl (fun X hX => zw_Mo_letters hX p0 g)
def rm_Mo_is : Room := { frames := 2, cells := 0, slots := 0, locals := 47 }
def fn_Mo_is (p1 : Int32) (g : et_G) : Option (Int32 × et_G) :=
  if (g.1 61 23) = (1 : Int32) then
    if (7 : Int32) ≤ (g.1 61 25) then
      some ((0 : Int32), g)
    else
      et_bd (fn_Mo_letters p1 g) (fun v1 g2 =>
      if (lg_cmp (g.2 61 27) v1) = 0 then
        some ((1 : Int32), g2)
      else
        some ((0 : Int32), g2))
  else
    some ((0 : Int32), g)
theorem zw_Mo_is {X : et_X} {w : et_W} (hX : et_Gd X w cX10_is RX10 2 (some .boolean) [] rm_Mo_is) (p1 : Int32) (g : et_G) : et_Z X w 0 et_eI 0 [some (.ref (et_ad w 61)), some (.int p1)] [] g (fn_Mo_is p1 g) := by
  unfold fn_Mo_is
  refine zi_aload0 (pc := 0) hX dX10_is_0 ?_
  refine zi_geti (pc := 1) hX dX10_is_1 fl_1371 ly_61 rfl ?_
  refine zi_iconst (pc := 4) hX dX10_is_4 ki_1 ?_
  refine zi_icmp_ne (pc := 5) 33 hX dX10_is_5 (by decide) (fun _ => ?_) (fun _ => ?_)
  · refine zi_aload0 (pc := 8) hX dX10_is_8 ?_
    refine zi_geti (pc := 9) hX dX10_is_9 fl_1373 ly_61 rfl ?_
    refine zi_bipush (pc := 12) hX dX10_is_12 kb_7 ?_
    refine zi_icmp_ge (pc := 14) 33 hX dX10_is_14 (by decide) (fun _ => ?_) (fun _ => ?_)
    · refine zi_iconst (pc := 33) hX dX10_is_33 ki_0 ?_
      exact zi_ret (pc := 34) hX dX10_is_34 et_z0 rfl rfl rfl
    · refine zi_aload0 (pc := 17) hX dX10_is_17 ?_
      refine zi_getl (pc := 18) hX dX10_is_18 fl_1375 ly_61 rfl ?_
      refine zi_iload1 (pc := 21) hX dX10_is_21 ?_
      refine zi_callJ (zc_stat (pc := 22) hX dX10_is_22 tm_1621 md_X10_letters st_X10_letters (ct_Mo_letters hX.sane p1 g) rfl rfl rfl) (fun v1 g2 => ?_)
      refine zi_lcmp (pc := 25) hX dX10_is_25 ?_
      refine zi_if_ne (pc := 26) 33 hX dX10_is_26 (by decide) (fun _ => ?_) (fun _ => ?_)
      · refine zi_iconst (pc := 29) hX dX10_is_29 ki_1 ?_
        refine zi_goto (pc := 30) 34 hX dX10_is_30 (by decide) ?_
        exact zi_ret (pc := 34) hX dX10_is_34 et_z1 rfl rfl rfl
      · refine zi_iconst (pc := 33) hX dX10_is_33 ki_0 ?_
        exact zi_ret (pc := 34) hX dX10_is_34 et_z0 rfl rfl rfl
  · refine zi_iconst (pc := 33) hX dX10_is_33 ki_0 ?_
    exact zi_ret (pc := 34) hX dX10_is_34 et_z0 rfl rfl rfl
theorem ct_Mo_is {w : et_W} (hw : et_Sane w) (p1 : Int32) (g : et_G) : et_C w yX10_is (Cond.code yX10_is cX10_is 2 (some .boolean)) rm_Mo_is et_eI [.ref (et_ad w 61), .int p1] g (fn_Mo_is p1 g) := et_mk hw (by decide) rfl rfl (fun X hX => zw_Mo_is hX p1 g)
def rm_Mo_faults : Room := { frames := 0, cells := 0, slots := 0, locals := 0 }
def fn_Mo_faults (p1 : Int32) (g : et_G) : Option (Unit × et_G) :=
  if (g.1 61 18) = 0 then
    et_b (et_si g 61 18 p1) (fun g1 =>
    et_b (et_si g1 61 19 (g1.1 61 24)) (fun g2 =>
    some ((), g2)))
  else
    some ((), g)
theorem zw_Mo_faults {X : et_X} {w : et_W} (hX : et_Gd X w cX10_faults RX10 2 (none) [] rm_Mo_faults) (p1 : Int32) (g : et_G) : et_Z X w 0 et_eU 0 [some (.ref (et_ad w 61)), some (.int p1)] [] g (fn_Mo_faults p1 g) := by
  unfold fn_Mo_faults
  refine zi_aload0 (pc := 0) hX dX10_faults_0 ?_
  refine zi_geti (pc := 1) hX dX10_faults_1 fl_1366 ly_61 rfl ?_
  refine zi_if_eq (pc := 4) 8 hX dX10_faults_4 (by decide) (fun _ => ?_) (fun _ => ?_)
  · refine zi_aload0 (pc := 8) hX dX10_faults_8 ?_
    refine zi_iload1 (pc := 9) hX dX10_faults_9 ?_
    refine zi_puti (pc := 10) hX dX10_faults_10 fl_1366 ly_61 rfl rfl rfl (zi_bg (fun g1 => ?_))
    refine zi_aload0 (pc := 13) hX dX10_faults_13 ?_
    refine zi_aload0 (pc := 14) hX dX10_faults_14 ?_
    refine zi_geti (pc := 15) hX dX10_faults_15 fl_1372 ly_61 rfl ?_
    refine zi_puti (pc := 18) hX dX10_faults_18 fl_1367 ly_61 rfl rfl rfl (zi_bg (fun g2 => ?_))
    exact zi_vret (pc := 21) hX dX10_faults_21 rfl rfl rfl
  · exact zi_vret (pc := 7) hX dX10_faults_7 rfl rfl rfl
theorem ct_Mo_faults {w : et_W} (hw : et_Sane w) (p1 : Int32) (g : et_G) : et_C w yX10_faults (Cond.code yX10_faults cX10_faults 2 (none)) rm_Mo_faults et_eU [.ref (et_ad w 61), .int p1] g (fn_Mo_faults p1 g) := et_mk hw (by decide) rfl rfl (fun X hX => zw_Mo_faults hX p1 g)
def rm_Mo_need : Room := { frames := 2, cells := 0, slots := 0, locals := 42 }
def fn_Mo_need (p1 : Int32) (g : et_G) : Option (Unit × et_G) :=
  et_bd (fn_Mo_isGood g) (fun v1 g2 =>
  if v1 = 0 then
    some ((), g2)
  else
    if p1 = 0 then
      et_bd (fn_Mo_faults (1 : Int32) g2) (fun _ g4 =>
      some ((), g4))
    else
      et_bd (fn_Mo_steps g2) (fun _ g6 =>
      some ((), g6)))
theorem zw_Mo_need {X : et_X} {w : et_W} (hX : et_Gd X w cX10_need RX10 2 (none) [] rm_Mo_need) (p1 : Int32) (g : et_G) : et_Z X w 0 et_eU 0 [some (.ref (et_ad w 61)), some (.int p1)] [] g (fn_Mo_need p1 g) := by
  unfold fn_Mo_need
  refine zi_aload0 (pc := 0) hX dX10_need_0 ?_
  refine zi_callI (zc_virt (pc := 1) hX dX10_need_1 tm_1609 md_X10_isGood mi_X10_isGood ly_61 (ct_Mo_isGood hX.sane g) rfl rfl rfl) (fun v1 g2 => ?_)
  refine zi_if_ne (pc := 4) 8 hX dX10_need_4 (by decide) (fun _ => ?_) (fun _ => ?_)
  · exact zi_vret (pc := 7) hX dX10_need_7 rfl rfl rfl
  · refine zi_iload1 (pc := 8) hX dX10_need_8 ?_
    refine zi_if_eq (pc := 9) 19 hX dX10_need_9 (by decide) (fun _ => ?_) (fun _ => ?_)
    · refine zi_aload0 (pc := 19) hX dX10_need_19 ?_
      refine zi_iconst (pc := 20) hX dX10_need_20 ki_1 ?_
      refine zi_callU (zc_virt (pc := 21) hX dX10_need_21 tm_1627 md_X10_faults mi_X10_faults ly_61 (ct_Mo_faults hX.sane (1 : Int32) g2) rfl rfl rfl) (fun g4 => ?_)
      exact zi_vret (pc := 24) hX dX10_need_24 rfl rfl rfl
    · refine zi_aload0 (pc := 12) hX dX10_need_12 ?_
      refine zi_callU (zc_virt (pc := 13) hX dX10_need_13 tm_1595 md_X10_steps mi_X10_steps ly_61 (ct_Mo_steps hX.sane g2) rfl rfl rfl) (fun g6 => ?_)
      refine zi_goto (pc := 16) 24 hX dX10_need_16 (by decide) ?_
      exact zi_vret (pc := 24) hX dX10_need_24 rfl rfl rfl
theorem ct_Mo_need {w : et_W} (hw : et_Sane w) (p1 : Int32) (g : et_G) : et_C w yX10_need (Cond.code yX10_need cX10_need 2 (none)) rm_Mo_need et_eU [.ref (et_ad w 61), .int p1] g (fn_Mo_need p1 g) := et_mk hw (by decide) rfl rfl (fun X hX => zw_Mo_need hX p1 g)
def rm_Mo_number : Room := { frames := 2, cells := 0, slots := 0, locals := 42 }
def fn_Mo_number_54 (g : et_G) : Option (Int32 × et_G) :=
  et_b (g.1 61 26) (fun v5 =>
  et_bd (fn_Mo_isGood g) (fun v6 g7 =>
  if v6 = 0 then
    some (v5, g7)
  else
    et_bd (fn_Mo_steps g7) (fun _ g9 =>
    some (v5, g9))))
def fn_Mo_number_49 (g : et_G) : Option (Int32 × et_G) :=
  et_bd (fn_Mo_faults (2 : Int32) g) (fun _ g4 =>
  fn_Mo_number_54 g4)
def fn_Mo_number (p1 : Int32) (p2 : Int32) (g : et_G) : Option (Int32 × et_G) :=
  et_bd (fn_Mo_isGood g) (fun v1 g2 =>
  if v1 = 0 then
    some ((0 : Int32), g2)
  else
    if (g2.1 61 23) = (2 : Int32) then
      if (3 : Int32) < (g2.1 61 25) then
        fn_Mo_number_49 g2
      else
        if (g2.1 61 26) < p1 then
          fn_Mo_number_49 g2
        else
          if (g2.1 61 26) ≤ p2 then
            fn_Mo_number_54 g2
          else
            fn_Mo_number_49 g2
    else
      et_bd (fn_Mo_faults (1 : Int32) g2) (fun _ g11 =>
      fn_Mo_number_54 g11))
theorem zp_Mo_number_54 {X : et_X} {w : et_W} (hX : et_Gd X w cX10_number RX10 4 (some .int) [] rm_Mo_number) (g : et_G) : et_Z X w 0 et_eI 54 [some (.ref (et_ad w 61)), none, none, none] [] g (fn_Mo_number_54 g) := by
  unfold fn_Mo_number_54
  refine zi_aload0 (pc := 54) hX dX10_number_54 ?_
  refine zi_geti (pc := 55) hX dX10_number_55 fl_1374 ly_61 rfl ?_
  refine zi_bi (fun v5 => ?_)
  refine zi_istore3 (pc := 58) hX dX10_number_58 rfl rfl ?_
  refine zi_aload0 (pc := 59) hX dX10_number_59 ?_
  refine zi_callI (zc_virt (pc := 60) hX dX10_number_60 tm_1609 md_X10_isGood mi_X10_isGood ly_61 (ct_Mo_isGood hX.sane g) rfl rfl rfl) (fun v6 g7 => ?_)
  refine zi_if_eq (pc := 63) 70 hX dX10_number_63 (by decide) (fun _ => ?_) (fun _ => ?_)
  · refine zi_iload3 (pc := 70) hX dX10_number_70 ?_
    exact zi_ret (pc := 71) hX dX10_number_71 rfl rfl rfl rfl
  · refine zi_aload0 (pc := 66) hX dX10_number_66 ?_
    refine zi_callU (zc_virt (pc := 67) hX dX10_number_67 tm_1595 md_X10_steps mi_X10_steps ly_61 (ct_Mo_steps hX.sane g7) rfl rfl rfl) (fun g9 => ?_)
    refine zi_iload3 (pc := 70) hX dX10_number_70 ?_
    exact zi_ret (pc := 71) hX dX10_number_71 rfl rfl rfl rfl
theorem zp_Mo_number_49 {X : et_X} {w : et_W} (hX : et_Gd X w cX10_number RX10 4 (some .int) [] rm_Mo_number) (g : et_G) : et_Z X w 0 et_eI 49 [some (.ref (et_ad w 61)), none, none, none] [] g (fn_Mo_number_49 g) := by
  unfold fn_Mo_number_49
  refine zi_aload0 (pc := 49) hX dX10_number_49 ?_
  refine zi_iconst (pc := 50) hX dX10_number_50 ki_2 ?_
  refine zi_callU (zc_virt (pc := 51) hX dX10_number_51 tm_1627 md_X10_faults mi_X10_faults ly_61 (ct_Mo_faults hX.sane (2 : Int32) g) rfl rfl rfl) (fun g4 => ?_)
  exact zp_Mo_number_54 hX g4
theorem zw_Mo_number {X : et_X} {w : et_W} (hX : et_Gd X w cX10_number RX10 4 (some .int) [] rm_Mo_number) (p1 : Int32) (p2 : Int32) (g : et_G) : et_Z X w 0 et_eI 0 [some (.ref (et_ad w 61)), some (.int p1), some (.int p2), none] [] g (fn_Mo_number p1 p2 g) := by
  unfold fn_Mo_number
  refine zi_aload0 (pc := 0) hX dX10_number_0 ?_
  refine zi_callI (zc_virt (pc := 1) hX dX10_number_1 tm_1609 md_X10_isGood mi_X10_isGood ly_61 (ct_Mo_isGood hX.sane g) rfl rfl rfl) (fun v1 g2 => ?_)
  refine zi_if_ne (pc := 4) 9 hX dX10_number_4 (by decide) (fun _ => ?_) (fun _ => ?_)
  · refine zi_iconst (pc := 7) hX dX10_number_7 ki_0 ?_
    exact zi_ret (pc := 8) hX dX10_number_8 rfl rfl rfl rfl
  · refine zi_aload0 (pc := 9) hX dX10_number_9 ?_
    refine zi_geti (pc := 10) hX dX10_number_10 fl_1371 ly_61 rfl ?_
    refine zi_iconst (pc := 13) hX dX10_number_13 ki_2 ?_
    refine zi_icmp_eq (pc := 14) 25 hX dX10_number_14 (by decide) (fun _ => ?_) (fun _ => ?_)
    · refine zi_aload0 (pc := 25) hX dX10_number_25 ?_
      refine zi_geti (pc := 26) hX dX10_number_26 fl_1373 ly_61 rfl ?_
      refine zi_iconst (pc := 29) hX dX10_number_29 ki_3 ?_
      refine zi_icmp_gt (pc := 30) 49 hX dX10_number_30 (by decide) (fun _ => ?_) (fun _ => ?_)
      · refine zi_drop (le_s (le_n (le_n (le_s le_nil)))) ?_; exact zp_Mo_number_49 hX g2
      · refine zi_aload0 (pc := 33) hX dX10_number_33 ?_
        refine zi_geti (pc := 34) hX dX10_number_34 fl_1374 ly_61 rfl ?_
        refine zi_iload1 (pc := 37) hX dX10_number_37 ?_
        refine zi_icmp_lt (pc := 38) 49 hX dX10_number_38 (by decide) (fun _ => ?_) (fun _ => ?_)
        · refine zi_drop (le_s (le_n (le_n (le_s le_nil)))) ?_; exact zp_Mo_number_49 hX g2
        · refine zi_aload0 (pc := 41) hX dX10_number_41 ?_
          refine zi_geti (pc := 42) hX dX10_number_42 fl_1374 ly_61 rfl ?_
          refine zi_iload2 (pc := 45) hX dX10_number_45 ?_
          refine zi_icmp_le (pc := 46) 54 hX dX10_number_46 (by decide) (fun _ => ?_) (fun _ => ?_)
          · refine zi_drop (le_s (le_n (le_n (le_s le_nil)))) ?_; exact zp_Mo_number_54 hX g2
          · refine zi_drop (le_s (le_n (le_n (le_s le_nil)))) ?_; exact zp_Mo_number_49 hX g2
    · refine zi_aload0 (pc := 17) hX dX10_number_17 ?_
      refine zi_iconst (pc := 18) hX dX10_number_18 ki_1 ?_
      refine zi_callU (zc_virt (pc := 19) hX dX10_number_19 tm_1627 md_X10_faults mi_X10_faults ly_61 (ct_Mo_faults hX.sane (1 : Int32) g2) rfl rfl rfl) (fun g11 => ?_)
      refine zi_goto (pc := 22) 54 hX dX10_number_22 (by decide) ?_
      refine zi_drop (le_s (le_n (le_n (le_s le_nil)))) ?_; exact zp_Mo_number_54 hX g11
theorem ct_Mo_number {w : et_W} (hw : et_Sane w) (p1 : Int32) (p2 : Int32) (g : et_G) : et_C w yX10_number (Cond.code yX10_number cX10_number 4 (some .int)) rm_Mo_number et_eI [.ref (et_ad w 61), .int p1, .int p2] g (fn_Mo_number p1 p2 g) := et_mk hw (by decide) rfl rfl (fun X hX => zw_Mo_number hX p1 p2 g)
def rm_Mo_amongHere : Room := { frames := 1, cells := 0, slots := 0, locals := 21 }
def fn_Mo_amongHere_54 (g : et_G) : Option (Int32 × et_G) :=
  et_bd (fn_Mo_isGood g) (fun v3 g4 =>
  some (v3 &&& 1, g4))
def fn_Mo_amongHere (p1 : Int32) (g : et_G) : Option (Int32 × et_G) :=
  et_bd (fn_Mo_isGood g) (fun v1 g2 =>
  if v1 = 0 then
    some ((0 : Int32), g2)
  else
    if (g2.1 61 23) = (2 : Int32) then
      if (g2.1 61 25) ≤ (3 : Int32) then
        if (g2.1 61 26) < p1 then
          fn_Mo_amongHere_54 g2
        else
          et_bd (fn_Mo_faults (3 : Int32) g2) (fun _ g6 =>
          fn_Mo_amongHere_54 g6)
      else
        et_bd (fn_Mo_faults (2 : Int32) g2) (fun _ g8 =>
        fn_Mo_amongHere_54 g8)
    else
      et_bd (fn_Mo_faults (1 : Int32) g2) (fun _ g10 =>
      fn_Mo_amongHere_54 g10))
theorem zp_Mo_amongHere_54 {X : et_X} {w : et_W} (hX : et_Gd X w cX10_amongHere RX10 2 (some .boolean) [] rm_Mo_amongHere) (g : et_G) : et_Z X w 0 et_eI 54 [some (.ref (et_ad w 61)), none] [] g (fn_Mo_amongHere_54 g) := by
  unfold fn_Mo_amongHere_54
  refine zi_aload0 (pc := 54) hX dX10_amongHere_54 ?_
  refine zi_callI (zc_virt (pc := 55) hX dX10_amongHere_55 tm_1609 md_X10_isGood mi_X10_isGood ly_61 (ct_Mo_isGood hX.sane g) rfl rfl rfl) (fun v3 g4 => ?_)
  exact zi_ret (pc := 58) hX dX10_amongHere_58 rfl rfl rfl rfl
theorem zw_Mo_amongHere {X : et_X} {w : et_W} (hX : et_Gd X w cX10_amongHere RX10 2 (some .boolean) [] rm_Mo_amongHere) (p1 : Int32) (g : et_G) : et_Z X w 0 et_eI 0 [some (.ref (et_ad w 61)), some (.int p1)] [] g (fn_Mo_amongHere p1 g) := by
  unfold fn_Mo_amongHere
  refine zi_aload0 (pc := 0) hX dX10_amongHere_0 ?_
  refine zi_callI (zc_virt (pc := 1) hX dX10_amongHere_1 tm_1609 md_X10_isGood mi_X10_isGood ly_61 (ct_Mo_isGood hX.sane g) rfl rfl rfl) (fun v1 g2 => ?_)
  refine zi_if_ne (pc := 4) 9 hX dX10_amongHere_4 (by decide) (fun _ => ?_) (fun _ => ?_)
  · refine zi_iconst (pc := 7) hX dX10_amongHere_7 ki_0 ?_
    exact zi_ret (pc := 8) hX dX10_amongHere_8 et_z0 rfl rfl rfl
  · refine zi_aload0 (pc := 9) hX dX10_amongHere_9 ?_
    refine zi_geti (pc := 10) hX dX10_amongHere_10 fl_1371 ly_61 rfl ?_
    refine zi_iconst (pc := 13) hX dX10_amongHere_13 ki_2 ?_
    refine zi_icmp_eq (pc := 14) 25 hX dX10_amongHere_14 (by decide) (fun _ => ?_) (fun _ => ?_)
    · refine zi_aload0 (pc := 25) hX dX10_amongHere_25 ?_
      refine zi_geti (pc := 26) hX dX10_amongHere_26 fl_1373 ly_61 rfl ?_
      refine zi_iconst (pc := 29) hX dX10_amongHere_29 ki_3 ?_
      refine zi_icmp_le (pc := 30) 41 hX dX10_amongHere_30 (by decide) (fun _ => ?_) (fun _ => ?_)
      · refine zi_aload0 (pc := 41) hX dX10_amongHere_41 ?_
        refine zi_geti (pc := 42) hX dX10_amongHere_42 fl_1374 ly_61 rfl ?_
        refine zi_iload1 (pc := 45) hX dX10_amongHere_45 ?_
        refine zi_icmp_lt (pc := 46) 54 hX dX10_amongHere_46 (by decide) (fun _ => ?_) (fun _ => ?_)
        · refine zi_drop (le_s (le_n le_nil)) ?_; exact zp_Mo_amongHere_54 hX g2
        · refine zi_aload0 (pc := 49) hX dX10_amongHere_49 ?_
          refine zi_iconst (pc := 50) hX dX10_amongHere_50 ki_3 ?_
          refine zi_callU (zc_virt (pc := 51) hX dX10_amongHere_51 tm_1627 md_X10_faults mi_X10_faults ly_61 (ct_Mo_faults hX.sane (3 : Int32) g2) rfl rfl rfl) (fun g6 => ?_)
          refine zi_drop (le_s (le_n le_nil)) ?_; exact zp_Mo_amongHere_54 hX g6
      · refine zi_aload0 (pc := 33) hX dX10_amongHere_33 ?_
        refine zi_iconst (pc := 34) hX dX10_amongHere_34 ki_2 ?_
        refine zi_callU (zc_virt (pc := 35) hX dX10_amongHere_35 tm_1627 md_X10_faults mi_X10_faults ly_61 (ct_Mo_faults hX.sane (2 : Int32) g2) rfl rfl rfl) (fun g8 => ?_)
        refine zi_goto (pc := 38) 54 hX dX10_amongHere_38 (by decide) ?_
        refine zi_drop (le_s (le_n le_nil)) ?_; exact zp_Mo_amongHere_54 hX g8
    · refine zi_aload0 (pc := 17) hX dX10_amongHere_17 ?_
      refine zi_iconst (pc := 18) hX dX10_amongHere_18 ki_1 ?_
      refine zi_callU (zc_virt (pc := 19) hX dX10_amongHere_19 tm_1627 md_X10_faults mi_X10_faults ly_61 (ct_Mo_faults hX.sane (1 : Int32) g2) rfl rfl rfl) (fun g10 => ?_)
      refine zi_goto (pc := 22) 54 hX dX10_amongHere_22 (by decide) ?_
      refine zi_drop (le_s (le_n le_nil)) ?_; exact zp_Mo_amongHere_54 hX g10
theorem ct_Mo_amongHere {w : et_W} (hw : et_Sane w) (p1 : Int32) (g : et_G) : et_C w yX10_amongHere (Cond.code yX10_amongHere cX10_amongHere 2 (some .boolean)) rm_Mo_amongHere et_eI [.ref (et_ad w 61), .int p1] g (fn_Mo_amongHere p1 g) := et_mk hw (by decide) rfl rfl (fun X hX => zw_Mo_amongHere hX p1 g)
def rm_Mo_among : Room := { frames := 2, cells := 0, slots := 0, locals := 42 }
def fn_Mo_among_16 (s0 : Int32) (g : et_G) : Option (Int32 × et_G) :=
  et_bd (fn_Mo_isGood g) (fun v3 g4 =>
  if v3 = 0 then
    some (s0, g4)
  else
    et_bd (fn_Mo_steps g4) (fun _ g6 =>
    some (s0, g6)))
def fn_Mo_among (p1 : Int32) (g : et_G) : Option (Int32 × et_G) :=
  et_bd (fn_Mo_amongHere p1 g) (fun v1 g2 =>
  if v1 = 0 then
    fn_Mo_among_16 (0 : Int32) g2
  else
    fn_Mo_among_16 (g2.1 61 26) g2)
theorem zp_Mo_among_16 {X : et_X} {w : et_W} (hX : et_Gd X w cX10_among RX10 3 (some .int) [] rm_Mo_among) (s0 : Int32) (g : et_G) : et_Z X w 0 et_eI 16 [some (.ref (et_ad w 61)), none, none] [.int s0] g (fn_Mo_among_16 s0 g) := by
  unfold fn_Mo_among_16
  refine zi_istore2 (pc := 16) hX dX10_among_16 rfl rfl ?_
  refine zi_aload0 (pc := 17) hX dX10_among_17 ?_
  refine zi_callI (zc_virt (pc := 18) hX dX10_among_18 tm_1609 md_X10_isGood mi_X10_isGood ly_61 (ct_Mo_isGood hX.sane g) rfl rfl rfl) (fun v3 g4 => ?_)
  refine zi_if_eq (pc := 21) 28 hX dX10_among_21 (by decide) (fun _ => ?_) (fun _ => ?_)
  · refine zi_iload2 (pc := 28) hX dX10_among_28 ?_
    exact zi_ret (pc := 29) hX dX10_among_29 rfl rfl rfl rfl
  · refine zi_aload0 (pc := 24) hX dX10_among_24 ?_
    refine zi_callU (zc_virt (pc := 25) hX dX10_among_25 tm_1595 md_X10_steps mi_X10_steps ly_61 (ct_Mo_steps hX.sane g4) rfl rfl rfl) (fun g6 => ?_)
    refine zi_iload2 (pc := 28) hX dX10_among_28 ?_
    exact zi_ret (pc := 29) hX dX10_among_29 rfl rfl rfl rfl
theorem zw_Mo_among {X : et_X} {w : et_W} (hX : et_Gd X w cX10_among RX10 3 (some .int) [] rm_Mo_among) (p1 : Int32) (g : et_G) : et_Z X w 0 et_eI 0 [some (.ref (et_ad w 61)), some (.int p1), none] [] g (fn_Mo_among p1 g) := by
  unfold fn_Mo_among
  refine zi_aload0 (pc := 0) hX dX10_among_0 ?_
  refine zi_iload1 (pc := 1) hX dX10_among_1 ?_
  refine zi_callI (zc_virt (pc := 2) hX dX10_among_2 tm_1651 md_X10_amongHere mi_X10_amongHere ly_61 (ct_Mo_amongHere hX.sane p1 g) rfl rfl rfl) (fun v1 g2 => ?_)
  refine zi_if_eq (pc := 5) 15 hX dX10_among_5 (by decide) (fun _ => ?_) (fun _ => ?_)
  · refine zi_iconst (pc := 15) hX dX10_among_15 ki_0 ?_
    refine zi_drop (le_s (le_n (le_s le_nil))) ?_; exact zp_Mo_among_16 hX (0 : Int32) g2
  · refine zi_aload0 (pc := 8) hX dX10_among_8 ?_
    refine zi_geti (pc := 9) hX dX10_among_9 fl_1374 ly_61 rfl ?_
    refine zi_goto (pc := 12) 16 hX dX10_among_12 (by decide) ?_
    refine zi_drop (le_s (le_n (le_s le_nil))) ?_; exact zp_Mo_among_16 hX (g2.1 61 26) g2
theorem ct_Mo_among {w : et_W} (hw : et_Sane w) (p1 : Int32) (g : et_G) : et_C w yX10_among (Cond.code yX10_among cX10_among 3 (some .int)) rm_Mo_among et_eI [.ref (et_ad w 61), .int p1] g (fn_Mo_among p1 g) := et_mk hw (by decide) rfl rfl (fun X hX => zw_Mo_among hX p1 g)
def rm_Mo_readsAt : Room := { frames := 3, cells := 0, slots := 0, locals := 65 }
def fn_Mo_readsAt (g : et_G) : Option (Unit × et_G) :=
  et_b (et_si g 61 36 (1 : Int32)) (fun g1 =>
  et_bd (fn_Mo_steps g1) (fun _ g3 =>
  et_bd (fn_Mo_among (g3.1 61 31) g3) (fun v4 g5 =>
  et_bd (fn_Mo_number (0 : Int32) (23 : Int32) g5) (fun v6 g7 =>
  et_bd (fn_Mo_among (g7.1 61 30) g7) (fun v8 g9 =>
  et_bd (fn_Mo_isGood g9) (fun v10 g11 =>
  if v10 = 0 then
    some ((), g11)
  else
    et_ck (et_ib (((24 : Int32) * v4) + v6) 144) (et_b (et_si g11 80 (((24 : Int32) * v4) + v6).toNatClampNeg v8) (fun g12 =>
    some ((), g12)))))))))
theorem zw_Mo_readsAt {X : et_X} {w : et_W} (hX : et_Gd X w cX10_readsAt RX10 4 (none) [] rm_Mo_readsAt) (g : et_G) : et_Z X w 0 et_eU 0 [some (.ref (et_ad w 61)), none, none, none] [] g (fn_Mo_readsAt g) := by
  unfold fn_Mo_readsAt
  refine zi_aload0 (pc := 0) hX dX10_readsAt_0 ?_
  refine zi_iconst (pc := 1) hX dX10_readsAt_1 ki_1 ?_
  refine zi_puti (pc := 2) hX dX10_readsAt_2 fl_1384 ly_61 rfl et_z1 et_f1 (zi_bg (fun g1 => ?_))
  refine zi_aload0 (pc := 5) hX dX10_readsAt_5 ?_
  refine zi_callU (zc_virt (pc := 6) hX dX10_readsAt_6 tm_1595 md_X10_steps mi_X10_steps ly_61 (ct_Mo_steps hX.sane g1) rfl rfl rfl) (fun g3 => ?_)
  refine zi_aload0 (pc := 9) hX dX10_readsAt_9 ?_
  refine zi_aload0 (pc := 10) hX dX10_readsAt_10 ?_
  refine zi_geti (pc := 11) hX dX10_readsAt_11 fl_1379 ly_61 rfl ?_
  refine zi_callI (zc_virt (pc := 14) hX dX10_readsAt_14 tm_1647 md_X10_among mi_X10_among ly_61 (ct_Mo_among hX.sane (g3.1 61 31) g3) rfl rfl rfl) (fun v4 g5 => ?_)
  refine zi_istore1 (pc := 17) hX dX10_readsAt_17 rfl rfl ?_
  refine zi_aload0 (pc := 18) hX dX10_readsAt_18 ?_
  refine zi_iconst (pc := 19) hX dX10_readsAt_19 ki_0 ?_
  refine zi_bipush (pc := 20) hX dX10_readsAt_20 kb_23 ?_
  refine zi_callI (zc_virt (pc := 22) hX dX10_readsAt_22 tm_1639 md_X10_number mi_X10_number ly_61 (ct_Mo_number hX.sane (0 : Int32) (23 : Int32) g5) rfl rfl rfl) (fun v6 g7 => ?_)
  refine zi_istore2 (pc := 25) hX dX10_readsAt_25 rfl rfl ?_
  refine zi_aload0 (pc := 26) hX dX10_readsAt_26 ?_
  refine zi_aload0 (pc := 27) hX dX10_readsAt_27 ?_
  refine zi_geti (pc := 28) hX dX10_readsAt_28 fl_1378 ly_61 rfl ?_
  refine zi_callI (zc_virt (pc := 31) hX dX10_readsAt_31 tm_1647 md_X10_among mi_X10_among ly_61 (ct_Mo_among hX.sane (g7.1 61 30) g7) rfl rfl rfl) (fun v8 g9 => ?_)
  refine zi_istore3 (pc := 34) hX dX10_readsAt_34 rfl rfl ?_
  refine zi_aload0 (pc := 35) hX dX10_readsAt_35 ?_
  refine zi_callI (zc_virt (pc := 36) hX dX10_readsAt_36 tm_1609 md_X10_isGood mi_X10_isGood ly_61 (ct_Mo_isGood hX.sane g9) rfl rfl rfl) (fun v10 g11 => ?_)
  refine zi_if_eq (pc := 39) 54 hX dX10_readsAt_39 (by decide) (fun _ => ?_) (fun _ => ?_)
  · exact zi_vret (pc := 54) hX dX10_readsAt_54 rfl rfl rfl
  · refine zi_aload0 (pc := 42) hX dX10_readsAt_42 ?_
    refine zi_getr (q := 80) (pc := 43) hX dX10_readsAt_43 fl_1392 ly_61 rfl ?_
    refine zi_bipush (pc := 46) hX dX10_readsAt_46 kb_24 ?_
    refine zi_iload1 (pc := 48) hX dX10_readsAt_48 ?_
    refine zi_imul (pc := 49) hX dX10_readsAt_49 ?_
    refine zi_iload2 (pc := 50) hX dX10_readsAt_50 ?_
    refine zi_iadd (pc := 51) hX dX10_readsAt_51 ?_
    refine zi_iload3 (pc := 52) hX dX10_readsAt_52 ?_
    refine zi_iast (pc := 53) hX dX10_readsAt_53 ly_80 (zi_bg (fun g12 => ?_))
    exact zi_vret (pc := 54) hX dX10_readsAt_54 rfl rfl rfl
theorem ct_Mo_readsAt {w : et_W} (hw : et_Sane w) (g : et_G) : et_C w yX10_readsAt (Cond.code yX10_readsAt cX10_readsAt 4 (none)) rm_Mo_readsAt et_eU [.ref (et_ad w 61)] g (fn_Mo_readsAt g) := et_mk hw (by decide) rfl rfl (fun X hX => zw_Mo_readsAt hX g)
