def rm_Mo_line : Room := { frames := 4, cells := 0, slots := 0, locals := 90 }
def fn_Mo_line_484 (s0 : Int32) (g : et_G) : Option (Unit × et_G) :=
  et_bd (fn_Mo_need s0 g) (fun _ g26 =>
  some ((), g26))
def fn_Mo_line_470 (g : et_G) : Option (Unit × et_G) :=
  if (g.1 61 23) = (3 : Int32) then
    fn_Mo_line_484 (1 : Int32) g
  else
    fn_Mo_line_484 (0 : Int32) g
def fn_Mo_line_462 (g : et_G) : Option (Unit × et_G) :=
  fn_Mo_line_470 g
def fn_Mo_line_324 (g : et_G) : Option (Unit × et_G) :=
  et_bd (fn_Mo_isGood g) (fun v45 g46 =>
  if v45 = 0 then
    some ((), g46)
  else
    et_bd (fn_Mo_steps g46) (fun _ g48 =>
    et_b (et_si g48 61 31 ((g48.1 61 31) + (1 : Int32))) (fun g49 =>
    fn_Mo_line_470 g49)))
def fn_Mo_line_255 (g : et_G) : Option (Unit × et_G) :=
  et_bd (fn_Mo_isGood g) (fun v54 g55 =>
  if v54 = 0 then
    some ((), g55)
  else
    et_b (et_si g55 61 35 (1 : Int32)) (fun g56 =>
    et_bd (fn_Mo_steps g56) (fun _ g58 =>
    et_bd (fn_Mo_number (1 : Int32) (6 : Int32) g58) (fun v59 g60 =>
    et_b (et_si g60 61 30 v59) (fun g61 =>
    fn_Mo_line_470 g61)))))
def fn_Mo_line_191 (g : et_G) : Option (Unit × et_G) :=
  et_bd (fn_Mo_isGood g) (fun v66 g67 =>
  if v66 = 0 then
    some ((), g67)
  else
    et_b (et_si g67 61 34 (1 : Int32)) (fun g68 =>
    et_bd (fn_Mo_steps g68) (fun _ g70 =>
    et_bd (fn_Mo_word0_76 (0 : Int32) g70) (fun _ g72 =>
    fn_Mo_line_470 g72))))
def fn_Mo_line_151 (g : et_G) : Option (Unit × et_G) :=
  et_bd (fn_Mo_isGood g) (fun v79 g80 =>
  if v79 = 0 then
    fn_Mo_line_470 g80
  else
    et_b (et_si g80 61 29 ((g80.1 61 29) + (1 : Int32))) (fun g81 =>
    fn_Mo_line_470 g81))
def fn_Mo_line_120 : Nat → Int32 → et_G → Option (Unit × et_G)
  | 0, _, _ => none
  | n + 1, x1, g =>
    if (3 : Int32) ≤ x1 then
      fn_Mo_line_151 g
    else
      et_bd (fn_Mo_word0_75 (((27 : Int32) * (g.1 61 29)) + ((9 : Int32) * x1)) g) (fun _ g83 =>
      et_b (x1 + (1 : Int32)) (fun v84 =>
      fn_Mo_line_120 n v84 g83))
def fn_Mo_line_106 (g : et_G) : Option (Unit × et_G) :=
  et_bd (fn_Mo_isGood g) (fun v75 g76 =>
  if v75 = 0 then
    some ((), g76)
  else
    et_bd (fn_Mo_steps g76) (fun _ g78 =>
    fn_Mo_line_120 1000000 (0 : Int32) g78))
def fn_Mo_line_22 (g : et_G) : Option (Unit × et_G) :=
  et_bd (fn_Mo_isGood g) (fun v89 g90 =>
  if v89 = 0 then
    some ((), g90)
  else
    et_bd (fn_Mo_steps g90) (fun _ g92 =>
    et_bd (fn_Mo_word0_73 ((9 : Int32) * (g92.1 61 28)) g92) (fun _ g94 =>
    et_bd (fn_Mo_isGood g94) (fun v95 g96 =>
    if v95 = 0 then
      fn_Mo_line_470 g96
    else
      et_b (et_si g96 61 28 ((g96.1 61 28) + (1 : Int32))) (fun g97 =>
      fn_Mo_line_470 g97)))))
def fn_Mo_line (g : et_G) : Option (Unit × et_G) :=
  et_bd (fn_Mo_is (0 : Int32) g) (fun v1 g2 =>
  if v1 = 0 then
    et_bd (fn_Mo_is (1 : Int32) g2) (fun v3 g4 =>
    if v3 = 0 then
      et_bd (fn_Mo_is (2 : Int32) g4) (fun v5 g6 =>
      if v5 = 0 then
        et_bd (fn_Mo_is (3 : Int32) g6) (fun v7 g8 =>
        if v7 = 0 then
          et_bd (fn_Mo_is (4 : Int32) g8) (fun v9 g10 =>
          if v9 = 0 then
            et_bd (fn_Mo_is (5 : Int32) g10) (fun v11 g12 =>
            if v11 = 0 then
              et_bd (fn_Mo_is (6 : Int32) g12) (fun v13 g14 =>
              if v13 = 0 then
                et_bd (fn_Mo_is (7 : Int32) g14) (fun v15 g16 =>
                if v15 = 0 then
                  et_bd (fn_Mo_is (8 : Int32) g16) (fun v17 g18 =>
                  if v17 = 0 then
                    et_bd (fn_Mo_is (9 : Int32) g18) (fun v19 g20 =>
                    if v19 = 0 then
                      et_bd (fn_Mo_is (10 : Int32) g20) (fun v21 g22 =>
                      if v21 = 0 then
                        et_bd (fn_Mo_faults (1 : Int32) g22) (fun _ g24 =>
                        fn_Mo_line_470 g24)
                      else
                        et_bd (fn_Mo_steps g22) (fun _ g28 =>
                        et_bd (fn_Mo_number (0 : Int32) (4 : Int32) g28) (fun v29 g30 =>
                        et_bd (fn_Mo_number (0 : Int32) (1000 : Int32) g30) (fun v31 g32 =>
                        et_bd (fn_Mo_number (0 : Int32) (1000 : Int32) g32) (fun v33 g34 =>
                        et_bd (fn_Mo_isGood g34) (fun v35 g36 =>
                        if v35 = 0 then
                          fn_Mo_line_462 g36
                        else
                          et_ck (et_ib ((2 : Int32) * v29) 10) (et_b (et_si g36 81 ((2 : Int32) * v29).toNatClampNeg v31) (fun g37 =>
                          et_ck (et_ib (((2 : Int32) * v29) + (1 : Int32)) 10) (et_b (et_si g37 81 (((2 : Int32) * v29) + (1 : Int32)).toNatClampNeg v33) (fun g38 =>
                          fn_Mo_line_462 g38))))))))))
                    else
                      et_bd (fn_Mo_readsAt g20) (fun _ g40 =>
                      fn_Mo_line_470 g40))
                  else
                    et_bd (fn_Mo_readsRule g18) (fun _ g42 =>
                    fn_Mo_line_470 g42))
                else
                  et_bd (fn_Mo_readsThing g16) (fun _ g44 =>
                  fn_Mo_line_470 g44))
              else
                if (g14.1 61 31) = (6 : Int32) then
                  et_bd (fn_Mo_faults (2 : Int32) g14) (fun _ g51 =>
                  fn_Mo_line_324 g51)
                else
                  fn_Mo_line_324 g14)
            else
              et_bd (fn_Mo_readsNear g12) (fun _ g53 =>
              fn_Mo_line_470 g53))
          else
            if (g10.1 61 35) = 0 then
              if (g10.1 61 36) = 0 then
                fn_Mo_line_255 g10
              else
                et_bd (fn_Mo_faults (5 : Int32) g10) (fun _ g63 =>
                fn_Mo_line_255 g63)
            else
              et_bd (fn_Mo_faults (4 : Int32) g10) (fun _ g65 =>
              fn_Mo_line_255 g65))
        else
          if (g8.1 61 34) = 0 then
            fn_Mo_line_191 g8
          else
            et_bd (fn_Mo_faults (4 : Int32) g8) (fun _ g74 =>
            fn_Mo_line_191 g74))
      else
        if (g6.1 61 29) = (6 : Int32) then
          et_bd (fn_Mo_faults (2 : Int32) g6) (fun _ g86 =>
          fn_Mo_line_106 g86)
        else
          fn_Mo_line_106 g6)
    else
      et_bd (fn_Mo_readsEnding g4) (fun _ g88 =>
      fn_Mo_line_470 g88))
  else
    if (g2.1 61 28) = (12 : Int32) then
      et_bd (fn_Mo_faults (2 : Int32) g2) (fun _ g99 =>
      fn_Mo_line_22 g99)
    else
      fn_Mo_line_22 g2)
theorem zp_Mo_line_484 {X : et_X} {w : et_W} (hX : et_Gd X w cX10_line RX10 4 (none) [] rm_Mo_line) (s0 : Int32) (g : et_G) : et_Z X w 0 et_eU 484 [none, none, none, none] [.int s0, .ref (et_ad w 61)] g (fn_Mo_line_484 s0 g) := by
  unfold fn_Mo_line_484
  refine zi_callU (zc_virt (pc := 484) hX dX10_line_484 tm_1667 md_X10_need mi_X10_need ly_61 (ct_Mo_need hX.sane s0 g) rfl rfl rfl) (fun g26 => ?_)
  exact zi_vret (pc := 487) hX dX10_line_487 rfl rfl rfl
theorem zp_Mo_line_470 {X : et_X} {w : et_W} (hX : et_Gd X w cX10_line RX10 4 (none) [] rm_Mo_line) (g : et_G) : et_Z X w 0 et_eU 470 [some (.ref (et_ad w 61)), none, none, none] [] g (fn_Mo_line_470 g) := by
  unfold fn_Mo_line_470
  refine zi_aload0 (pc := 470) hX dX10_line_470 ?_
  refine zi_aload0 (pc := 471) hX dX10_line_471 ?_
  refine zi_geti (pc := 472) hX dX10_line_472 fl_1371 ly_61 rfl ?_
  refine zi_iconst (pc := 475) hX dX10_line_475 ki_3 ?_
  refine zi_icmp_ne (pc := 476) 483 hX dX10_line_476 (by decide) (fun _ => ?_) (fun _ => ?_)
  · refine zi_iconst (pc := 479) hX dX10_line_479 ki_1 ?_
    refine zi_goto (pc := 480) 484 hX dX10_line_480 (by decide) ?_
    refine zi_drop (le_n (le_s (le_s (le_s le_nil)))) ?_; exact zp_Mo_line_484 hX (1 : Int32) g
  · refine zi_iconst (pc := 483) hX dX10_line_483 ki_0 ?_
    refine zi_drop (le_n (le_s (le_s (le_s le_nil)))) ?_; exact zp_Mo_line_484 hX (0 : Int32) g
theorem zp_Mo_line_462 {X : et_X} {w : et_W} (hX : et_Gd X w cX10_line RX10 4 (none) [] rm_Mo_line) (g : et_G) : et_Z X w 0 et_eU 462 [some (.ref (et_ad w 61)), none, none, none] [] g (fn_Mo_line_462 g) := by
  unfold fn_Mo_line_462
  refine zi_goto (pc := 462) 470 hX dX10_line_462 (by decide) ?_
  exact zp_Mo_line_470 hX g
theorem zp_Mo_line_324 {X : et_X} {w : et_W} (hX : et_Gd X w cX10_line RX10 4 (none) [] rm_Mo_line) (g : et_G) : et_Z X w 0 et_eU 324 [some (.ref (et_ad w 61)), none, none, none] [] g (fn_Mo_line_324 g) := by
  unfold fn_Mo_line_324
  refine zi_aload0 (pc := 324) hX dX10_line_324 ?_
  refine zi_callI (zc_virt (pc := 325) hX dX10_line_325 tm_1609 md_X10_isGood mi_X10_isGood ly_61 (ct_Mo_isGood hX.sane g) rfl rfl rfl) (fun v45 g46 => ?_)
  refine zi_if_ne (pc := 328) 332 hX dX10_line_328 (by decide) (fun _ => ?_) (fun _ => ?_)
  · exact zi_vret (pc := 331) hX dX10_line_331 rfl rfl rfl
  · refine zi_aload0 (pc := 332) hX dX10_line_332 ?_
    refine zi_callU (zc_virt (pc := 333) hX dX10_line_333 tm_1595 md_X10_steps mi_X10_steps ly_61 (ct_Mo_steps hX.sane g46) rfl rfl rfl) (fun g48 => ?_)
    refine zi_aload0 (pc := 336) hX dX10_line_336 ?_
    refine zi_dup (pc := 337) hX dX10_line_337 rfl ?_
    refine zi_geti (pc := 338) hX dX10_line_338 fl_1379 ly_61 rfl ?_
    refine zi_iconst (pc := 341) hX dX10_line_341 ki_1 ?_
    refine zi_iadd (pc := 342) hX dX10_line_342 ?_
    refine zi_puti (pc := 343) hX dX10_line_343 fl_1379 ly_61 rfl rfl rfl (zi_bg (fun g49 => ?_))
    refine zi_goto (pc := 346) 470 hX dX10_line_346 (by decide) ?_
    exact zp_Mo_line_470 hX g49
theorem zp_Mo_line_255 {X : et_X} {w : et_W} (hX : et_Gd X w cX10_line RX10 4 (none) [] rm_Mo_line) (g : et_G) : et_Z X w 0 et_eU 255 [some (.ref (et_ad w 61)), none, none, none] [] g (fn_Mo_line_255 g) := by
  unfold fn_Mo_line_255
  refine zi_aload0 (pc := 255) hX dX10_line_255 ?_
  refine zi_callI (zc_virt (pc := 256) hX dX10_line_256 tm_1609 md_X10_isGood mi_X10_isGood ly_61 (ct_Mo_isGood hX.sane g) rfl rfl rfl) (fun v54 g55 => ?_)
  refine zi_if_ne (pc := 259) 263 hX dX10_line_259 (by decide) (fun _ => ?_) (fun _ => ?_)
  · exact zi_vret (pc := 262) hX dX10_line_262 rfl rfl rfl
  · refine zi_aload0 (pc := 263) hX dX10_line_263 ?_
    refine zi_iconst (pc := 264) hX dX10_line_264 ki_1 ?_
    refine zi_puti (pc := 265) hX dX10_line_265 fl_1383 ly_61 rfl et_z1 et_f1 (zi_bg (fun g56 => ?_))
    refine zi_aload0 (pc := 268) hX dX10_line_268 ?_
    refine zi_callU (zc_virt (pc := 269) hX dX10_line_269 tm_1595 md_X10_steps mi_X10_steps ly_61 (ct_Mo_steps hX.sane g56) rfl rfl rfl) (fun g58 => ?_)
    refine zi_aload0 (pc := 272) hX dX10_line_272 ?_
    refine zi_aload0 (pc := 273) hX dX10_line_273 ?_
    refine zi_iconst (pc := 274) hX dX10_line_274 ki_1 ?_
    refine zi_bipush (pc := 275) hX dX10_line_275 kb_6 ?_
    refine zi_callI (zc_virt (pc := 277) hX dX10_line_277 tm_1639 md_X10_number mi_X10_number ly_61 (ct_Mo_number hX.sane (1 : Int32) (6 : Int32) g58) rfl rfl rfl) (fun v59 g60 => ?_)
    refine zi_puti (pc := 280) hX dX10_line_280 fl_1378 ly_61 rfl rfl rfl (zi_bg (fun g61 => ?_))
    refine zi_goto (pc := 283) 470 hX dX10_line_283 (by decide) ?_
    exact zp_Mo_line_470 hX g61
theorem zp_Mo_line_191 {X : et_X} {w : et_W} (hX : et_Gd X w cX10_line RX10 4 (none) [] rm_Mo_line) (g : et_G) : et_Z X w 0 et_eU 191 [some (.ref (et_ad w 61)), none, none, none] [] g (fn_Mo_line_191 g) := by
  unfold fn_Mo_line_191
  refine zi_aload0 (pc := 191) hX dX10_line_191 ?_
  refine zi_callI (zc_virt (pc := 192) hX dX10_line_192 tm_1609 md_X10_isGood mi_X10_isGood ly_61 (ct_Mo_isGood hX.sane g) rfl rfl rfl) (fun v66 g67 => ?_)
  refine zi_if_ne (pc := 195) 199 hX dX10_line_195 (by decide) (fun _ => ?_) (fun _ => ?_)
  · exact zi_vret (pc := 198) hX dX10_line_198 rfl rfl rfl
  · refine zi_aload0 (pc := 199) hX dX10_line_199 ?_
    refine zi_iconst (pc := 200) hX dX10_line_200 ki_1 ?_
    refine zi_puti (pc := 201) hX dX10_line_201 fl_1382 ly_61 rfl et_z1 et_f1 (zi_bg (fun g68 => ?_))
    refine zi_aload0 (pc := 204) hX dX10_line_204 ?_
    refine zi_callU (zc_virt (pc := 205) hX dX10_line_205 tm_1595 md_X10_steps mi_X10_steps ly_61 (ct_Mo_steps hX.sane g68) rfl rfl rfl) (fun g70 => ?_)
    refine zi_aload0 (pc := 208) hX dX10_line_208 ?_
    refine zi_aload0 (pc := 209) hX dX10_line_209 ?_
    refine zi_getr (q := 76) (pc := 210) hX dX10_line_210 fl_1388 ly_61 rfl ?_
    refine zi_iconst (pc := 213) hX dX10_line_213 ki_0 ?_
    refine zi_callU (zc_virt (pc := 214) hX dX10_line_214 tm_1631 md_X10_word0 mi_X10_word0 ly_61 (ct_Mo_word0_76 hX.sane (0 : Int32) g70) rfl rfl rfl) (fun g72 => ?_)
    refine zi_goto (pc := 217) 470 hX dX10_line_217 (by decide) ?_
    exact zp_Mo_line_470 hX g72
theorem zp_Mo_line_151 {X : et_X} {w : et_W} (hX : et_Gd X w cX10_line RX10 4 (none) [] rm_Mo_line) (g : et_G) : et_Z X w 0 et_eU 151 [some (.ref (et_ad w 61)), none, none, none] [] g (fn_Mo_line_151 g) := by
  unfold fn_Mo_line_151
  refine zi_aload0 (pc := 151) hX dX10_line_151 ?_
  refine zi_callI (zc_virt (pc := 152) hX dX10_line_152 tm_1609 md_X10_isGood mi_X10_isGood ly_61 (ct_Mo_isGood hX.sane g) rfl rfl rfl) (fun v79 g80 => ?_)
  refine zi_if_eq (pc := 155) 470 hX dX10_line_155 (by decide) (fun _ => ?_) (fun _ => ?_)
  · exact zp_Mo_line_470 hX g80
  · refine zi_aload0 (pc := 158) hX dX10_line_158 ?_
    refine zi_dup (pc := 159) hX dX10_line_159 rfl ?_
    refine zi_geti (pc := 160) hX dX10_line_160 fl_1377 ly_61 rfl ?_
    refine zi_iconst (pc := 163) hX dX10_line_163 ki_1 ?_
    refine zi_iadd (pc := 164) hX dX10_line_164 ?_
    refine zi_puti (pc := 165) hX dX10_line_165 fl_1377 ly_61 rfl rfl rfl (zi_bg (fun g81 => ?_))
    refine zi_goto (pc := 168) 470 hX dX10_line_168 (by decide) ?_
    exact zp_Mo_line_470 hX g81
theorem zp_Mo_line_120 {X : et_X} {w : et_W} (hX : et_Gd X w cX10_line RX10 4 (none) [] rm_Mo_line) : ∀ (n : Nat) (x1 : Int32) (g : et_G), et_Z X w 0 et_eU 120 [some (.ref (et_ad w 61)), some (.int x1), none, none] [] g (fn_Mo_line_120 n x1 g) := by
  intro n
  induction n with
  | zero =>
    intro x1 g a g2 h
    cases h
  | succ n ih =>
    intro x1 g
    rw [fn_Mo_line_120]
    refine zi_iload1 (pc := 120) hX dX10_line_120 ?_
    refine zi_iconst (pc := 121) hX dX10_line_121 ki_3 ?_
    refine zi_icmp_ge (pc := 122) 151 hX dX10_line_122 (by decide) (fun _ => ?_) (fun _ => ?_)
    · refine zi_drop (le_s (le_n (le_s (le_s le_nil)))) ?_; exact zp_Mo_line_151 hX g
    · refine zi_aload0 (pc := 125) hX dX10_line_125 ?_
      refine zi_aload0 (pc := 126) hX dX10_line_126 ?_
      refine zi_getr (q := 75) (pc := 127) hX dX10_line_127 fl_1387 ly_61 rfl ?_
      refine zi_bipush (pc := 130) hX dX10_line_130 kb_27 ?_
      refine zi_aload0 (pc := 132) hX dX10_line_132 ?_
      refine zi_geti (pc := 133) hX dX10_line_133 fl_1377 ly_61 rfl ?_
      refine zi_imul (pc := 136) hX dX10_line_136 ?_
      refine zi_bipush (pc := 137) hX dX10_line_137 kb_9 ?_
      refine zi_iload1 (pc := 139) hX dX10_line_139 ?_
      refine zi_imul (pc := 140) hX dX10_line_140 ?_
      refine zi_iadd (pc := 141) hX dX10_line_141 ?_
      refine zi_callU (zc_virt (pc := 142) hX dX10_line_142 tm_1631 md_X10_word0 mi_X10_word0 ly_61 (ct_Mo_word0_75 hX.sane (((27 : Int32) * (g.1 61 29)) + ((9 : Int32) * x1)) g) rfl rfl rfl) (fun g83 => ?_)
      refine zi_iincb1 (pc := 145) hX dX10_line_145 (kn_1 _) rfl rfl (fun v84 => ?_)
      refine zi_goto (pc := 148) 120 hX dX10_line_148 (by decide) ?_
      exact ih v84 g83
theorem zp_Mo_line_106 {X : et_X} {w : et_W} (hX : et_Gd X w cX10_line RX10 4 (none) [] rm_Mo_line) (g : et_G) : et_Z X w 0 et_eU 106 [some (.ref (et_ad w 61)), none, none, none] [] g (fn_Mo_line_106 g) := by
  unfold fn_Mo_line_106
  refine zi_aload0 (pc := 106) hX dX10_line_106 ?_
  refine zi_callI (zc_virt (pc := 107) hX dX10_line_107 tm_1609 md_X10_isGood mi_X10_isGood ly_61 (ct_Mo_isGood hX.sane g) rfl rfl rfl) (fun v75 g76 => ?_)
  refine zi_if_ne (pc := 110) 114 hX dX10_line_110 (by decide) (fun _ => ?_) (fun _ => ?_)
  · exact zi_vret (pc := 113) hX dX10_line_113 rfl rfl rfl
  · refine zi_aload0 (pc := 114) hX dX10_line_114 ?_
    refine zi_callU (zc_virt (pc := 115) hX dX10_line_115 tm_1595 md_X10_steps mi_X10_steps ly_61 (ct_Mo_steps hX.sane g76) rfl rfl rfl) (fun g78 => ?_)
    refine zi_iconst (pc := 118) hX dX10_line_118 ki_0 ?_
    refine zi_istore1 (pc := 119) hX dX10_line_119 rfl rfl ?_
    exact zp_Mo_line_120 hX 1000000 (0 : Int32) g78
theorem zp_Mo_line_22 {X : et_X} {w : et_W} (hX : et_Gd X w cX10_line RX10 4 (none) [] rm_Mo_line) (g : et_G) : et_Z X w 0 et_eU 22 [some (.ref (et_ad w 61)), none, none, none] [] g (fn_Mo_line_22 g) := by
  unfold fn_Mo_line_22
  refine zi_aload0 (pc := 22) hX dX10_line_22 ?_
  refine zi_callI (zc_virt (pc := 23) hX dX10_line_23 tm_1609 md_X10_isGood mi_X10_isGood ly_61 (ct_Mo_isGood hX.sane g) rfl rfl rfl) (fun v89 g90 => ?_)
  refine zi_if_ne (pc := 26) 30 hX dX10_line_26 (by decide) (fun _ => ?_) (fun _ => ?_)
  · exact zi_vret (pc := 29) hX dX10_line_29 rfl rfl rfl
  · refine zi_aload0 (pc := 30) hX dX10_line_30 ?_
    refine zi_callU (zc_virt (pc := 31) hX dX10_line_31 tm_1595 md_X10_steps mi_X10_steps ly_61 (ct_Mo_steps hX.sane g90) rfl rfl rfl) (fun g92 => ?_)
    refine zi_aload0 (pc := 34) hX dX10_line_34 ?_
    refine zi_aload0 (pc := 35) hX dX10_line_35 ?_
    refine zi_getr (q := 73) (pc := 36) hX dX10_line_36 fl_1385 ly_61 rfl ?_
    refine zi_bipush (pc := 39) hX dX10_line_39 kb_9 ?_
    refine zi_aload0 (pc := 41) hX dX10_line_41 ?_
    refine zi_geti (pc := 42) hX dX10_line_42 fl_1376 ly_61 rfl ?_
    refine zi_imul (pc := 45) hX dX10_line_45 ?_
    refine zi_callU (zc_virt (pc := 46) hX dX10_line_46 tm_1631 md_X10_word0 mi_X10_word0 ly_61 (ct_Mo_word0_73 hX.sane ((9 : Int32) * (g92.1 61 28)) g92) rfl rfl rfl) (fun g94 => ?_)
    refine zi_aload0 (pc := 49) hX dX10_line_49 ?_
    refine zi_callI (zc_virt (pc := 50) hX dX10_line_50 tm_1609 md_X10_isGood mi_X10_isGood ly_61 (ct_Mo_isGood hX.sane g94) rfl rfl rfl) (fun v95 g96 => ?_)
    refine zi_if_eq (pc := 53) 470 hX dX10_line_53 (by decide) (fun _ => ?_) (fun _ => ?_)
    · exact zp_Mo_line_470 hX g96
    · refine zi_aload0 (pc := 56) hX dX10_line_56 ?_
      refine zi_dup (pc := 57) hX dX10_line_57 rfl ?_
      refine zi_geti (pc := 58) hX dX10_line_58 fl_1376 ly_61 rfl ?_
      refine zi_iconst (pc := 61) hX dX10_line_61 ki_1 ?_
      refine zi_iadd (pc := 62) hX dX10_line_62 ?_
      refine zi_puti (pc := 63) hX dX10_line_63 fl_1376 ly_61 rfl rfl rfl (zi_bg (fun g97 => ?_))
      refine zi_goto (pc := 66) 470 hX dX10_line_66 (by decide) ?_
      exact zp_Mo_line_470 hX g97
theorem zw_Mo_line {X : et_X} {w : et_W} (hX : et_Gd X w cX10_line RX10 4 (none) [] rm_Mo_line) (g : et_G) : et_Z X w 0 et_eU 0 [some (.ref (et_ad w 61)), none, none, none] [] g (fn_Mo_line g) := by
  unfold fn_Mo_line
  refine zi_aload0 (pc := 0) hX dX10_line_0 ?_
  refine zi_iconst (pc := 1) hX dX10_line_1 ki_0 ?_
  refine zi_callI (zc_virt (pc := 2) hX dX10_line_2 tm_1617 md_X10_is mi_X10_is ly_61 (ct_Mo_is hX.sane (0 : Int32) g) rfl rfl rfl) (fun v1 g2 => ?_)
  refine zi_if_eq (pc := 5) 69 hX dX10_line_5 (by decide) (fun _ => ?_) (fun _ => ?_)
  · refine zi_aload0 (pc := 69) hX dX10_line_69 ?_
    refine zi_iconst (pc := 70) hX dX10_line_70 ki_1 ?_
    refine zi_callI (zc_virt (pc := 71) hX dX10_line_71 tm_1617 md_X10_is mi_X10_is ly_61 (ct_Mo_is hX.sane (1 : Int32) g2) rfl rfl rfl) (fun v3 g4 => ?_)
    refine zi_if_eq (pc := 74) 84 hX dX10_line_74 (by decide) (fun _ => ?_) (fun _ => ?_)
    · refine zi_aload0 (pc := 84) hX dX10_line_84 ?_
      refine zi_iconst (pc := 85) hX dX10_line_85 ki_2 ?_
      refine zi_callI (zc_virt (pc := 86) hX dX10_line_86 tm_1617 md_X10_is mi_X10_is ly_61 (ct_Mo_is hX.sane (2 : Int32) g4) rfl rfl rfl) (fun v5 g6 => ?_)
      refine zi_if_eq (pc := 89) 171 hX dX10_line_89 (by decide) (fun _ => ?_) (fun _ => ?_)
      · refine zi_aload0 (pc := 171) hX dX10_line_171 ?_
        refine zi_iconst (pc := 172) hX dX10_line_172 ki_3 ?_
        refine zi_callI (zc_virt (pc := 173) hX dX10_line_173 tm_1617 md_X10_is mi_X10_is ly_61 (ct_Mo_is hX.sane (3 : Int32) g6) rfl rfl rfl) (fun v7 g8 => ?_)
        refine zi_if_eq (pc := 176) 220 hX dX10_line_176 (by decide) (fun _ => ?_) (fun _ => ?_)
        · refine zi_aload0 (pc := 220) hX dX10_line_220 ?_
          refine zi_iconst (pc := 221) hX dX10_line_221 ki_4 ?_
          refine zi_callI (zc_virt (pc := 222) hX dX10_line_222 tm_1617 md_X10_is mi_X10_is ly_61 (ct_Mo_is hX.sane (4 : Int32) g8) rfl rfl rfl) (fun v9 g10 => ?_)
          refine zi_if_eq (pc := 225) 286 hX dX10_line_225 (by decide) (fun _ => ?_) (fun _ => ?_)
          · refine zi_aload0 (pc := 286) hX dX10_line_286 ?_
            refine zi_iconst (pc := 287) hX dX10_line_287 ki_5 ?_
            refine zi_callI (zc_virt (pc := 288) hX dX10_line_288 tm_1617 md_X10_is mi_X10_is ly_61 (ct_Mo_is hX.sane (5 : Int32) g10) rfl rfl rfl) (fun v11 g12 => ?_)
            refine zi_if_eq (pc := 291) 301 hX dX10_line_291 (by decide) (fun _ => ?_) (fun _ => ?_)
            · refine zi_aload0 (pc := 301) hX dX10_line_301 ?_
              refine zi_bipush (pc := 302) hX dX10_line_302 kb_6 ?_
              refine zi_callI (zc_virt (pc := 304) hX dX10_line_304 tm_1617 md_X10_is mi_X10_is ly_61 (ct_Mo_is hX.sane (6 : Int32) g12) rfl rfl rfl) (fun v13 g14 => ?_)
              refine zi_if_eq (pc := 307) 349 hX dX10_line_307 (by decide) (fun _ => ?_) (fun _ => ?_)
              · refine zi_aload0 (pc := 349) hX dX10_line_349 ?_
                refine zi_bipush (pc := 350) hX dX10_line_350 kb_7 ?_
                refine zi_callI (zc_virt (pc := 352) hX dX10_line_352 tm_1617 md_X10_is mi_X10_is ly_61 (ct_Mo_is hX.sane (7 : Int32) g14) rfl rfl rfl) (fun v15 g16 => ?_)
                refine zi_if_eq (pc := 355) 365 hX dX10_line_355 (by decide) (fun _ => ?_) (fun _ => ?_)
                · refine zi_aload0 (pc := 365) hX dX10_line_365 ?_
                  refine zi_bipush (pc := 366) hX dX10_line_366 kb_8 ?_
                  refine zi_callI (zc_virt (pc := 368) hX dX10_line_368 tm_1617 md_X10_is mi_X10_is ly_61 (ct_Mo_is hX.sane (8 : Int32) g16) rfl rfl rfl) (fun v17 g18 => ?_)
                  refine zi_if_eq (pc := 371) 381 hX dX10_line_371 (by decide) (fun _ => ?_) (fun _ => ?_)
                  · refine zi_aload0 (pc := 381) hX dX10_line_381 ?_
                    refine zi_bipush (pc := 382) hX dX10_line_382 kb_9 ?_
                    refine zi_callI (zc_virt (pc := 384) hX dX10_line_384 tm_1617 md_X10_is mi_X10_is ly_61 (ct_Mo_is hX.sane (9 : Int32) g18) rfl rfl rfl) (fun v19 g20 => ?_)
                    refine zi_if_eq (pc := 387) 397 hX dX10_line_387 (by decide) (fun _ => ?_) (fun _ => ?_)
                    · refine zi_aload0 (pc := 397) hX dX10_line_397 ?_
                      refine zi_bipush (pc := 398) hX dX10_line_398 kb_10 ?_
                      refine zi_callI (zc_virt (pc := 400) hX dX10_line_400 tm_1617 md_X10_is mi_X10_is ly_61 (ct_Mo_is hX.sane (10 : Int32) g20) rfl rfl rfl) (fun v21 g22 => ?_)
                      refine zi_if_eq (pc := 403) 465 hX dX10_line_403 (by decide) (fun _ => ?_) (fun _ => ?_)
                      · refine zi_aload0 (pc := 465) hX dX10_line_465 ?_
                        refine zi_iconst (pc := 466) hX dX10_line_466 ki_1 ?_
                        refine zi_callU (zc_virt (pc := 467) hX dX10_line_467 tm_1627 md_X10_faults mi_X10_faults ly_61 (ct_Mo_faults hX.sane (1 : Int32) g22) rfl rfl rfl) (fun g24 => ?_)
                        exact zp_Mo_line_470 hX g24
                      · refine zi_aload0 (pc := 406) hX dX10_line_406 ?_
                        refine zi_callU (zc_virt (pc := 407) hX dX10_line_407 tm_1595 md_X10_steps mi_X10_steps ly_61 (ct_Mo_steps hX.sane g22) rfl rfl rfl) (fun g28 => ?_)
                        refine zi_aload0 (pc := 410) hX dX10_line_410 ?_
                        refine zi_iconst (pc := 411) hX dX10_line_411 ki_0 ?_
                        refine zi_iconst (pc := 412) hX dX10_line_412 ki_4 ?_
                        refine zi_callI (zc_virt (pc := 413) hX dX10_line_413 tm_1639 md_X10_number mi_X10_number ly_61 (ct_Mo_number hX.sane (0 : Int32) (4 : Int32) g28) rfl rfl rfl) (fun v29 g30 => ?_)
                        refine zi_istore1 (pc := 416) hX dX10_line_416 rfl rfl ?_
                        refine zi_aload0 (pc := 417) hX dX10_line_417 ?_
                        refine zi_iconst (pc := 418) hX dX10_line_418 ki_0 ?_
                        refine zi_sipush (pc := 419) hX dX10_line_419 ks_1000 ?_
                        refine zi_callI (zc_virt (pc := 422) hX dX10_line_422 tm_1639 md_X10_number mi_X10_number ly_61 (ct_Mo_number hX.sane (0 : Int32) (1000 : Int32) g30) rfl rfl rfl) (fun v31 g32 => ?_)
                        refine zi_istore2 (pc := 425) hX dX10_line_425 rfl rfl ?_
                        refine zi_aload0 (pc := 426) hX dX10_line_426 ?_
                        refine zi_iconst (pc := 427) hX dX10_line_427 ki_0 ?_
                        refine zi_sipush (pc := 428) hX dX10_line_428 ks_1000 ?_
                        refine zi_callI (zc_virt (pc := 431) hX dX10_line_431 tm_1639 md_X10_number mi_X10_number ly_61 (ct_Mo_number hX.sane (0 : Int32) (1000 : Int32) g32) rfl rfl rfl) (fun v33 g34 => ?_)
                        refine zi_istore3 (pc := 434) hX dX10_line_434 rfl rfl ?_
                        refine zi_aload0 (pc := 435) hX dX10_line_435 ?_
                        refine zi_callI (zc_virt (pc := 436) hX dX10_line_436 tm_1609 md_X10_isGood mi_X10_isGood ly_61 (ct_Mo_isGood hX.sane g34) rfl rfl rfl) (fun v35 g36 => ?_)
                        refine zi_if_eq (pc := 439) 462 hX dX10_line_439 (by decide) (fun _ => ?_) (fun _ => ?_)
                        · refine zi_drop (le_s (le_n (le_n (le_n le_nil)))) ?_; exact zp_Mo_line_462 hX g36
                        · refine zi_aload0 (pc := 442) hX dX10_line_442 ?_
                          refine zi_getr (q := 81) (pc := 443) hX dX10_line_443 fl_1393 ly_61 rfl ?_
                          refine zi_iconst (pc := 446) hX dX10_line_446 ki_2 ?_
                          refine zi_iload1 (pc := 447) hX dX10_line_447 ?_
                          refine zi_imul (pc := 448) hX dX10_line_448 ?_
                          refine zi_iload2 (pc := 449) hX dX10_line_449 ?_
                          refine zi_iast (pc := 450) hX dX10_line_450 ly_81 (zi_bg (fun g37 => ?_))
                          refine zi_aload0 (pc := 451) hX dX10_line_451 ?_
                          refine zi_getr (q := 81) (pc := 452) hX dX10_line_452 fl_1393 ly_61 rfl ?_
                          refine zi_iconst (pc := 455) hX dX10_line_455 ki_2 ?_
                          refine zi_iload1 (pc := 456) hX dX10_line_456 ?_
                          refine zi_imul (pc := 457) hX dX10_line_457 ?_
                          refine zi_iconst (pc := 458) hX dX10_line_458 ki_1 ?_
                          refine zi_iadd (pc := 459) hX dX10_line_459 ?_
                          refine zi_iload3 (pc := 460) hX dX10_line_460 ?_
                          refine zi_iast (pc := 461) hX dX10_line_461 ly_81 (zi_bg (fun g38 => ?_))
                          refine zi_drop (le_s (le_n (le_n (le_n le_nil)))) ?_; exact zp_Mo_line_462 hX g38
                    · refine zi_aload0 (pc := 390) hX dX10_line_390 ?_
                      refine zi_callU (zc_virt (pc := 391) hX dX10_line_391 tm_1663 md_X10_readsAt mi_X10_readsAt ly_61 (ct_Mo_readsAt hX.sane g20) rfl rfl rfl) (fun g40 => ?_)
                      refine zi_goto (pc := 394) 470 hX dX10_line_394 (by decide) ?_
                      exact zp_Mo_line_470 hX g40
                  · refine zi_aload0 (pc := 374) hX dX10_line_374 ?_
                    refine zi_callU (zc_virt (pc := 375) hX dX10_line_375 tm_1659 md_X10_readsRule mi_X10_readsRule ly_61 (ct_Mo_readsRule hX.sane g18) rfl rfl rfl) (fun g42 => ?_)
                    refine zi_goto (pc := 378) 470 hX dX10_line_378 (by decide) ?_
                    exact zp_Mo_line_470 hX g42
                · refine zi_aload0 (pc := 358) hX dX10_line_358 ?_
                  refine zi_callU (zc_virt (pc := 359) hX dX10_line_359 tm_1655 md_X10_readsThing mi_X10_readsThing ly_61 (ct_Mo_readsThing hX.sane g16) rfl rfl rfl) (fun g44 => ?_)
                  refine zi_goto (pc := 362) 470 hX dX10_line_362 (by decide) ?_
                  exact zp_Mo_line_470 hX g44
              · refine zi_aload0 (pc := 310) hX dX10_line_310 ?_
                refine zi_geti (pc := 311) hX dX10_line_311 fl_1379 ly_61 rfl ?_
                refine zi_bipush (pc := 314) hX dX10_line_314 kb_6 ?_
                refine zi_icmp_ne (pc := 316) 324 hX dX10_line_316 (by decide) (fun _ => ?_) (fun _ => ?_)
                · refine zi_aload0 (pc := 319) hX dX10_line_319 ?_
                  refine zi_iconst (pc := 320) hX dX10_line_320 ki_2 ?_
                  refine zi_callU (zc_virt (pc := 321) hX dX10_line_321 tm_1627 md_X10_faults mi_X10_faults ly_61 (ct_Mo_faults hX.sane (2 : Int32) g14) rfl rfl rfl) (fun g51 => ?_)
                  exact zp_Mo_line_324 hX g51
                · exact zp_Mo_line_324 hX g14
            · refine zi_aload0 (pc := 294) hX dX10_line_294 ?_
              refine zi_callU (zc_virt (pc := 295) hX dX10_line_295 tm_1643 md_X10_readsNear mi_X10_readsNear ly_61 (ct_Mo_readsNear hX.sane g12) rfl rfl rfl) (fun g53 => ?_)
              refine zi_goto (pc := 298) 470 hX dX10_line_298 (by decide) ?_
              exact zp_Mo_line_470 hX g53
          · refine zi_aload0 (pc := 228) hX dX10_line_228 ?_
            refine zi_geti (pc := 229) hX dX10_line_229 fl_1383 ly_61 rfl ?_
            refine zi_if_eq (pc := 232) 243 hX dX10_line_232 (by decide) (fun _ => ?_) (fun _ => ?_)
            · refine zi_aload0 (pc := 243) hX dX10_line_243 ?_
              refine zi_geti (pc := 244) hX dX10_line_244 fl_1384 ly_61 rfl ?_
              refine zi_if_eq (pc := 247) 255 hX dX10_line_247 (by decide) (fun _ => ?_) (fun _ => ?_)
              · exact zp_Mo_line_255 hX g10
              · refine zi_aload0 (pc := 250) hX dX10_line_250 ?_
                refine zi_iconst (pc := 251) hX dX10_line_251 ki_5 ?_
                refine zi_callU (zc_virt (pc := 252) hX dX10_line_252 tm_1627 md_X10_faults mi_X10_faults ly_61 (ct_Mo_faults hX.sane (5 : Int32) g10) rfl rfl rfl) (fun g63 => ?_)
                exact zp_Mo_line_255 hX g63
            · refine zi_aload0 (pc := 235) hX dX10_line_235 ?_
              refine zi_iconst (pc := 236) hX dX10_line_236 ki_4 ?_
              refine zi_callU (zc_virt (pc := 237) hX dX10_line_237 tm_1627 md_X10_faults mi_X10_faults ly_61 (ct_Mo_faults hX.sane (4 : Int32) g10) rfl rfl rfl) (fun g65 => ?_)
              refine zi_goto (pc := 240) 255 hX dX10_line_240 (by decide) ?_
              exact zp_Mo_line_255 hX g65
        · refine zi_aload0 (pc := 179) hX dX10_line_179 ?_
          refine zi_geti (pc := 180) hX dX10_line_180 fl_1382 ly_61 rfl ?_
          refine zi_if_eq (pc := 183) 191 hX dX10_line_183 (by decide) (fun _ => ?_) (fun _ => ?_)
          · exact zp_Mo_line_191 hX g8
          · refine zi_aload0 (pc := 186) hX dX10_line_186 ?_
            refine zi_iconst (pc := 187) hX dX10_line_187 ki_4 ?_
            refine zi_callU (zc_virt (pc := 188) hX dX10_line_188 tm_1627 md_X10_faults mi_X10_faults ly_61 (ct_Mo_faults hX.sane (4 : Int32) g8) rfl rfl rfl) (fun g74 => ?_)
            exact zp_Mo_line_191 hX g74
      · refine zi_aload0 (pc := 92) hX dX10_line_92 ?_
        refine zi_geti (pc := 93) hX dX10_line_93 fl_1377 ly_61 rfl ?_
        refine zi_bipush (pc := 96) hX dX10_line_96 kb_6 ?_
        refine zi_icmp_ne (pc := 98) 106 hX dX10_line_98 (by decide) (fun _ => ?_) (fun _ => ?_)
        · refine zi_aload0 (pc := 101) hX dX10_line_101 ?_
          refine zi_iconst (pc := 102) hX dX10_line_102 ki_2 ?_
          refine zi_callU (zc_virt (pc := 103) hX dX10_line_103 tm_1627 md_X10_faults mi_X10_faults ly_61 (ct_Mo_faults hX.sane (2 : Int32) g6) rfl rfl rfl) (fun g86 => ?_)
          exact zp_Mo_line_106 hX g86
        · exact zp_Mo_line_106 hX g6
    · refine zi_aload0 (pc := 77) hX dX10_line_77 ?_
      refine zi_callU (zc_virt (pc := 78) hX dX10_line_78 tm_1635 md_X10_readsEnding mi_X10_readsEnding ly_61 (ct_Mo_readsEnding hX.sane g4) rfl rfl rfl) (fun g88 => ?_)
      refine zi_goto (pc := 81) 470 hX dX10_line_81 (by decide) ?_
      exact zp_Mo_line_470 hX g88
  · refine zi_aload0 (pc := 8) hX dX10_line_8 ?_
    refine zi_geti (pc := 9) hX dX10_line_9 fl_1376 ly_61 rfl ?_
    refine zi_bipush (pc := 12) hX dX10_line_12 kb_12 ?_
    refine zi_icmp_ne (pc := 14) 22 hX dX10_line_14 (by decide) (fun _ => ?_) (fun _ => ?_)
    · refine zi_aload0 (pc := 17) hX dX10_line_17 ?_
      refine zi_iconst (pc := 18) hX dX10_line_18 ki_2 ?_
      refine zi_callU (zc_virt (pc := 19) hX dX10_line_19 tm_1627 md_X10_faults mi_X10_faults ly_61 (ct_Mo_faults hX.sane (2 : Int32) g2) rfl rfl rfl) (fun g99 => ?_)
      exact zp_Mo_line_22 hX g99
    · exact zp_Mo_line_22 hX g2
theorem ct_Mo_line {w : et_W} (hw : et_Sane w) (g : et_G) : et_C w yX10_line (Cond.code yX10_line cX10_line 4 (none)) rm_Mo_line et_eU [.ref (et_ad w 61)] g (fn_Mo_line g) := et_mk hw (by decide) rfl rfl (fun X hX => zw_Mo_line hX g)
def rm_Mo_village : Room := { frames := 5, cells := 0, slots := 0, locals := 113 }
def fn_Mo_village_330 (g : et_G) : Option (Int32 × et_G) :=
  et_b (et_si g 61 50 (0 : Int32)) (fun g39 =>
  et_b (et_si g39 61 67 (0 : Int32)) (fun g40 =>
  et_b (et_si g40 61 68 (0 : Int32)) (fun g41 =>
  et_b (et_si g41 61 65 (-1 : Int32)) (fun g42 =>
  et_b (et_si g42 61 69 (0 : Int32)) (fun g43 =>
  some ((0 : Int32), g43))))))
def fn_Mo_village_304 (r254 : Int32 → et_G → Option (Int32 × et_G)) (r265 : Int32 → Int32 → et_G → Option (Int32 × et_G)) (x2 : Int32) (x4 : Int32) (s0 : Int32) (g : et_G) : Option (Int32 × et_G) :=
  et_ck (et_ib (((24 : Int32) * x2) + x4) 144) (et_b (et_si g 69 (((24 : Int32) * x2) + x4).toNatClampNeg s0) (fun g45 =>
  et_b (x4 + (1 : Int32)) (fun v46 =>
  r265 s0 v46 g45)))
def fn_Mo_village_265 (r254 : Int32 → et_G → Option (Int32 × et_G)) (x2 : Int32) : Nat → Int32 → Int32 → et_G → Option (Int32 × et_G)
  | 0, _, _, _ => none
  | n + 1, x3, x4, g =>
    if (24 : Int32) ≤ x4 then
      et_b (x2 + (1 : Int32)) (fun v44 =>
      r254 v44 g)
    else
      et_ck (et_ib (((24 : Int32) * x2) + x4) 144) (
      if (g.1 80 (((24 : Int32) * x2) + x4).toNatClampNeg) = (-1 : Int32) then
        fn_Mo_village_304 r254 (fun z3 z4 g => fn_Mo_village_265 r254 x2 n z3 z4 g) x2 x4 x3 g
      else
        et_ck (et_ib (((24 : Int32) * x2) + x4) 144) (
        fn_Mo_village_304 r254 (fun z3 z4 g => fn_Mo_village_265 r254 x2 n z3 z4 g) x2 x4 (g.1 80 (((24 : Int32) * x2) + x4).toNatClampNeg) g))
def fn_Mo_village_254 : Nat → Int32 → et_G → Option (Int32 × et_G)
  | 0, _, _ => none
  | n + 1, x2, g =>
    if (6 : Int32) ≤ x2 then
      fn_Mo_village_330 g
    else
      fn_Mo_village_265 (fun z2 g => fn_Mo_village_254 n z2 g) x2 1000000 (0 : Int32) (0 : Int32) g
def fn_Mo_village_86 (g : et_G) : Option (Int32 × et_G) :=
  et_bd (fn_Mo_isGood g) (fun v15 g16 =>
  if v15 = 0 then
    et_ck (et_ib (0 : Int32) 3) (
    et_ck (et_ib (0 : Int32) 3) (et_b (et_si g16 72 (0 : Int32).toNatClampNeg ((g16.1 72 (0 : Int32).toNatClampNeg) + (1 : Int32))) (fun g47 =>
    some (g47.1 61 18, g47))))
  else
    et_b (et_si g16 61 1 (g16.1 61 28)) (fun g17 =>
    et_b (et_si g17 61 2 (g17.1 61 29)) (fun g18 =>
    et_b (et_si g18 61 3 (g18.1 61 30)) (fun g19 =>
    et_b (et_si g19 61 4 (g19.1 61 31)) (fun g20 =>
    et_b (et_si g20 61 5 (g20.1 61 32)) (fun g21 =>
    et_b (et_si g21 61 6 (g21.1 61 33)) (fun g22 =>
    et_bd (fn_Mo_copies_73_62 g22) (fun _ g24 =>
    et_bd (fn_Mo_copies_74_63 g24) (fun _ g26 =>
    et_bd (fn_Mo_copies_75_64 g26) (fun _ g28 =>
    et_bd (fn_Mo_copies_76_65 g28) (fun _ g30 =>
    et_bd (fn_Mo_copies_77_66 g30) (fun _ g32 =>
    et_bd (fn_Mo_copies_78_67 g32) (fun _ g34 =>
    et_bd (fn_Mo_copies_79_68 g34) (fun _ g36 =>
    et_bd (fn_Mo_copies_81_70 g36) (fun _ g38 =>
    fn_Mo_village_254 1000000 (0 : Int32) g38)))))))))))))))
def fn_Mo_village_65 : Nat → et_G → Option (Int32 × et_G)
  | 0, _ => none
  | n + 1, g =>
    et_bd (fn_Mo_isGood g) (fun v13 g14 =>
    if v13 = 0 then
      fn_Mo_village_86 g14
    else
      if (g14.1 61 23) = 0 then
        fn_Mo_village_86 g14
      else
        et_bd (fn_Mo_line g14) (fun _ g49 =>
        fn_Mo_village_65 n g49))
def fn_Mo_village_23 (x1 : Int32) (s0 : Int32) (g : et_G) : Option (Int32 × et_G) :=
  et_bd (fn_Mo_right s0 (1 : Int32) g) (fun v2 g3 =>
  if v2 = 0 then
    some ((0 : Int32), g3)
  else
    et_b (et_si g3 61 17 (0 : Int32)) (fun g4 =>
    et_b (et_si g4 61 19 (-1 : Int32)) (fun g5 =>
    et_b (et_si g5 61 18 (0 : Int32)) (fun g6 =>
    et_b (et_si g6 61 21 x1) (fun g7 =>
    et_b (et_si g7 61 22 (0 : Int32)) (fun g8 =>
    et_bd (fn_Mo_empties g8) (fun _ g10 =>
    et_bd (fn_Mo_steps g10) (fun _ g12 =>
    fn_Mo_village_65 1000000 g12))))))))
def fn_Mo_village_22 (x1 : Int32) (g : et_G) : Option (Int32 × et_G) :=
  fn_Mo_village_23 x1 (0 : Int32) g
def fn_Mo_village (p1 : Int32) (g : et_G) : Option (Int32 × et_G) :=
  et_b (et_si g 61 0 (0 : Int32)) (fun g1 =>
  if p1 < 0 then
    fn_Mo_village_22 p1 g1
  else
    if (g1.1 61 17) < p1 then
      fn_Mo_village_22 p1 g1
    else
      fn_Mo_village_23 p1 (1 : Int32) g1)
theorem zp_Mo_village_330 {X : et_X} {w : et_W} (hX : et_Gd X w cX10_village RX10 5 (some .int) [] rm_Mo_village) (g : et_G) : et_Z X w 0 et_eI 330 [some (.ref (et_ad w 61)), none, none, none, none] [] g (fn_Mo_village_330 g) := by
  unfold fn_Mo_village_330
  refine zi_aload0 (pc := 330) hX dX10_village_330 ?_
  refine zi_iconst (pc := 331) hX dX10_village_331 ki_0 ?_
  refine zi_puti (pc := 332) hX dX10_village_332 fl_1398 ly_61 rfl rfl rfl (zi_bg (fun g39 => ?_))
  refine zi_aload0 (pc := 335) hX dX10_village_335 ?_
  refine zi_iconst (pc := 336) hX dX10_village_336 ki_0 ?_
  refine zi_puti (pc := 337) hX dX10_village_337 fl_1415 ly_61 rfl rfl rfl (zi_bg (fun g40 => ?_))
  refine zi_aload0 (pc := 340) hX dX10_village_340 ?_
  refine zi_iconst (pc := 341) hX dX10_village_341 ki_0 ?_
  refine zi_puti (pc := 342) hX dX10_village_342 fl_1416 ly_61 rfl rfl rfl (zi_bg (fun g41 => ?_))
  refine zi_aload0 (pc := 345) hX dX10_village_345 ?_
  refine zi_iconst (pc := 346) hX dX10_village_346 ki_m1 ?_
  refine zi_puti (pc := 347) hX dX10_village_347 fl_1413 ly_61 rfl rfl rfl (zi_bg (fun g42 => ?_))
  refine zi_aload0 (pc := 350) hX dX10_village_350 ?_
  refine zi_iconst (pc := 351) hX dX10_village_351 ki_0 ?_
  refine zi_puti (pc := 352) hX dX10_village_352 fl_1417 ly_61 rfl et_z0 et_f0 (zi_bg (fun g43 => ?_))
  refine zi_iconst (pc := 355) hX dX10_village_355 ki_0 ?_
  exact zi_ret (pc := 356) hX dX10_village_356 rfl rfl rfl rfl
theorem zp_Mo_village_304 {X : et_X} {w : et_W} (hX : et_Gd X w cX10_village RX10 5 (some .int) [] rm_Mo_village) (r254 : Int32 → et_G → Option (Int32 × et_G)) (r265 : Int32 → Int32 → et_G → Option (Int32 × et_G)) (x2 : Int32) (x4 : Int32) (s0 : Int32) (hr254 : ∀ (y2 : Int32) (g : et_G), et_Z X w 0 et_eI 254 [some (.ref (et_ad w 61)), none, some (.int y2), none, none] [] g (r254 y2 g)) (hr265 : ∀ (y3 : Int32) (y4 : Int32) (g : et_G), et_Z X w 0 et_eI 265 [some (.ref (et_ad w 61)), none, some (.int x2), some (.int y3), some (.int y4)] [] g (r265 y3 y4 g)) (g : et_G) : et_Z X w 0 et_eI 304 [some (.ref (et_ad w 61)), none, some (.int x2), none, some (.int x4)] [.int s0] g (fn_Mo_village_304 r254 r265 x2 x4 s0 g) := by
  unfold fn_Mo_village_304
  refine zi_istore3 (pc := 304) hX dX10_village_304 rfl rfl ?_
  refine zi_aload0 (pc := 305) hX dX10_village_305 ?_
  refine zi_getr (q := 69) (pc := 306) hX dX10_village_306 fl_1362 ly_61 rfl ?_
  refine zi_bipush (pc := 309) hX dX10_village_309 kb_24 ?_
  refine zi_iload2 (pc := 311) hX dX10_village_311 ?_
  refine zi_imul (pc := 312) hX dX10_village_312 ?_
  refine zi_iload4 (pc := 313) hX dX10_village_313 ?_
  refine zi_iadd (pc := 315) hX dX10_village_315 ?_
  refine zi_iload3 (pc := 316) hX dX10_village_316 ?_
  refine zi_iast (pc := 317) hX dX10_village_317 ly_69 (zi_bg (fun g45 => ?_))
  refine zi_iincb4 (pc := 318) hX dX10_village_318 (kn_1 _) rfl rfl (fun v46 => ?_)
  refine zi_goto (pc := 321) 265 hX dX10_village_321 (by decide) ?_
  exact hr265 s0 v46 g45
theorem zp_Mo_village_265 {X : et_X} {w : et_W} (hX : et_Gd X w cX10_village RX10 5 (some .int) [] rm_Mo_village) (r254 : Int32 → et_G → Option (Int32 × et_G)) (x2 : Int32) (hr254 : ∀ (y2 : Int32) (g : et_G), et_Z X w 0 et_eI 254 [some (.ref (et_ad w 61)), none, some (.int y2), none, none] [] g (r254 y2 g)) : ∀ (n : Nat) (x3 : Int32) (x4 : Int32) (g : et_G), et_Z X w 0 et_eI 265 [some (.ref (et_ad w 61)), none, some (.int x2), some (.int x3), some (.int x4)] [] g (fn_Mo_village_265 r254 x2 n x3 x4 g) := by
  intro n
  induction n with
  | zero =>
    intro x3 x4 g a g2 h
    cases h
  | succ n ih =>
    intro x3 x4 g
    rw [fn_Mo_village_265]
    refine zi_iload4 (pc := 265) hX dX10_village_265 ?_
    refine zi_bipush (pc := 267) hX dX10_village_267 kb_24 ?_
    refine zi_icmp_ge (pc := 269) 324 hX dX10_village_269 (by decide) (fun _ => ?_) (fun _ => ?_)
    · refine zi_iincb2 (pc := 324) hX dX10_village_324 (kn_1 _) rfl rfl (fun v44 => ?_)
      refine zi_goto (pc := 327) 254 hX dX10_village_327 (by decide) ?_
      refine zi_drop (le_s (le_s (le_s (le_n (le_n le_nil))))) ?_; exact hr254 v44 g
    · refine zi_aload0 (pc := 272) hX dX10_village_272 ?_
      refine zi_getr (q := 80) (pc := 273) hX dX10_village_273 fl_1392 ly_61 rfl ?_
      refine zi_bipush (pc := 276) hX dX10_village_276 kb_24 ?_
      refine zi_iload2 (pc := 278) hX dX10_village_278 ?_
      refine zi_imul (pc := 279) hX dX10_village_279 ?_
      refine zi_iload4 (pc := 280) hX dX10_village_280 ?_
      refine zi_iadd (pc := 282) hX dX10_village_282 ?_
      refine zi_iald (pc := 283) hX dX10_village_283 ly_80 ?_
      refine zi_iconst (pc := 284) hX dX10_village_284 ki_m1 ?_
      refine zi_icmp_ne (pc := 285) 292 hX dX10_village_285 (by decide) (fun _ => ?_) (fun _ => ?_)
      · refine zi_iload3 (pc := 288) hX dX10_village_288 ?_
        refine zi_goto (pc := 289) 304 hX dX10_village_289 (by decide) ?_
        refine zi_drop (le_s (le_s (le_s (le_n (le_s le_nil))))) ?_; exact zp_Mo_village_304 hX r254 (fun z3 z4 g => fn_Mo_village_265 r254 x2 n z3 z4 g) x2 x4 x3 hr254 (fun z3 z4 g => ih z3 z4 g) g
      · refine zi_aload0 (pc := 292) hX dX10_village_292 ?_
        refine zi_getr (q := 80) (pc := 293) hX dX10_village_293 fl_1392 ly_61 rfl ?_
        refine zi_bipush (pc := 296) hX dX10_village_296 kb_24 ?_
        refine zi_iload2 (pc := 298) hX dX10_village_298 ?_
        refine zi_imul (pc := 299) hX dX10_village_299 ?_
        refine zi_iload4 (pc := 300) hX dX10_village_300 ?_
        refine zi_iadd (pc := 302) hX dX10_village_302 ?_
        refine zi_iald (pc := 303) hX dX10_village_303 ly_80 ?_
        refine zi_drop (le_s (le_s (le_s (le_n (le_s le_nil))))) ?_; exact zp_Mo_village_304 hX r254 (fun z3 z4 g => fn_Mo_village_265 r254 x2 n z3 z4 g) x2 x4 (g.1 80 (((24 : Int32) * x2) + x4).toNatClampNeg) hr254 (fun z3 z4 g => ih z3 z4 g) g
theorem zp_Mo_village_254 {X : et_X} {w : et_W} (hX : et_Gd X w cX10_village RX10 5 (some .int) [] rm_Mo_village) : ∀ (n : Nat) (x2 : Int32) (g : et_G), et_Z X w 0 et_eI 254 [some (.ref (et_ad w 61)), none, some (.int x2), none, none] [] g (fn_Mo_village_254 n x2 g) := by
  intro n
  induction n with
  | zero =>
    intro x2 g a g2 h
    cases h
  | succ n ih =>
    intro x2 g
    rw [fn_Mo_village_254]
    refine zi_iload2 (pc := 254) hX dX10_village_254 ?_
    refine zi_bipush (pc := 255) hX dX10_village_255 kb_6 ?_
    refine zi_icmp_ge (pc := 257) 330 hX dX10_village_257 (by decide) (fun _ => ?_) (fun _ => ?_)
    · refine zi_drop (le_s (le_s (le_n (le_s (le_s le_nil))))) ?_; exact zp_Mo_village_330 hX g
    · refine zi_iconst (pc := 260) hX dX10_village_260 ki_0 ?_
      refine zi_istore3 (pc := 261) hX dX10_village_261 rfl rfl ?_
      refine zi_iconst (pc := 262) hX dX10_village_262 ki_0 ?_
      refine zi_istore4 (pc := 263) hX dX10_village_263 rfl rfl ?_
      exact zp_Mo_village_265 hX (fun z2 g => fn_Mo_village_254 n z2 g) x2 (fun z2 g => ih z2 g) 1000000 (0 : Int32) (0 : Int32) g
theorem zp_Mo_village_86 {X : et_X} {w : et_W} (hX : et_Gd X w cX10_village RX10 5 (some .int) [] rm_Mo_village) (g : et_G) : et_Z X w 0 et_eI 86 [some (.ref (et_ad w 61)), none, none, none, none] [] g (fn_Mo_village_86 g) := by
  unfold fn_Mo_village_86
  refine zi_aload0 (pc := 86) hX dX10_village_86 ?_
  refine zi_callI (zc_virt (pc := 87) hX dX10_village_87 tm_1609 md_X10_isGood mi_X10_isGood ly_61 (ct_Mo_isGood hX.sane g) rfl rfl rfl) (fun v15 g16 => ?_)
  refine zi_if_ne (pc := 90) 108 hX dX10_village_90 (by decide) (fun _ => ?_) (fun _ => ?_)
  · refine zi_aload0 (pc := 93) hX dX10_village_93 ?_
    refine zi_getr (q := 72) (pc := 94) hX dX10_village_94 fl_1368 ly_61 rfl ?_
    refine zi_iconst (pc := 97) hX dX10_village_97 ki_0 ?_
    refine zi_dup2 (pc := 98) hX dX10_village_98 rfl rfl ?_
    refine zi_iald (pc := 99) hX dX10_village_99 ly_72 ?_
    refine zi_iconst (pc := 100) hX dX10_village_100 ki_1 ?_
    refine zi_iadd (pc := 101) hX dX10_village_101 ?_
    refine zi_iast (pc := 102) hX dX10_village_102 ly_72 (zi_bg (fun g47 => ?_))
    refine zi_aload0 (pc := 103) hX dX10_village_103 ?_
    refine zi_geti (pc := 104) hX dX10_village_104 fl_1366 ly_61 rfl ?_
    exact zi_ret (pc := 107) hX dX10_village_107 rfl rfl rfl rfl
  · refine zi_aload0 (pc := 108) hX dX10_village_108 ?_
    refine zi_aload0 (pc := 109) hX dX10_village_109 ?_
    refine zi_geti (pc := 110) hX dX10_village_110 fl_1376 ly_61 rfl ?_
    refine zi_puti (pc := 113) hX dX10_village_113 fl_1349 ly_61 rfl rfl rfl (zi_bg (fun g17 => ?_))
    refine zi_aload0 (pc := 116) hX dX10_village_116 ?_
    refine zi_aload0 (pc := 117) hX dX10_village_117 ?_
    refine zi_geti (pc := 118) hX dX10_village_118 fl_1377 ly_61 rfl ?_
    refine zi_puti (pc := 121) hX dX10_village_121 fl_1350 ly_61 rfl rfl rfl (zi_bg (fun g18 => ?_))
    refine zi_aload0 (pc := 124) hX dX10_village_124 ?_
    refine zi_aload0 (pc := 125) hX dX10_village_125 ?_
    refine zi_geti (pc := 126) hX dX10_village_126 fl_1378 ly_61 rfl ?_
    refine zi_puti (pc := 129) hX dX10_village_129 fl_1351 ly_61 rfl rfl rfl (zi_bg (fun g19 => ?_))
    refine zi_aload0 (pc := 132) hX dX10_village_132 ?_
    refine zi_aload0 (pc := 133) hX dX10_village_133 ?_
    refine zi_geti (pc := 134) hX dX10_village_134 fl_1379 ly_61 rfl ?_
    refine zi_puti (pc := 137) hX dX10_village_137 fl_1352 ly_61 rfl rfl rfl (zi_bg (fun g20 => ?_))
    refine zi_aload0 (pc := 140) hX dX10_village_140 ?_
    refine zi_aload0 (pc := 141) hX dX10_village_141 ?_
    refine zi_geti (pc := 142) hX dX10_village_142 fl_1380 ly_61 rfl ?_
    refine zi_puti (pc := 145) hX dX10_village_145 fl_1353 ly_61 rfl rfl rfl (zi_bg (fun g21 => ?_))
    refine zi_aload0 (pc := 148) hX dX10_village_148 ?_
    refine zi_aload0 (pc := 149) hX dX10_village_149 ?_
    refine zi_geti (pc := 150) hX dX10_village_150 fl_1381 ly_61 rfl ?_
    refine zi_puti (pc := 153) hX dX10_village_153 fl_1354 ly_61 rfl rfl rfl (zi_bg (fun g22 => ?_))
    refine zi_aload0 (pc := 156) hX dX10_village_156 ?_
    refine zi_aload0 (pc := 157) hX dX10_village_157 ?_
    refine zi_getr (q := 73) (pc := 158) hX dX10_village_158 fl_1385 ly_61 rfl ?_
    refine zi_aload0 (pc := 161) hX dX10_village_161 ?_
    refine zi_getr (q := 62) (pc := 162) hX dX10_village_162 fl_1355 ly_61 rfl ?_
    refine zi_callU (zc_virt (pc := 165) hX dX10_village_165 tm_1671 md_X10_copies mi_X10_copies ly_61 (ct_Mo_copies_73_62 hX.sane g22) rfl rfl rfl) (fun g24 => ?_)
    refine zi_aload0 (pc := 168) hX dX10_village_168 ?_
    refine zi_aload0 (pc := 169) hX dX10_village_169 ?_
    refine zi_getr (q := 74) (pc := 170) hX dX10_village_170 fl_1386 ly_61 rfl ?_
    refine zi_aload0 (pc := 173) hX dX10_village_173 ?_
    refine zi_getr (q := 63) (pc := 174) hX dX10_village_174 fl_1356 ly_61 rfl ?_
    refine zi_callU (zc_virt (pc := 177) hX dX10_village_177 tm_1671 md_X10_copies mi_X10_copies ly_61 (ct_Mo_copies_74_63 hX.sane g24) rfl rfl rfl) (fun g26 => ?_)
    refine zi_aload0 (pc := 180) hX dX10_village_180 ?_
    refine zi_aload0 (pc := 181) hX dX10_village_181 ?_
    refine zi_getr (q := 75) (pc := 182) hX dX10_village_182 fl_1387 ly_61 rfl ?_
    refine zi_aload0 (pc := 185) hX dX10_village_185 ?_
    refine zi_getr (q := 64) (pc := 186) hX dX10_village_186 fl_1357 ly_61 rfl ?_
    refine zi_callU (zc_virt (pc := 189) hX dX10_village_189 tm_1671 md_X10_copies mi_X10_copies ly_61 (ct_Mo_copies_75_64 hX.sane g26) rfl rfl rfl) (fun g28 => ?_)
    refine zi_aload0 (pc := 192) hX dX10_village_192 ?_
    refine zi_aload0 (pc := 193) hX dX10_village_193 ?_
    refine zi_getr (q := 76) (pc := 194) hX dX10_village_194 fl_1388 ly_61 rfl ?_
    refine zi_aload0 (pc := 197) hX dX10_village_197 ?_
    refine zi_getr (q := 65) (pc := 198) hX dX10_village_198 fl_1358 ly_61 rfl ?_
    refine zi_callU (zc_virt (pc := 201) hX dX10_village_201 tm_1671 md_X10_copies mi_X10_copies ly_61 (ct_Mo_copies_76_65 hX.sane g28) rfl rfl rfl) (fun g30 => ?_)
    refine zi_aload0 (pc := 204) hX dX10_village_204 ?_
    refine zi_aload0 (pc := 205) hX dX10_village_205 ?_
    refine zi_getr (q := 77) (pc := 206) hX dX10_village_206 fl_1389 ly_61 rfl ?_
    refine zi_aload0 (pc := 209) hX dX10_village_209 ?_
    refine zi_getr (q := 66) (pc := 210) hX dX10_village_210 fl_1359 ly_61 rfl ?_
    refine zi_callU (zc_virt (pc := 213) hX dX10_village_213 tm_1671 md_X10_copies mi_X10_copies ly_61 (ct_Mo_copies_77_66 hX.sane g30) rfl rfl rfl) (fun g32 => ?_)
    refine zi_aload0 (pc := 216) hX dX10_village_216 ?_
    refine zi_aload0 (pc := 217) hX dX10_village_217 ?_
    refine zi_getr (q := 78) (pc := 218) hX dX10_village_218 fl_1390 ly_61 rfl ?_
    refine zi_aload0 (pc := 221) hX dX10_village_221 ?_
    refine zi_getr (q := 67) (pc := 222) hX dX10_village_222 fl_1360 ly_61 rfl ?_
    refine zi_callU (zc_virt (pc := 225) hX dX10_village_225 tm_1671 md_X10_copies mi_X10_copies ly_61 (ct_Mo_copies_78_67 hX.sane g32) rfl rfl rfl) (fun g34 => ?_)
    refine zi_aload0 (pc := 228) hX dX10_village_228 ?_
    refine zi_aload0 (pc := 229) hX dX10_village_229 ?_
    refine zi_getr (q := 79) (pc := 230) hX dX10_village_230 fl_1391 ly_61 rfl ?_
    refine zi_aload0 (pc := 233) hX dX10_village_233 ?_
    refine zi_getr (q := 68) (pc := 234) hX dX10_village_234 fl_1361 ly_61 rfl ?_
    refine zi_callU (zc_virt (pc := 237) hX dX10_village_237 tm_1671 md_X10_copies mi_X10_copies ly_61 (ct_Mo_copies_79_68 hX.sane g34) rfl rfl rfl) (fun g36 => ?_)
    refine zi_aload0 (pc := 240) hX dX10_village_240 ?_
    refine zi_aload0 (pc := 241) hX dX10_village_241 ?_
    refine zi_getr (q := 81) (pc := 242) hX dX10_village_242 fl_1393 ly_61 rfl ?_
    refine zi_aload0 (pc := 245) hX dX10_village_245 ?_
    refine zi_getr (q := 70) (pc := 246) hX dX10_village_246 fl_1363 ly_61 rfl ?_
    refine zi_callU (zc_virt (pc := 249) hX dX10_village_249 tm_1671 md_X10_copies mi_X10_copies ly_61 (ct_Mo_copies_81_70 hX.sane g36) rfl rfl rfl) (fun g38 => ?_)
    refine zi_iconst (pc := 252) hX dX10_village_252 ki_0 ?_
    refine zi_istore2 (pc := 253) hX dX10_village_253 rfl rfl ?_
    exact zp_Mo_village_254 hX 1000000 (0 : Int32) g38
theorem zp_Mo_village_65 {X : et_X} {w : et_W} (hX : et_Gd X w cX10_village RX10 5 (some .int) [] rm_Mo_village) : ∀ (n : Nat) (g : et_G), et_Z X w 0 et_eI 65 [some (.ref (et_ad w 61)), none, none, none, none] [] g (fn_Mo_village_65 n g) := by
  intro n
  induction n with
  | zero =>
    intro g a g2 h
    cases h
  | succ n ih =>
    intro g
    rw [fn_Mo_village_65]
    refine zi_aload0 (pc := 65) hX dX10_village_65 ?_
    refine zi_callI (zc_virt (pc := 66) hX dX10_village_66 tm_1609 md_X10_isGood mi_X10_isGood ly_61 (ct_Mo_isGood hX.sane g) rfl rfl rfl) (fun v13 g14 => ?_)
    refine zi_if_eq (pc := 69) 86 hX dX10_village_69 (by decide) (fun _ => ?_) (fun _ => ?_)
    · exact zp_Mo_village_86 hX g14
    · refine zi_aload0 (pc := 72) hX dX10_village_72 ?_
      refine zi_geti (pc := 73) hX dX10_village_73 fl_1371 ly_61 rfl ?_
      refine zi_if_eq (pc := 76) 86 hX dX10_village_76 (by decide) (fun _ => ?_) (fun _ => ?_)
      · exact zp_Mo_village_86 hX g14
      · refine zi_aload0 (pc := 79) hX dX10_village_79 ?_
        refine zi_callU (zc_virt (pc := 80) hX dX10_village_80 tm_1613 md_X10_line mi_X10_line ly_61 (ct_Mo_line hX.sane g14) rfl rfl rfl) (fun g49 => ?_)
        refine zi_goto (pc := 83) 65 hX dX10_village_83 (by decide) ?_
        exact ih g49
theorem zp_Mo_village_23 {X : et_X} {w : et_W} (hX : et_Gd X w cX10_village RX10 5 (some .int) [] rm_Mo_village) (x1 : Int32) (s0 : Int32) (g : et_G) : et_Z X w 0 et_eI 23 [some (.ref (et_ad w 61)), some (.int x1), none, none, none] [.int s0, .ref (et_ad w 61)] g (fn_Mo_village_23 x1 s0 g) := by
  unfold fn_Mo_village_23
  refine zi_iconst (pc := 23) hX dX10_village_23 ki_1 ?_
  refine zi_callI (zc_virt (pc := 24) hX dX10_village_24 tm_1587 md_X10_right mi_X10_right ly_61 (ct_Mo_right hX.sane s0 (1 : Int32) g) rfl rfl rfl) (fun v2 g3 => ?_)
  refine zi_if_ne (pc := 27) 32 hX dX10_village_27 (by decide) (fun _ => ?_) (fun _ => ?_)
  · refine zi_iconst (pc := 30) hX dX10_village_30 ki_0 ?_
    exact zi_ret (pc := 31) hX dX10_village_31 rfl rfl rfl rfl
  · refine zi_aload0 (pc := 32) hX dX10_village_32 ?_
    refine zi_iconst (pc := 33) hX dX10_village_33 ki_0 ?_
    refine zi_puti (pc := 34) hX dX10_village_34 fl_1365 ly_61 rfl rfl rfl (zi_bg (fun g4 => ?_))
    refine zi_aload0 (pc := 37) hX dX10_village_37 ?_
    refine zi_iconst (pc := 38) hX dX10_village_38 ki_m1 ?_
    refine zi_puti (pc := 39) hX dX10_village_39 fl_1367 ly_61 rfl rfl rfl (zi_bg (fun g5 => ?_))
    refine zi_aload0 (pc := 42) hX dX10_village_42 ?_
    refine zi_iconst (pc := 43) hX dX10_village_43 ki_0 ?_
    refine zi_puti (pc := 44) hX dX10_village_44 fl_1366 ly_61 rfl rfl rfl (zi_bg (fun g6 => ?_))
    refine zi_aload0 (pc := 47) hX dX10_village_47 ?_
    refine zi_iload1 (pc := 48) hX dX10_village_48 ?_
    refine zi_puti (pc := 49) hX dX10_village_49 fl_1369 ly_61 rfl rfl rfl (zi_bg (fun g7 => ?_))
    refine zi_aload0 (pc := 52) hX dX10_village_52 ?_
    refine zi_iconst (pc := 53) hX dX10_village_53 ki_0 ?_
    refine zi_puti (pc := 54) hX dX10_village_54 fl_1370 ly_61 rfl rfl rfl (zi_bg (fun g8 => ?_))
    refine zi_aload0 (pc := 57) hX dX10_village_57 ?_
    refine zi_callU (zc_virt (pc := 58) hX dX10_village_58 tm_1591 md_X10_empties mi_X10_empties ly_61 (ct_Mo_empties hX.sane g8) rfl rfl rfl) (fun g10 => ?_)
    refine zi_aload0 (pc := 61) hX dX10_village_61 ?_
    refine zi_callU (zc_virt (pc := 62) hX dX10_village_62 tm_1595 md_X10_steps mi_X10_steps ly_61 (ct_Mo_steps hX.sane g10) rfl rfl rfl) (fun g12 => ?_)
    refine zi_drop (le_s (le_n (le_s (le_s (le_s le_nil))))) ?_; exact zp_Mo_village_65 hX 1000000 g12
theorem zp_Mo_village_22 {X : et_X} {w : et_W} (hX : et_Gd X w cX10_village RX10 5 (some .int) [] rm_Mo_village) (x1 : Int32) (g : et_G) : et_Z X w 0 et_eI 22 [some (.ref (et_ad w 61)), some (.int x1), none, none, none] [.ref (et_ad w 61)] g (fn_Mo_village_22 x1 g) := by
  unfold fn_Mo_village_22
  refine zi_iconst (pc := 22) hX dX10_village_22 ki_0 ?_
  exact zp_Mo_village_23 hX x1 (0 : Int32) g
theorem zw_Mo_village {X : et_X} {w : et_W} (hX : et_Gd X w cX10_village RX10 5 (some .int) [] rm_Mo_village) (p1 : Int32) (g : et_G) : et_Z X w 0 et_eI 0 [some (.ref (et_ad w 61)), some (.int p1), none, none, none] [] g (fn_Mo_village p1 g) := by
  unfold fn_Mo_village
  refine zi_aload0 (pc := 0) hX dX10_village_0 ?_
  refine zi_iconst (pc := 1) hX dX10_village_1 ki_0 ?_
  refine zi_puti (pc := 2) hX dX10_village_2 fl_1348 ly_61 rfl rfl rfl (zi_bg (fun g1 => ?_))
  refine zi_aload0 (pc := 5) hX dX10_village_5 ?_
  refine zi_iload1 (pc := 6) hX dX10_village_6 ?_
  refine zi_if_lt (pc := 7) 22 hX dX10_village_7 (by decide) (fun _ => ?_) (fun _ => ?_)
  · exact zp_Mo_village_22 hX p1 g1
  · refine zi_iload1 (pc := 10) hX dX10_village_10 ?_
    refine zi_aload0 (pc := 11) hX dX10_village_11 ?_
    refine zi_geti (pc := 12) hX dX10_village_12 fl_1365 ly_61 rfl ?_
    refine zi_icmp_gt (pc := 15) 22 hX dX10_village_15 (by decide) (fun _ => ?_) (fun _ => ?_)
    · exact zp_Mo_village_22 hX p1 g1
    · refine zi_iconst (pc := 18) hX dX10_village_18 ki_1 ?_
      refine zi_goto (pc := 19) 23 hX dX10_village_19 (by decide) ?_
      exact zp_Mo_village_23 hX p1 (1 : Int32) g1
theorem ct_Mo_village {w : et_W} (hw : et_Sane w) (p1 : Int32) (g : et_G) : et_C w yX10_village (Cond.code yX10_village cX10_village 5 (some .int)) rm_Mo_village et_eI [.ref (et_ad w 61), .int p1] g (fn_Mo_village p1 g) := et_mk hw (by decide) rfl rfl (fun X hX => zw_Mo_village hX p1 g)
def rm_Mo_way : Room := { frames := 1, cells := 0, slots := 0, locals := 22 }
def fn_Mo_way_23 (x1 : Int32) (s0 : Int32) (g : et_G) : Option (Int32 × et_G) :=
  et_bd (fn_Mo_right s0 (1 : Int32) g) (fun v2 g3 =>
  if v2 = 0 then
    some ((0 : Int32), g3)
  else
    et_ck (et_ib x1 180) (
    some (g3.1 83 x1.toNatClampNeg, g3)))
def fn_Mo_way_22 (x1 : Int32) (g : et_G) : Option (Int32 × et_G) :=
  fn_Mo_way_23 x1 (0 : Int32) g
def fn_Mo_way (p1 : Int32) (g : et_G) : Option (Int32 × et_G) :=
  et_b (et_si g 61 0 (0 : Int32)) (fun g1 =>
  if p1 < 0 then
    fn_Mo_way_22 p1 g1
  else
    if (g1.1 61 49) ≤ p1 then
      fn_Mo_way_22 p1 g1
    else
      fn_Mo_way_23 p1 (1 : Int32) g1)
theorem zp_Mo_way_23 {X : et_X} {w : et_W} (hX : et_Gd X w cX10_way RX10 2 (some .int) [] rm_Mo_way) (x1 : Int32) (s0 : Int32) (g : et_G) : et_Z X w 0 et_eI 23 [some (.ref (et_ad w 61)), some (.int x1)] [.int s0, .ref (et_ad w 61)] g (fn_Mo_way_23 x1 s0 g) := by
  unfold fn_Mo_way_23
  refine zi_iconst (pc := 23) hX dX10_way_23 ki_1 ?_
  refine zi_callI (zc_virt (pc := 24) hX dX10_way_24 tm_1587 md_X10_right mi_X10_right ly_61 (ct_Mo_right hX.sane s0 (1 : Int32) g) rfl rfl rfl) (fun v2 g3 => ?_)
  refine zi_if_eq (pc := 27) 39 hX dX10_way_27 (by decide) (fun _ => ?_) (fun _ => ?_)
  · refine zi_iconst (pc := 39) hX dX10_way_39 ki_0 ?_
    exact zi_ret (pc := 40) hX dX10_way_40 rfl rfl rfl rfl
  · refine zi_aload0 (pc := 30) hX dX10_way_30 ?_
    refine zi_getr (q := 83) (pc := 31) hX dX10_way_31 fl_1395 ly_61 rfl ?_
    refine zi_iload1 (pc := 34) hX dX10_way_34 ?_
    refine zi_iald (pc := 35) hX dX10_way_35 ly_83 ?_
    refine zi_goto (pc := 36) 40 hX dX10_way_36 (by decide) ?_
    exact zi_ret (pc := 40) hX dX10_way_40 rfl rfl rfl rfl
theorem zp_Mo_way_22 {X : et_X} {w : et_W} (hX : et_Gd X w cX10_way RX10 2 (some .int) [] rm_Mo_way) (x1 : Int32) (g : et_G) : et_Z X w 0 et_eI 22 [some (.ref (et_ad w 61)), some (.int x1)] [.ref (et_ad w 61)] g (fn_Mo_way_22 x1 g) := by
  unfold fn_Mo_way_22
  refine zi_iconst (pc := 22) hX dX10_way_22 ki_0 ?_
  exact zp_Mo_way_23 hX x1 (0 : Int32) g
theorem zw_Mo_way {X : et_X} {w : et_W} (hX : et_Gd X w cX10_way RX10 2 (some .int) [] rm_Mo_way) (p1 : Int32) (g : et_G) : et_Z X w 0 et_eI 0 [some (.ref (et_ad w 61)), some (.int p1)] [] g (fn_Mo_way p1 g) := by
  unfold fn_Mo_way
  refine zi_aload0 (pc := 0) hX dX10_way_0 ?_
  refine zi_iconst (pc := 1) hX dX10_way_1 ki_0 ?_
  refine zi_puti (pc := 2) hX dX10_way_2 fl_1348 ly_61 rfl rfl rfl (zi_bg (fun g1 => ?_))
  refine zi_aload0 (pc := 5) hX dX10_way_5 ?_
  refine zi_iload1 (pc := 6) hX dX10_way_6 ?_
  refine zi_if_lt (pc := 7) 22 hX dX10_way_7 (by decide) (fun _ => ?_) (fun _ => ?_)
  · exact zp_Mo_way_22 hX p1 g1
  · refine zi_iload1 (pc := 10) hX dX10_way_10 ?_
    refine zi_aload0 (pc := 11) hX dX10_way_11 ?_
    refine zi_geti (pc := 12) hX dX10_way_12 fl_1397 ly_61 rfl ?_
    refine zi_icmp_ge (pc := 15) 22 hX dX10_way_15 (by decide) (fun _ => ?_) (fun _ => ?_)
    · exact zp_Mo_way_22 hX p1 g1
    · refine zi_iconst (pc := 18) hX dX10_way_18 ki_1 ?_
      refine zi_goto (pc := 19) 23 hX dX10_way_19 (by decide) ?_
      exact zp_Mo_way_23 hX p1 (1 : Int32) g1
theorem ct_Mo_way {w : et_W} (hw : et_Sane w) (p1 : Int32) (g : et_G) : et_C w yX10_way (Cond.code yX10_way cX10_way 2 (some .int)) rm_Mo_way et_eI [.ref (et_ad w 61), .int p1] g (fn_Mo_way p1 g) := et_mk hw (by decide) rfl rfl (fun X hX => zw_Mo_way hX p1 g)
def rm_Mo_where : Room := { frames := 2, cells := 0, slots := 0, locals := 44 }
def fn_Mo_where (p1 : Int32) (p2 : Int32) (g : et_G) : Option (Int32 × et_G) :=
  et_b (et_si g 61 0 (0 : Int32)) (fun g1 =>
  et_bd (fn_Mo_isWho p1 p2 g1) (fun v2 g3 =>
  if v2 = 0 then
    some ((0 : Int32), g3)
  else
    et_ck (et_ib (((24 : Int32) * p1) + p2) 144) (
    some (g3.1 69 (((24 : Int32) * p1) + p2).toNatClampNeg, g3))))
theorem zw_Mo_where {X : et_X} {w : et_W} (hX : et_Gd X w cX10_where RX10 3 (some .int) [] rm_Mo_where) (p1 : Int32) (p2 : Int32) (g : et_G) : et_Z X w 0 et_eI 0 [some (.ref (et_ad w 61)), some (.int p1), some (.int p2)] [] g (fn_Mo_where p1 p2 g) := by
  unfold fn_Mo_where
  refine zi_aload0 (pc := 0) hX dX10_where_0 ?_
  refine zi_iconst (pc := 1) hX dX10_where_1 ki_0 ?_
  refine zi_puti (pc := 2) hX dX10_where_2 fl_1348 ly_61 rfl rfl rfl (zi_bg (fun g1 => ?_))
  refine zi_aload0 (pc := 5) hX dX10_where_5 ?_
  refine zi_iload1 (pc := 6) hX dX10_where_6 ?_
  refine zi_iload2 (pc := 7) hX dX10_where_7 ?_
  refine zi_callI (zc_virt (pc := 8) hX dX10_where_8 tm_1693 md_X10_isWho mi_X10_isWho ly_61 (ct_Mo_isWho hX.sane p1 p2 g1) rfl rfl rfl) (fun v2 g3 => ?_)
  refine zi_if_eq (pc := 11) 28 hX dX10_where_11 (by decide) (fun _ => ?_) (fun _ => ?_)
  · refine zi_iconst (pc := 28) hX dX10_where_28 ki_0 ?_
    exact zi_ret (pc := 29) hX dX10_where_29 rfl rfl rfl rfl
  · refine zi_aload0 (pc := 14) hX dX10_where_14 ?_
    refine zi_getr (q := 69) (pc := 15) hX dX10_where_15 fl_1362 ly_61 rfl ?_
    refine zi_bipush (pc := 18) hX dX10_where_18 kb_24 ?_
    refine zi_iload1 (pc := 20) hX dX10_where_20 ?_
    refine zi_imul (pc := 21) hX dX10_where_21 ?_
    refine zi_iload2 (pc := 22) hX dX10_where_22 ?_
    refine zi_iadd (pc := 23) hX dX10_where_23 ?_
    refine zi_iald (pc := 24) hX dX10_where_24 ly_69 ?_
    refine zi_goto (pc := 25) 29 hX dX10_where_25 (by decide) ?_
    exact zi_ret (pc := 29) hX dX10_where_29 rfl rfl rfl rfl
theorem ct_Mo_where {w : et_W} (hw : et_Sane w) (p1 : Int32) (p2 : Int32) (g : et_G) : et_C w yX10_where (Cond.code yX10_where cX10_where 3 (some .int)) rm_Mo_where et_eI [.ref (et_ad w 61), .int p1, .int p2] g (fn_Mo_where p1 p2 g) := et_mk hw (by decide) rfl rfl (fun X hX => zw_Mo_where hX p1 p2 g)
def rm_Mo_word : Room := { frames := 2, cells := 0, slots := 0, locals := 51 }
def fn_Mo_word_81 (x4 : Int32) (s0 : Int32) (g : et_G) : Option (Int32 × et_G) :=
  et_bd (fn_Mo_right s0 (1 : Int32) g) (fun v6 g7 =>
  if v6 = 0 then
    some ((0 : Int32), g7)
  else
    if x4 = (-1 : Int32) then
      some (g7.1 61 48, g7)
    else
      et_ck (et_ib x4 32) (
      some (g7.1 82 x4.toNatClampNeg, g7)))
def fn_Mo_word_47 (x1 : Int32) (x2 : Int32) (x3 : Int32) (x4 : Int32) (s0 : Int32) (g : et_G) : Option (Int32 × et_G) :=
  et_bd (fn_Mo_right s0 (1 : Int32) g) (fun v2 g3 =>
  if v2 = 0 then
    some ((0 : Int32), g3)
  else
    et_bd (fn_Mo_speaks x1 (((5 : Int32) * x2) + x3) g3) (fun _ g5 =>
    if (g5.1 61 48) ≤ x4 then
      fn_Mo_word_81 x4 (0 : Int32) g5
    else
      fn_Mo_word_81 x4 (1 : Int32) g5))
def fn_Mo_word_46 (x1 : Int32) (x2 : Int32) (x3 : Int32) (x4 : Int32) (g : et_G) : Option (Int32 × et_G) :=
  fn_Mo_word_47 x1 x2 x3 x4 (0 : Int32) g
def fn_Mo_word (p1 : Int32) (p2 : Int32) (p3 : Int32) (p4 : Int32) (g : et_G) : Option (Int32 × et_G) :=
  et_b (et_si g 61 0 (0 : Int32)) (fun g1 =>
  if p1 < 0 then
    fn_Mo_word_46 p1 p2 p3 p4 g1
  else
    if (g1.1 61 1) ≤ p1 then
      fn_Mo_word_46 p1 p2 p3 p4 g1
    else
      et_bd (fn_Mo_within p2 (0 : Int32) (2 : Int32) g1) (fun v8 g9 =>
      if v8 = 0 then
        fn_Mo_word_46 p1 p2 p3 p4 g9
      else
        et_bd (fn_Mo_within p3 (0 : Int32) (4 : Int32) g9) (fun v10 g11 =>
        if v10 = 0 then
          fn_Mo_word_46 p1 p2 p3 p4 g11
        else
          if p4 < (-1 : Int32) then
            fn_Mo_word_46 p1 p2 p3 p4 g11
          else
            fn_Mo_word_47 p1 p2 p3 p4 (1 : Int32) g11)))
theorem zp_Mo_word_81 {X : et_X} {w : et_W} (hX : et_Gd X w cX10_word RX10 5 (some .int) [] rm_Mo_word) (x4 : Int32) (s0 : Int32) (g : et_G) : et_Z X w 0 et_eI 81 [some (.ref (et_ad w 61)), none, none, none, some (.int x4)] [.int s0, .ref (et_ad w 61)] g (fn_Mo_word_81 x4 s0 g) := by
  unfold fn_Mo_word_81
  refine zi_iconst (pc := 81) hX dX10_word_81 ki_1 ?_
  refine zi_callI (zc_virt (pc := 82) hX dX10_word_82 tm_1587 md_X10_right mi_X10_right ly_61 (ct_Mo_right hX.sane s0 (1 : Int32) g) rfl rfl rfl) (fun v6 g7 => ?_)
  refine zi_if_ne (pc := 85) 90 hX dX10_word_85 (by decide) (fun _ => ?_) (fun _ => ?_)
  · refine zi_iconst (pc := 88) hX dX10_word_88 ki_0 ?_
    exact zi_ret (pc := 89) hX dX10_word_89 rfl rfl rfl rfl
  · refine zi_iload4 (pc := 90) hX dX10_word_90 ?_
    refine zi_iconst (pc := 92) hX dX10_word_92 ki_m1 ?_
    refine zi_icmp_ne (pc := 93) 103 hX dX10_word_93 (by decide) (fun _ => ?_) (fun _ => ?_)
    · refine zi_aload0 (pc := 96) hX dX10_word_96 ?_
      refine zi_geti (pc := 97) hX dX10_word_97 fl_1396 ly_61 rfl ?_
      refine zi_goto (pc := 100) 110 hX dX10_word_100 (by decide) ?_
      exact zi_ret (pc := 110) hX dX10_word_110 rfl rfl rfl rfl
    · refine zi_aload0 (pc := 103) hX dX10_word_103 ?_
      refine zi_getr (q := 82) (pc := 104) hX dX10_word_104 fl_1394 ly_61 rfl ?_
      refine zi_iload4 (pc := 107) hX dX10_word_107 ?_
      refine zi_iald (pc := 109) hX dX10_word_109 ly_82 ?_
      exact zi_ret (pc := 110) hX dX10_word_110 rfl rfl rfl rfl
theorem zp_Mo_word_47 {X : et_X} {w : et_W} (hX : et_Gd X w cX10_word RX10 5 (some .int) [] rm_Mo_word) (x1 : Int32) (x2 : Int32) (x3 : Int32) (x4 : Int32) (s0 : Int32) (g : et_G) : et_Z X w 0 et_eI 47 [some (.ref (et_ad w 61)), some (.int x1), some (.int x2), some (.int x3), some (.int x4)] [.int s0, .ref (et_ad w 61)] g (fn_Mo_word_47 x1 x2 x3 x4 s0 g) := by
  unfold fn_Mo_word_47
  refine zi_iconst (pc := 47) hX dX10_word_47 ki_1 ?_
  refine zi_callI (zc_virt (pc := 48) hX dX10_word_48 tm_1587 md_X10_right mi_X10_right ly_61 (ct_Mo_right hX.sane s0 (1 : Int32) g) rfl rfl rfl) (fun v2 g3 => ?_)
  refine zi_if_ne (pc := 51) 56 hX dX10_word_51 (by decide) (fun _ => ?_) (fun _ => ?_)
  · refine zi_iconst (pc := 54) hX dX10_word_54 ki_0 ?_
    exact zi_ret (pc := 55) hX dX10_word_55 rfl rfl rfl rfl
  · refine zi_aload0 (pc := 56) hX dX10_word_56 ?_
    refine zi_iload1 (pc := 57) hX dX10_word_57 ?_
    refine zi_iconst (pc := 58) hX dX10_word_58 ki_5 ?_
    refine zi_iload2 (pc := 59) hX dX10_word_59 ?_
    refine zi_imul (pc := 60) hX dX10_word_60 ?_
    refine zi_iload3 (pc := 61) hX dX10_word_61 ?_
    refine zi_iadd (pc := 62) hX dX10_word_62 ?_
    refine zi_callU (zc_virt (pc := 63) hX dX10_word_63 tm_1709 md_X10_speaks mi_X10_speaks ly_61 (ct_Mo_speaks hX.sane x1 (((5 : Int32) * x2) + x3) g3) rfl rfl rfl) (fun g5 => ?_)
    refine zi_aload0 (pc := 66) hX dX10_word_66 ?_
    refine zi_iload4 (pc := 67) hX dX10_word_67 ?_
    refine zi_aload0 (pc := 69) hX dX10_word_69 ?_
    refine zi_geti (pc := 70) hX dX10_word_70 fl_1396 ly_61 rfl ?_
    refine zi_icmp_ge (pc := 73) 80 hX dX10_word_73 (by decide) (fun _ => ?_) (fun _ => ?_)
    · refine zi_iconst (pc := 80) hX dX10_word_80 ki_0 ?_
      refine zi_drop (le_s (le_n (le_n (le_n (le_s le_nil))))) ?_; exact zp_Mo_word_81 hX x4 (0 : Int32) g5
    · refine zi_iconst (pc := 76) hX dX10_word_76 ki_1 ?_
      refine zi_goto (pc := 77) 81 hX dX10_word_77 (by decide) ?_
      refine zi_drop (le_s (le_n (le_n (le_n (le_s le_nil))))) ?_; exact zp_Mo_word_81 hX x4 (1 : Int32) g5
theorem zp_Mo_word_46 {X : et_X} {w : et_W} (hX : et_Gd X w cX10_word RX10 5 (some .int) [] rm_Mo_word) (x1 : Int32) (x2 : Int32) (x3 : Int32) (x4 : Int32) (g : et_G) : et_Z X w 0 et_eI 46 [some (.ref (et_ad w 61)), some (.int x1), some (.int x2), some (.int x3), some (.int x4)] [.ref (et_ad w 61)] g (fn_Mo_word_46 x1 x2 x3 x4 g) := by
  unfold fn_Mo_word_46
  refine zi_iconst (pc := 46) hX dX10_word_46 ki_0 ?_
  exact zp_Mo_word_47 hX x1 x2 x3 x4 (0 : Int32) g
theorem zw_Mo_word {X : et_X} {w : et_W} (hX : et_Gd X w cX10_word RX10 5 (some .int) [] rm_Mo_word) (p1 : Int32) (p2 : Int32) (p3 : Int32) (p4 : Int32) (g : et_G) : et_Z X w 0 et_eI 0 [some (.ref (et_ad w 61)), some (.int p1), some (.int p2), some (.int p3), some (.int p4)] [] g (fn_Mo_word p1 p2 p3 p4 g) := by
  unfold fn_Mo_word
  refine zi_aload0 (pc := 0) hX dX10_word_0 ?_
  refine zi_iconst (pc := 1) hX dX10_word_1 ki_0 ?_
  refine zi_puti (pc := 2) hX dX10_word_2 fl_1348 ly_61 rfl rfl rfl (zi_bg (fun g1 => ?_))
  refine zi_aload0 (pc := 5) hX dX10_word_5 ?_
  refine zi_iload1 (pc := 6) hX dX10_word_6 ?_
  refine zi_if_lt (pc := 7) 46 hX dX10_word_7 (by decide) (fun _ => ?_) (fun _ => ?_)
  · exact zp_Mo_word_46 hX p1 p2 p3 p4 g1
  · refine zi_iload1 (pc := 10) hX dX10_word_10 ?_
    refine zi_aload0 (pc := 11) hX dX10_word_11 ?_
    refine zi_geti (pc := 12) hX dX10_word_12 fl_1349 ly_61 rfl ?_
    refine zi_icmp_ge (pc := 15) 46 hX dX10_word_15 (by decide) (fun _ => ?_) (fun _ => ?_)
    · exact zp_Mo_word_46 hX p1 p2 p3 p4 g1
    · refine zi_iload2 (pc := 18) hX dX10_word_18 ?_
      refine zi_iconst (pc := 19) hX dX10_word_19 ki_0 ?_
      refine zi_iconst (pc := 20) hX dX10_word_20 ki_2 ?_
      refine zi_callI (zc_stat (pc := 21) hX dX10_word_21 tm_1683 md_X10_within st_X10_within (ct_Mo_within hX.sane p2 (0 : Int32) (2 : Int32) g1) rfl rfl rfl) (fun v8 g9 => ?_)
      refine zi_if_eq (pc := 24) 46 hX dX10_word_24 (by decide) (fun _ => ?_) (fun _ => ?_)
      · exact zp_Mo_word_46 hX p1 p2 p3 p4 g9
      · refine zi_iload3 (pc := 27) hX dX10_word_27 ?_
        refine zi_iconst (pc := 28) hX dX10_word_28 ki_0 ?_
        refine zi_iconst (pc := 29) hX dX10_word_29 ki_4 ?_
        refine zi_callI (zc_stat (pc := 30) hX dX10_word_30 tm_1683 md_X10_within st_X10_within (ct_Mo_within hX.sane p3 (0 : Int32) (4 : Int32) g9) rfl rfl rfl) (fun v10 g11 => ?_)
        refine zi_if_eq (pc := 33) 46 hX dX10_word_33 (by decide) (fun _ => ?_) (fun _ => ?_)
        · exact zp_Mo_word_46 hX p1 p2 p3 p4 g11
        · refine zi_iload4 (pc := 36) hX dX10_word_36 ?_
          refine zi_iconst (pc := 38) hX dX10_word_38 ki_m1 ?_
          refine zi_icmp_lt (pc := 39) 46 hX dX10_word_39 (by decide) (fun _ => ?_) (fun _ => ?_)
          · exact zp_Mo_word_46 hX p1 p2 p3 p4 g11
          · refine zi_iconst (pc := 42) hX dX10_word_42 ki_1 ?_
            refine zi_goto (pc := 43) 47 hX dX10_word_43 (by decide) ?_
            exact zp_Mo_word_47 hX p1 p2 p3 p4 (1 : Int32) g11
theorem ct_Mo_word {w : et_W} (hw : et_Sane w) (p1 : Int32) (p2 : Int32) (p3 : Int32) (p4 : Int32) (g : et_G) : et_C w yX10_word (Cond.code yX10_word cX10_word 5 (some .int)) rm_Mo_word et_eI [.ref (et_ad w 61), .int p1, .int p2, .int p3, .int p4] g (fn_Mo_word p1 p2 p3 p4 g) := et_mk hw (by decide) rfl rfl (fun X hX => zw_Mo_word hX p1 p2 p3 p4 g)
def rm_Mo_worlds : Room := { frames := 1, cells := 0, slots := 0, locals := 22 }
def fn_Mo_worlds_33 (x1 : Int32) (s0 : Int32) (g : et_G) : Option (Int32 × et_G) :=
  et_bd (fn_Mo_right s0 (1 : Int32) g) (fun v2 g3 =>
  if v2 = 0 then
    some ((0 : Int32), g3)
  else
    et_b (et_si g3 61 67 x1) (fun g4 =>
    et_bd (fn_Mo_bits x1 g4) (fun v5 g6 =>
    et_b (et_si g6 61 68 (((1 : Int32) <<< (((1 : Int32) <<< (v5 &&& 31)) &&& 31)) - (1 : Int32))) (fun g7 =>
    et_bd (fn_Mo_bits (g7.1 61 68) g7) (fun v8 g9 =>
    some (v8, g9))))))
def fn_Mo_worlds_32 (x1 : Int32) (g : et_G) : Option (Int32 × et_G) :=
  fn_Mo_worlds_33 x1 (0 : Int32) g
def fn_Mo_worlds (p1 : Int32) (g : et_G) : Option (Int32 × et_G) :=
  et_b (et_si g 61 0 (0 : Int32)) (fun g1 =>
  if p1 ≤ 0 then
    fn_Mo_worlds_32 p1 g1
  else
    if ((1 : Int32) <<< ((g1.1 61 5) &&& 31)) ≤ p1 then
      fn_Mo_worlds_32 p1 g1
    else
      et_bd (fn_Mo_bits p1 g1) (fun v10 g11 =>
      if (4 : Int32) < v10 then
        fn_Mo_worlds_32 p1 g11
      else
        fn_Mo_worlds_33 p1 (1 : Int32) g11))
theorem zp_Mo_worlds_33 {X : et_X} {w : et_W} (hX : et_Gd X w cX10_worlds RX10 2 (some .int) [] rm_Mo_worlds) (x1 : Int32) (s0 : Int32) (g : et_G) : et_Z X w 0 et_eI 33 [some (.ref (et_ad w 61)), some (.int x1)] [.int s0, .ref (et_ad w 61)] g (fn_Mo_worlds_33 x1 s0 g) := by
  unfold fn_Mo_worlds_33
  refine zi_iconst (pc := 33) hX dX10_worlds_33 ki_1 ?_
  refine zi_callI (zc_virt (pc := 34) hX dX10_worlds_34 tm_1587 md_X10_right mi_X10_right ly_61 (ct_Mo_right hX.sane s0 (1 : Int32) g) rfl rfl rfl) (fun v2 g3 => ?_)
  refine zi_if_ne (pc := 37) 42 hX dX10_worlds_37 (by decide) (fun _ => ?_) (fun _ => ?_)
  · refine zi_iconst (pc := 40) hX dX10_worlds_40 ki_0 ?_
    exact zi_ret (pc := 41) hX dX10_worlds_41 rfl rfl rfl rfl
  · refine zi_aload0 (pc := 42) hX dX10_worlds_42 ?_
    refine zi_iload1 (pc := 43) hX dX10_worlds_43 ?_
    refine zi_puti (pc := 44) hX dX10_worlds_44 fl_1415 ly_61 rfl rfl rfl (zi_bg (fun g4 => ?_))
    refine zi_aload0 (pc := 47) hX dX10_worlds_47 ?_
    refine zi_iconst (pc := 48) hX dX10_worlds_48 ki_1 ?_
    refine zi_iconst (pc := 49) hX dX10_worlds_49 ki_1 ?_
    refine zi_iload1 (pc := 50) hX dX10_worlds_50 ?_
    refine zi_callI (zc_stat (pc := 51) hX dX10_worlds_51 tm_1686 md_X10_bits st_X10_bits (ct_Mo_bits hX.sane x1 g4) rfl rfl rfl) (fun v5 g6 => ?_)
    refine zi_ishl (pc := 54) hX dX10_worlds_54 ?_
    refine zi_ishl (pc := 55) hX dX10_worlds_55 ?_
    refine zi_iconst (pc := 56) hX dX10_worlds_56 ki_1 ?_
    refine zi_isub (pc := 57) hX dX10_worlds_57 ?_
    refine zi_puti (pc := 58) hX dX10_worlds_58 fl_1416 ly_61 rfl rfl rfl (zi_bg (fun g7 => ?_))
    refine zi_aload0 (pc := 61) hX dX10_worlds_61 ?_
    refine zi_geti (pc := 62) hX dX10_worlds_62 fl_1416 ly_61 rfl ?_
    refine zi_callI (zc_stat (pc := 65) hX dX10_worlds_65 tm_1686 md_X10_bits st_X10_bits (ct_Mo_bits hX.sane (g7.1 61 68) g7) rfl rfl rfl) (fun v8 g9 => ?_)
    exact zi_ret (pc := 68) hX dX10_worlds_68 rfl rfl rfl rfl
theorem zp_Mo_worlds_32 {X : et_X} {w : et_W} (hX : et_Gd X w cX10_worlds RX10 2 (some .int) [] rm_Mo_worlds) (x1 : Int32) (g : et_G) : et_Z X w 0 et_eI 32 [some (.ref (et_ad w 61)), some (.int x1)] [.ref (et_ad w 61)] g (fn_Mo_worlds_32 x1 g) := by
  unfold fn_Mo_worlds_32
  refine zi_iconst (pc := 32) hX dX10_worlds_32 ki_0 ?_
  exact zp_Mo_worlds_33 hX x1 (0 : Int32) g
theorem zw_Mo_worlds {X : et_X} {w : et_W} (hX : et_Gd X w cX10_worlds RX10 2 (some .int) [] rm_Mo_worlds) (p1 : Int32) (g : et_G) : et_Z X w 0 et_eI 0 [some (.ref (et_ad w 61)), some (.int p1)] [] g (fn_Mo_worlds p1 g) := by
  unfold fn_Mo_worlds
  refine zi_aload0 (pc := 0) hX dX10_worlds_0 ?_
  refine zi_iconst (pc := 1) hX dX10_worlds_1 ki_0 ?_
  refine zi_puti (pc := 2) hX dX10_worlds_2 fl_1348 ly_61 rfl rfl rfl (zi_bg (fun g1 => ?_))
  refine zi_aload0 (pc := 5) hX dX10_worlds_5 ?_
  refine zi_iload1 (pc := 6) hX dX10_worlds_6 ?_
  refine zi_if_le (pc := 7) 32 hX dX10_worlds_7 (by decide) (fun _ => ?_) (fun _ => ?_)
  · exact zp_Mo_worlds_32 hX p1 g1
  · refine zi_iload1 (pc := 10) hX dX10_worlds_10 ?_
    refine zi_iconst (pc := 11) hX dX10_worlds_11 ki_1 ?_
    refine zi_aload0 (pc := 12) hX dX10_worlds_12 ?_
    refine zi_geti (pc := 13) hX dX10_worlds_13 fl_1353 ly_61 rfl ?_
    refine zi_ishl (pc := 16) hX dX10_worlds_16 ?_
    refine zi_icmp_ge (pc := 17) 32 hX dX10_worlds_17 (by decide) (fun _ => ?_) (fun _ => ?_)
    · exact zp_Mo_worlds_32 hX p1 g1
    · refine zi_iload1 (pc := 20) hX dX10_worlds_20 ?_
      refine zi_callI (zc_stat (pc := 21) hX dX10_worlds_21 tm_1686 md_X10_bits st_X10_bits (ct_Mo_bits hX.sane p1 g1) rfl rfl rfl) (fun v10 g11 => ?_)
      refine zi_iconst (pc := 24) hX dX10_worlds_24 ki_4 ?_
      refine zi_icmp_gt (pc := 25) 32 hX dX10_worlds_25 (by decide) (fun _ => ?_) (fun _ => ?_)
      · exact zp_Mo_worlds_32 hX p1 g11
      · refine zi_iconst (pc := 28) hX dX10_worlds_28 ki_1 ?_
        refine zi_goto (pc := 29) 33 hX dX10_worlds_29 (by decide) ?_
        exact zp_Mo_worlds_33 hX p1 (1 : Int32) g11
theorem ct_Mo_worlds {w : et_W} (hw : et_Sane w) (p1 : Int32) (g : et_G) : et_C w yX10_worlds (Cond.code yX10_worlds cX10_worlds 2 (some .int)) rm_Mo_worlds et_eI [.ref (et_ad w 61), .int p1] g (fn_Mo_worlds p1 g) := et_mk hw (by decide) rfl rfl (fun X hX => zw_Mo_worlds hX p1 g)
