def fn_La_law_0 (L : Nat) (xs : Nat → Int32) (r23 : Int32 → et_G → Option (Int32 × et_G)) (x4 : Int32) (g : et_G) : Option (Int32 × et_G) :=
  et_ck (et_ib (x4 + (1 : Int32)) L) (
  et_ck (et_ib (x4 + (2 : Int32)) L) (
  et_ck (et_ib (x4 + (3 : Int32)) L) (
  et_ck (et_ib (x4 + (4 : Int32)) L) (
  et_ck (et_ib (x4 + (5 : Int32)) L) (
  et_bd (fn_Et_feed (xs (x4 + (1 : Int32)).toNatClampNeg) (xs (x4 + (2 : Int32)).toNatClampNeg) (xs (x4 + (3 : Int32)).toNatClampNeg) (xs (x4 + (4 : Int32)).toNatClampNeg) (xs (x4 + (5 : Int32)).toNatClampNeg) g) (fun v1 g2 =>
  et_ck (et_ib (x4 + (1 : Int32)) L) (
  et_ck (et_ib (x4 + (2 : Int32)) L) (
  et_ck (et_ib (x4 + (3 : Int32)) L) (
  et_ck (et_ib (x4 + (4 : Int32)) L) (
  et_ck (et_ib (x4 + (5 : Int32)) L) (
  et_bd (fn_Mo_feed (xs (x4 + (1 : Int32)).toNatClampNeg) (xs (x4 + (2 : Int32)).toNatClampNeg) (xs (x4 + (3 : Int32)).toNatClampNeg) (xs (x4 + (4 : Int32)).toNatClampNeg) (xs (x4 + (5 : Int32)).toNatClampNeg) g2) (fun v3 g4 =>
  if v1 = v3 then
    r23 (x4 + (6 : Int32)) g4
  else
    some ((0 : Int32), g4)))))))))))))
theorem zl_0 {X : et_X} {w : et_W} {L : Nat} {xs : Nat → Int32} (hX : et_Gd X w code RL 7 (some .boolean) [] room_1) (hsc : et_Sc X w L xs) {u : Nat} (hu : u ≤ 20000 - 10) (r23 : Int32 → et_G → Option (Int32 × et_G)) (x4 : Int32) (hr : ∀ u2, u2 ≤ u + 3 → ∀ (g : et_G), et_Z X w u2 et_eI 23 [some (.ref (et_ad w 3000)), some (.ref (et_ad w 0)), some (.ref (et_ad w 61)), some (.ref (et_ad w 96)), some (.int (x4 + (6 : Int32))), none, none] [] g (r23 (x4 + (6 : Int32)) g)) (g : et_G) : et_Z X w u et_eI 152 [some (.ref (et_ad w 3000)), some (.ref (et_ad w 0)), some (.ref (et_ad w 61)), some (.ref (et_ad w 96)), some (.int x4), none, none] [] g (fn_La_law_0 L xs r23 x4 g) := by
  have hu0 : u ≤ 19990 := hu
  have hu : u ≤ 20000 := by omega
  unfold fn_La_law_0
  refine zi_aload1 (pc := 152) hX dL_law_152 ?_
  refine zi_aload0 (pc := 153) hX dL_law_153 ?_
  refine zi_iload4 (pc := 154) hX dL_law_154 ?_
  refine zi_iconst (pc := 156) hX dL_law_156 ki_1 ?_
  refine zi_iadd (pc := 157) hX dL_law_157 ?_
  refine zi_scr (pc := 158) hX hsc dL_law_158 ?_
  refine zi_aload0 (pc := 159) hX dL_law_159 ?_
  refine zi_iload4 (pc := 160) hX dL_law_160 ?_
  refine zi_iconst (pc := 162) hX dL_law_162 ki_2 ?_
  refine zi_iadd (pc := 163) hX dL_law_163 ?_
  refine zi_scr (pc := 164) hX hsc dL_law_164 ?_
  refine zi_aload0 (pc := 165) hX dL_law_165 ?_
  refine zi_iload4 (pc := 166) hX dL_law_166 ?_
  refine zi_iconst (pc := 168) hX dL_law_168 ki_3 ?_
  refine zi_iadd (pc := 169) hX dL_law_169 ?_
  refine zi_scr (pc := 170) hX hsc dL_law_170 ?_
  refine zi_aload0 (pc := 171) hX dL_law_171 ?_
  refine zi_iload4 (pc := 172) hX dL_law_172 ?_
  refine zi_iconst (pc := 174) hX dL_law_174 ki_4 ?_
  refine zi_iadd (pc := 175) hX dL_law_175 ?_
  refine zi_scr (pc := 176) hX hsc dL_law_176 ?_
  refine zi_aload0 (pc := 177) hX dL_law_177 ?_
  refine zi_iload4 (pc := 178) hX dL_law_178 ?_
  refine zi_iconst (pc := 180) hX dL_law_180 ki_5 ?_
  refine zi_iadd (pc := 181) hX dL_law_181 ?_
  refine zi_scr (pc := 182) hX hsc dL_law_182 ?_
  refine zi_callI (zc_virt (pc := 183) hX dL_law_183 tm_546 md_X9_feed mi_X9_feed ly_0 (ct_Et_feed hX.sane (xs (x4 + (1 : Int32)).toNatClampNeg) (xs (x4 + (2 : Int32)).toNatClampNeg) (xs (x4 + (3 : Int32)).toNatClampNeg) (xs (x4 + (4 : Int32)).toNatClampNeg) (xs (x4 + (5 : Int32)).toNatClampNeg) g) rfl rfl (et_rsL rfl hu)) (fun v1 g2 => ?_)
  have hu2 : u + rm_Et_feed.cells ≤ 20000 := by have e0 : rm_Et_feed.cells = 0 := rfl; omega
  refine zi_aload2 (pc := 186) hX dL_law_186 ?_
  refine zi_aload0 (pc := 187) hX dL_law_187 ?_
  refine zi_iload4 (pc := 188) hX dL_law_188 ?_
  refine zi_iconst (pc := 190) hX dL_law_190 ki_1 ?_
  refine zi_iadd (pc := 191) hX dL_law_191 ?_
  refine zi_scr (pc := 192) hX hsc dL_law_192 ?_
  refine zi_aload0 (pc := 193) hX dL_law_193 ?_
  refine zi_iload4 (pc := 194) hX dL_law_194 ?_
  refine zi_iconst (pc := 196) hX dL_law_196 ki_2 ?_
  refine zi_iadd (pc := 197) hX dL_law_197 ?_
  refine zi_scr (pc := 198) hX hsc dL_law_198 ?_
  refine zi_aload0 (pc := 199) hX dL_law_199 ?_
  refine zi_iload4 (pc := 200) hX dL_law_200 ?_
  refine zi_iconst (pc := 202) hX dL_law_202 ki_3 ?_
  refine zi_iadd (pc := 203) hX dL_law_203 ?_
  refine zi_scr (pc := 204) hX hsc dL_law_204 ?_
  refine zi_aload0 (pc := 205) hX dL_law_205 ?_
  refine zi_iload4 (pc := 206) hX dL_law_206 ?_
  refine zi_iconst (pc := 208) hX dL_law_208 ki_4 ?_
  refine zi_iadd (pc := 209) hX dL_law_209 ?_
  refine zi_scr (pc := 210) hX hsc dL_law_210 ?_
  refine zi_aload0 (pc := 211) hX dL_law_211 ?_
  refine zi_iload4 (pc := 212) hX dL_law_212 ?_
  refine zi_iconst (pc := 214) hX dL_law_214 ki_5 ?_
  refine zi_iadd (pc := 215) hX dL_law_215 ?_
  refine zi_scr (pc := 216) hX hsc dL_law_216 ?_
  refine zi_callI (zc_virt (pc := 217) hX dL_law_217 tm_1575 md_X10_feed mi_X10_feed ly_61 (ct_Mo_feed hX.sane (xs (x4 + (1 : Int32)).toNatClampNeg) (xs (x4 + (2 : Int32)).toNatClampNeg) (xs (x4 + (3 : Int32)).toNatClampNeg) (xs (x4 + (4 : Int32)).toNatClampNeg) (xs (x4 + (5 : Int32)).toNatClampNeg) g2) rfl rfl (et_rsL rfl hu2)) (fun v3 g4 => ?_)
  have hu4 : u + rm_Et_feed.cells + rm_Mo_feed.cells ≤ 20000 := by have e0 : rm_Et_feed.cells = 0 := rfl; have e1 : rm_Mo_feed.cells = 0 := rfl; omega
  refine zi_icmp_eq (pc := 220) 1631 hX dL_law_220 (by decide) (fun _ => ?_) (fun _ => ?_)
  · refine zi_iinc4 (pc := 1631) hX dL_law_1631 (kn_6 _) rfl rfl ?_
    refine zi_goto (pc := 1634) 23 hX dL_law_1634 (by decide) ?_
    exact hr _ (by have e0 : rm_Et_feed.cells = 0 := rfl; have e1 : rm_Mo_feed.cells = 0 := rfl; omega) g4
  · refine zi_iconst (pc := 223) hX dL_law_223 ki_0 ?_
    exact zi_ret (pc := 224) hX dL_law_224 et_z0 rfl (et_lc hu4) (et_ls hu4)
def fn_La_law_1 (L : Nat) (xs : Nat → Int32) (r23 : Int32 → et_G → Option (Int32 × et_G)) (x4 : Int32) (g : et_G) : Option (Int32 × et_G) :=
  et_ck (et_ib (x4 + (1 : Int32)) L) (
  et_bd (fn_La_village (xs (x4 + (1 : Int32)).toNatClampNeg) g) (fun v1 g2 =>
  et_ck (et_ib (x4 + (1 : Int32)) L) (
  et_bd (fn_Mo_village (xs (x4 + (1 : Int32)).toNatClampNeg) g2) (fun v3 g4 =>
  et_bd (fn_Mo_thrown g4) (fun v5 g6 =>
  if v5 = v1 then
    if v1 = 0 then
      et_ck (et_ib (0 : Int32) 1) (
      if (lg_cmp (g6.2 96 (0 : Int32).toNatClampNeg) (v3.toInt64)) = 0 then
        r23 (x4 + (6 : Int32)) g6
      else
        some ((0 : Int32), g6))
    else
      r23 (x4 + (6 : Int32)) g6
  else
    some ((0 : Int32), g6))))))
theorem zl_1 {X : et_X} {w : et_W} {L : Nat} {xs : Nat → Int32} (hX : et_Gd X w code RL 7 (some .boolean) [] room_1) (hsc : et_Sc X w L xs) {u : Nat} (hu : u ≤ 20000 - 10) (r23 : Int32 → et_G → Option (Int32 × et_G)) (x4 : Int32) (hr : ∀ u2, u2 ≤ u + 3 → ∀ (g : et_G), et_Z X w u2 et_eI 23 [some (.ref (et_ad w 3000)), some (.ref (et_ad w 0)), some (.ref (et_ad w 61)), some (.ref (et_ad w 96)), some (.int (x4 + (6 : Int32))), none, none] [] g (r23 (x4 + (6 : Int32)) g)) (g : et_G) : et_Z X w u et_eI 225 [some (.ref (et_ad w 3000)), some (.ref (et_ad w 0)), some (.ref (et_ad w 61)), some (.ref (et_ad w 96)), some (.int x4), none, none] [] g (fn_La_law_1 L xs r23 x4 g) := by
  have hu0 : u ≤ 19990 := hu
  have hu : u ≤ 20000 := by omega
  unfold fn_La_law_1
  refine zi_aload1 (pc := 225) hX dL_law_225 ?_
  refine zi_aload0 (pc := 226) hX dL_law_226 ?_
  refine zi_iload4 (pc := 227) hX dL_law_227 ?_
  refine zi_iconst (pc := 229) hX dL_law_229 ki_1 ?_
  refine zi_iadd (pc := 230) hX dL_law_230 ?_
  refine zi_scr (pc := 231) hX hsc dL_law_231 ?_
  refine zi_aload3 (pc := 232) hX dL_law_232 ?_
  refine zi_callI (zc_statW (pc := 233) hX dL_law_233 tm_699 md_L_village st_L_village (ct_La_village hX.sane (xs (x4 + (1 : Int32)).toNatClampNeg) g) rfl rfl (et_rsL rfl hu)) (fun v1 g2 => ?_)
  have hu2 : u + rm_La_village.cells ≤ 20000 := by have e0 : rm_La_village.cells = 1 := rfl; omega
  refine zi_istore5 (pc := 236) hX dL_law_236 rfl rfl ?_
  refine zi_aload2 (pc := 238) hX dL_law_238 ?_
  refine zi_aload0 (pc := 239) hX dL_law_239 ?_
  refine zi_iload4 (pc := 240) hX dL_law_240 ?_
  refine zi_iconst (pc := 242) hX dL_law_242 ki_1 ?_
  refine zi_iadd (pc := 243) hX dL_law_243 ?_
  refine zi_scr (pc := 244) hX hsc dL_law_244 ?_
  refine zi_callI (zc_virt (pc := 245) hX dL_law_245 tm_1583 md_X10_village mi_X10_village ly_61 (ct_Mo_village hX.sane (xs (x4 + (1 : Int32)).toNatClampNeg) g2) rfl rfl (et_rsL rfl hu2)) (fun v3 g4 => ?_)
  have hu4 : u + rm_La_village.cells + rm_Mo_village.cells ≤ 20000 := by have e0 : rm_La_village.cells = 1 := rfl; have e1 : rm_Mo_village.cells = 0 := rfl; omega
  refine zi_istore6 (pc := 248) hX dL_law_248 rfl rfl ?_
  refine zi_aload2 (pc := 250) hX dL_law_250 ?_
  refine zi_callI (zc_virt (pc := 251) hX dL_law_251 tm_1571 md_X10_thrown mi_X10_thrown ly_61 (ct_Mo_thrown hX.sane g4) rfl rfl (et_rsL rfl hu4)) (fun v5 g6 => ?_)
  have hu6 : u + rm_La_village.cells + rm_Mo_village.cells + rm_Mo_thrown.cells ≤ 20000 := by have e0 : rm_La_village.cells = 1 := rfl; have e1 : rm_Mo_village.cells = 0 := rfl; have e2 : rm_Mo_thrown.cells = 0 := rfl; omega
  refine zi_iload5 (pc := 254) hX dL_law_254 ?_
  refine zi_icmp_eq (pc := 256) 261 hX dL_law_256 (by decide) (fun _ => ?_) (fun _ => ?_)
  · refine zi_iload5 (pc := 261) hX dL_law_261 ?_
    refine zi_if_ne (pc := 263) 278 hX dL_law_263 (by decide) (fun _ => ?_) (fun _ => ?_)
    · refine zi_aload3 (pc := 266) hX dL_law_266 ?_
      refine zi_iconst (pc := 267) hX dL_law_267 ki_0 ?_
      refine zi_lald (pc := 268) hX dL_law_268 ly_96 ?_
      refine zi_iload6 (pc := 269) hX dL_law_269 ?_
      refine zi_i2l (pc := 271) hX dL_law_271 ?_
      refine zi_lcmp (pc := 272) hX dL_law_272 ?_
      refine zi_if_eq (pc := 273) 278 hX dL_law_273 (by decide) (fun _ => ?_) (fun _ => ?_)
      · refine zi_goto (pc := 278) 1631 hX dL_law_278 (by decide) ?_
        refine zi_iinc4 (pc := 1631) hX dL_law_1631 (kn_6 _) rfl rfl ?_
        refine zi_goto (pc := 1634) 23 hX dL_law_1634 (by decide) ?_
        refine zi_drop (le_s (le_s (le_s (le_s (le_s (le_n (le_n le_nil))))))) ?_; exact hr _ (by have e0 : rm_La_village.cells = 1 := rfl; have e1 : rm_Mo_village.cells = 0 := rfl; have e2 : rm_Mo_thrown.cells = 0 := rfl; omega) g6
      · refine zi_iconst (pc := 276) hX dL_law_276 ki_0 ?_
        exact zi_ret (pc := 277) hX dL_law_277 et_z0 rfl (et_lc hu6) (et_ls hu6)
    · refine zi_goto (pc := 278) 1631 hX dL_law_278 (by decide) ?_
      refine zi_iinc4 (pc := 1631) hX dL_law_1631 (kn_6 _) rfl rfl ?_
      refine zi_goto (pc := 1634) 23 hX dL_law_1634 (by decide) ?_
      refine zi_drop (le_s (le_s (le_s (le_s (le_s (le_n (le_n le_nil))))))) ?_; exact hr _ (by have e0 : rm_La_village.cells = 1 := rfl; have e1 : rm_Mo_village.cells = 0 := rfl; have e2 : rm_Mo_thrown.cells = 0 := rfl; omega) g6
  · refine zi_iconst (pc := 259) hX dL_law_259 ki_0 ?_
    exact zi_ret (pc := 260) hX dL_law_260 et_z0 rfl (et_lc hu6) (et_ls hu6)
def fn_La_law_2 (L : Nat) (xs : Nat → Int32) (r23 : Int32 → et_G → Option (Int32 × et_G)) (x4 : Int32) (g : et_G) : Option (Int32 × et_G) :=
  et_bd (fn_Et_fault g) (fun v1 g2 =>
  et_bd (fn_Mo_fault g2) (fun v3 g4 =>
  if v1 = v3 then
    r23 (x4 + (6 : Int32)) g4
  else
    some ((0 : Int32), g4)))
theorem zl_2 {X : et_X} {w : et_W} {L : Nat} {xs : Nat → Int32} (hX : et_Gd X w code RL 7 (some .boolean) [] room_1) (hsc : et_Sc X w L xs) {u : Nat} (hu : u ≤ 20000 - 10) (r23 : Int32 → et_G → Option (Int32 × et_G)) (x4 : Int32) (hr : ∀ u2, u2 ≤ u + 3 → ∀ (g : et_G), et_Z X w u2 et_eI 23 [some (.ref (et_ad w 3000)), some (.ref (et_ad w 0)), some (.ref (et_ad w 61)), some (.ref (et_ad w 96)), some (.int (x4 + (6 : Int32))), none, none] [] g (r23 (x4 + (6 : Int32)) g)) (g : et_G) : et_Z X w u et_eI 281 [some (.ref (et_ad w 3000)), some (.ref (et_ad w 0)), some (.ref (et_ad w 61)), some (.ref (et_ad w 96)), some (.int x4), none, none] [] g (fn_La_law_2 L xs r23 x4 g) := by
  have hu0 : u ≤ 19990 := hu
  have hu : u ≤ 20000 := by omega
  unfold fn_La_law_2
  refine zi_aload1 (pc := 281) hX dL_law_281 ?_
  refine zi_callI (zc_virt (pc := 282) hX dL_law_282 tm_554 md_X9_fault mi_X9_fault ly_0 (ct_Et_fault hX.sane g) rfl rfl (et_rsL rfl hu)) (fun v1 g2 => ?_)
  have hu2 : u + rm_Et_fault.cells ≤ 20000 := by have e0 : rm_Et_fault.cells = 0 := rfl; omega
  refine zi_aload2 (pc := 285) hX dL_law_285 ?_
  refine zi_callI (zc_virt (pc := 286) hX dL_law_286 tm_1675 md_X10_fault mi_X10_fault ly_61 (ct_Mo_fault hX.sane g2) rfl rfl (et_rsL rfl hu2)) (fun v3 g4 => ?_)
  have hu4 : u + rm_Et_fault.cells + rm_Mo_fault.cells ≤ 20000 := by have e0 : rm_Et_fault.cells = 0 := rfl; have e1 : rm_Mo_fault.cells = 0 := rfl; omega
  refine zi_icmp_eq (pc := 289) 1631 hX dL_law_289 (by decide) (fun _ => ?_) (fun _ => ?_)
  · refine zi_iinc4 (pc := 1631) hX dL_law_1631 (kn_6 _) rfl rfl ?_
    refine zi_goto (pc := 1634) 23 hX dL_law_1634 (by decide) ?_
    exact hr _ (by have e0 : rm_Et_fault.cells = 0 := rfl; have e1 : rm_Mo_fault.cells = 0 := rfl; omega) g4
  · refine zi_iconst (pc := 292) hX dL_law_292 ki_0 ?_
    exact zi_ret (pc := 293) hX dL_law_293 et_z0 rfl (et_lc hu4) (et_ls hu4)
def fn_La_law_3 (L : Nat) (xs : Nat → Int32) (r23 : Int32 → et_G → Option (Int32 × et_G)) (x4 : Int32) (g : et_G) : Option (Int32 × et_G) :=
  et_ck (et_ib (x4 + (1 : Int32)) L) (
  et_bd (fn_La_count (xs (x4 + (1 : Int32)).toNatClampNeg) g) (fun v1 g2 =>
  et_ck (et_ib (x4 + (1 : Int32)) L) (
  et_bd (fn_Mo_count (xs (x4 + (1 : Int32)).toNatClampNeg) g2) (fun v3 g4 =>
  et_bd (fn_Mo_thrown g4) (fun v5 g6 =>
  if v5 = v1 then
    if v1 = 0 then
      et_ck (et_ib (0 : Int32) 1) (
      if (lg_cmp (g6.2 96 (0 : Int32).toNatClampNeg) (v3.toInt64)) = 0 then
        r23 (x4 + (6 : Int32)) g6
      else
        some ((0 : Int32), g6))
    else
      r23 (x4 + (6 : Int32)) g6
  else
    some ((0 : Int32), g6))))))
theorem zl_3 {X : et_X} {w : et_W} {L : Nat} {xs : Nat → Int32} (hX : et_Gd X w code RL 7 (some .boolean) [] room_1) (hsc : et_Sc X w L xs) {u : Nat} (hu : u ≤ 20000 - 10) (r23 : Int32 → et_G → Option (Int32 × et_G)) (x4 : Int32) (hr : ∀ u2, u2 ≤ u + 3 → ∀ (g : et_G), et_Z X w u2 et_eI 23 [some (.ref (et_ad w 3000)), some (.ref (et_ad w 0)), some (.ref (et_ad w 61)), some (.ref (et_ad w 96)), some (.int (x4 + (6 : Int32))), none, none] [] g (r23 (x4 + (6 : Int32)) g)) (g : et_G) : et_Z X w u et_eI 294 [some (.ref (et_ad w 3000)), some (.ref (et_ad w 0)), some (.ref (et_ad w 61)), some (.ref (et_ad w 96)), some (.int x4), none, none] [] g (fn_La_law_3 L xs r23 x4 g) := by
  have hu0 : u ≤ 19990 := hu
  have hu : u ≤ 20000 := by omega
  unfold fn_La_law_3
  refine zi_aload1 (pc := 294) hX dL_law_294 ?_
  refine zi_aload0 (pc := 295) hX dL_law_295 ?_
  refine zi_iload4 (pc := 296) hX dL_law_296 ?_
  refine zi_iconst (pc := 298) hX dL_law_298 ki_1 ?_
  refine zi_iadd (pc := 299) hX dL_law_299 ?_
  refine zi_scr (pc := 300) hX hsc dL_law_300 ?_
  refine zi_aload3 (pc := 301) hX dL_law_301 ?_
  refine zi_callI (zc_statW (pc := 302) hX dL_law_302 tm_1000 md_L_count st_L_count (ct_La_count hX.sane (xs (x4 + (1 : Int32)).toNatClampNeg) g) rfl rfl (et_rsL rfl hu)) (fun v1 g2 => ?_)
  have hu2 : u + rm_La_count.cells ≤ 20000 := by have e0 : rm_La_count.cells = 1 := rfl; omega
  refine zi_istore5 (pc := 305) hX dL_law_305 rfl rfl ?_
  refine zi_aload2 (pc := 307) hX dL_law_307 ?_
  refine zi_aload0 (pc := 308) hX dL_law_308 ?_
  refine zi_iload4 (pc := 309) hX dL_law_309 ?_
  refine zi_iconst (pc := 311) hX dL_law_311 ki_1 ?_
  refine zi_iadd (pc := 312) hX dL_law_312 ?_
  refine zi_scr (pc := 313) hX hsc dL_law_313 ?_
  refine zi_callI (zc_virt (pc := 314) hX dL_law_314 tm_1679 md_X10_count mi_X10_count ly_61 (ct_Mo_count hX.sane (xs (x4 + (1 : Int32)).toNatClampNeg) g2) rfl rfl (et_rsL rfl hu2)) (fun v3 g4 => ?_)
  have hu4 : u + rm_La_count.cells + rm_Mo_count.cells ≤ 20000 := by have e0 : rm_La_count.cells = 1 := rfl; have e1 : rm_Mo_count.cells = 0 := rfl; omega
  refine zi_istore6 (pc := 317) hX dL_law_317 rfl rfl ?_
  refine zi_aload2 (pc := 319) hX dL_law_319 ?_
  refine zi_callI (zc_virt (pc := 320) hX dL_law_320 tm_1571 md_X10_thrown mi_X10_thrown ly_61 (ct_Mo_thrown hX.sane g4) rfl rfl (et_rsL rfl hu4)) (fun v5 g6 => ?_)
  have hu6 : u + rm_La_count.cells + rm_Mo_count.cells + rm_Mo_thrown.cells ≤ 20000 := by have e0 : rm_La_count.cells = 1 := rfl; have e1 : rm_Mo_count.cells = 0 := rfl; have e2 : rm_Mo_thrown.cells = 0 := rfl; omega
  refine zi_iload5 (pc := 323) hX dL_law_323 ?_
  refine zi_icmp_eq (pc := 325) 330 hX dL_law_325 (by decide) (fun _ => ?_) (fun _ => ?_)
  · refine zi_iload5 (pc := 330) hX dL_law_330 ?_
    refine zi_if_ne (pc := 332) 347 hX dL_law_332 (by decide) (fun _ => ?_) (fun _ => ?_)
    · refine zi_aload3 (pc := 335) hX dL_law_335 ?_
      refine zi_iconst (pc := 336) hX dL_law_336 ki_0 ?_
      refine zi_lald (pc := 337) hX dL_law_337 ly_96 ?_
      refine zi_iload6 (pc := 338) hX dL_law_338 ?_
      refine zi_i2l (pc := 340) hX dL_law_340 ?_
      refine zi_lcmp (pc := 341) hX dL_law_341 ?_
      refine zi_if_eq (pc := 342) 347 hX dL_law_342 (by decide) (fun _ => ?_) (fun _ => ?_)
      · refine zi_goto (pc := 347) 1631 hX dL_law_347 (by decide) ?_
        refine zi_iinc4 (pc := 1631) hX dL_law_1631 (kn_6 _) rfl rfl ?_
        refine zi_goto (pc := 1634) 23 hX dL_law_1634 (by decide) ?_
        refine zi_drop (le_s (le_s (le_s (le_s (le_s (le_n (le_n le_nil))))))) ?_; exact hr _ (by have e0 : rm_La_count.cells = 1 := rfl; have e1 : rm_Mo_count.cells = 0 := rfl; have e2 : rm_Mo_thrown.cells = 0 := rfl; omega) g6
      · refine zi_iconst (pc := 345) hX dL_law_345 ki_0 ?_
        exact zi_ret (pc := 346) hX dL_law_346 et_z0 rfl (et_lc hu6) (et_ls hu6)
    · refine zi_goto (pc := 347) 1631 hX dL_law_347 (by decide) ?_
      refine zi_iinc4 (pc := 1631) hX dL_law_1631 (kn_6 _) rfl rfl ?_
      refine zi_goto (pc := 1634) 23 hX dL_law_1634 (by decide) ?_
      refine zi_drop (le_s (le_s (le_s (le_s (le_s (le_n (le_n le_nil))))))) ?_; exact hr _ (by have e0 : rm_La_count.cells = 1 := rfl; have e1 : rm_Mo_count.cells = 0 := rfl; have e2 : rm_Mo_thrown.cells = 0 := rfl; omega) g6
  · refine zi_iconst (pc := 328) hX dL_law_328 ki_0 ?_
    exact zi_ret (pc := 329) hX dL_law_329 et_z0 rfl (et_lc hu6) (et_ls hu6)
def fn_La_law_4 (L : Nat) (xs : Nat → Int32) (r23 : Int32 → et_G → Option (Int32 × et_G)) (x4 : Int32) (g : et_G) : Option (Int32 × et_G) :=
  et_ck (et_ib (x4 + (1 : Int32)) L) (
  et_ck (et_ib (x4 + (2 : Int32)) L) (
  et_bd (fn_La_where (xs (x4 + (1 : Int32)).toNatClampNeg) (xs (x4 + (2 : Int32)).toNatClampNeg) g) (fun v1 g2 =>
  et_ck (et_ib (x4 + (1 : Int32)) L) (
  et_ck (et_ib (x4 + (2 : Int32)) L) (
  et_bd (fn_Mo_where (xs (x4 + (1 : Int32)).toNatClampNeg) (xs (x4 + (2 : Int32)).toNatClampNeg) g2) (fun v3 g4 =>
  et_bd (fn_Mo_thrown g4) (fun v5 g6 =>
  if v5 = v1 then
    if v1 = 0 then
      et_ck (et_ib (0 : Int32) 1) (
      if (lg_cmp (g6.2 96 (0 : Int32).toNatClampNeg) (v3.toInt64)) = 0 then
        r23 (x4 + (6 : Int32)) g6
      else
        some ((0 : Int32), g6))
    else
      r23 (x4 + (6 : Int32)) g6
  else
    some ((0 : Int32), g6))))))))
theorem zl_4 {X : et_X} {w : et_W} {L : Nat} {xs : Nat → Int32} (hX : et_Gd X w code RL 7 (some .boolean) [] room_1) (hsc : et_Sc X w L xs) {u : Nat} (hu : u ≤ 20000 - 10) (r23 : Int32 → et_G → Option (Int32 × et_G)) (x4 : Int32) (hr : ∀ u2, u2 ≤ u + 3 → ∀ (g : et_G), et_Z X w u2 et_eI 23 [some (.ref (et_ad w 3000)), some (.ref (et_ad w 0)), some (.ref (et_ad w 61)), some (.ref (et_ad w 96)), some (.int (x4 + (6 : Int32))), none, none] [] g (r23 (x4 + (6 : Int32)) g)) (g : et_G) : et_Z X w u et_eI 350 [some (.ref (et_ad w 3000)), some (.ref (et_ad w 0)), some (.ref (et_ad w 61)), some (.ref (et_ad w 96)), some (.int x4), none, none] [] g (fn_La_law_4 L xs r23 x4 g) := by
  have hu0 : u ≤ 19990 := hu
  have hu : u ≤ 20000 := by omega
  unfold fn_La_law_4
  refine zi_aload1 (pc := 350) hX dL_law_350 ?_
  refine zi_aload0 (pc := 351) hX dL_law_351 ?_
  refine zi_iload4 (pc := 352) hX dL_law_352 ?_
  refine zi_iconst (pc := 354) hX dL_law_354 ki_1 ?_
  refine zi_iadd (pc := 355) hX dL_law_355 ?_
  refine zi_scr (pc := 356) hX hsc dL_law_356 ?_
  refine zi_aload0 (pc := 357) hX dL_law_357 ?_
  refine zi_iload4 (pc := 358) hX dL_law_358 ?_
  refine zi_iconst (pc := 360) hX dL_law_360 ki_2 ?_
  refine zi_iadd (pc := 361) hX dL_law_361 ?_
  refine zi_scr (pc := 362) hX hsc dL_law_362 ?_
  refine zi_aload3 (pc := 363) hX dL_law_363 ?_
  refine zi_callI (zc_statW (pc := 364) hX dL_law_364 tm_1024 md_L_where st_L_where (ct_La_where hX.sane (xs (x4 + (1 : Int32)).toNatClampNeg) (xs (x4 + (2 : Int32)).toNatClampNeg) g) rfl rfl (et_rsL rfl hu)) (fun v1 g2 => ?_)
  have hu2 : u + rm_La_where.cells ≤ 20000 := by have e0 : rm_La_where.cells = 2 := rfl; omega
  refine zi_istore5 (pc := 367) hX dL_law_367 rfl rfl ?_
  refine zi_aload2 (pc := 369) hX dL_law_369 ?_
  refine zi_aload0 (pc := 370) hX dL_law_370 ?_
  refine zi_iload4 (pc := 371) hX dL_law_371 ?_
  refine zi_iconst (pc := 373) hX dL_law_373 ki_1 ?_
  refine zi_iadd (pc := 374) hX dL_law_374 ?_
  refine zi_scr (pc := 375) hX hsc dL_law_375 ?_
  refine zi_aload0 (pc := 376) hX dL_law_376 ?_
  refine zi_iload4 (pc := 377) hX dL_law_377 ?_
  refine zi_iconst (pc := 379) hX dL_law_379 ki_2 ?_
  refine zi_iadd (pc := 380) hX dL_law_380 ?_
  refine zi_scr (pc := 381) hX hsc dL_law_381 ?_
  refine zi_callI (zc_virt (pc := 382) hX dL_law_382 tm_1689 md_X10_where mi_X10_where ly_61 (ct_Mo_where hX.sane (xs (x4 + (1 : Int32)).toNatClampNeg) (xs (x4 + (2 : Int32)).toNatClampNeg) g2) rfl rfl (et_rsL rfl hu2)) (fun v3 g4 => ?_)
  have hu4 : u + rm_La_where.cells + rm_Mo_where.cells ≤ 20000 := by have e0 : rm_La_where.cells = 2 := rfl; have e1 : rm_Mo_where.cells = 0 := rfl; omega
  refine zi_istore6 (pc := 385) hX dL_law_385 rfl rfl ?_
  refine zi_aload2 (pc := 387) hX dL_law_387 ?_
  refine zi_callI (zc_virt (pc := 388) hX dL_law_388 tm_1571 md_X10_thrown mi_X10_thrown ly_61 (ct_Mo_thrown hX.sane g4) rfl rfl (et_rsL rfl hu4)) (fun v5 g6 => ?_)
  have hu6 : u + rm_La_where.cells + rm_Mo_where.cells + rm_Mo_thrown.cells ≤ 20000 := by have e0 : rm_La_where.cells = 2 := rfl; have e1 : rm_Mo_where.cells = 0 := rfl; have e2 : rm_Mo_thrown.cells = 0 := rfl; omega
  refine zi_iload5 (pc := 391) hX dL_law_391 ?_
  refine zi_icmp_eq (pc := 393) 398 hX dL_law_393 (by decide) (fun _ => ?_) (fun _ => ?_)
  · refine zi_iload5 (pc := 398) hX dL_law_398 ?_
    refine zi_if_ne (pc := 400) 415 hX dL_law_400 (by decide) (fun _ => ?_) (fun _ => ?_)
    · refine zi_aload3 (pc := 403) hX dL_law_403 ?_
      refine zi_iconst (pc := 404) hX dL_law_404 ki_0 ?_
      refine zi_lald (pc := 405) hX dL_law_405 ly_96 ?_
      refine zi_iload6 (pc := 406) hX dL_law_406 ?_
      refine zi_i2l (pc := 408) hX dL_law_408 ?_
      refine zi_lcmp (pc := 409) hX dL_law_409 ?_
      refine zi_if_eq (pc := 410) 415 hX dL_law_410 (by decide) (fun _ => ?_) (fun _ => ?_)
      · refine zi_goto (pc := 415) 1631 hX dL_law_415 (by decide) ?_
        refine zi_iinc4 (pc := 1631) hX dL_law_1631 (kn_6 _) rfl rfl ?_
        refine zi_goto (pc := 1634) 23 hX dL_law_1634 (by decide) ?_
        refine zi_drop (le_s (le_s (le_s (le_s (le_s (le_n (le_n le_nil))))))) ?_; exact hr _ (by have e0 : rm_La_where.cells = 2 := rfl; have e1 : rm_Mo_where.cells = 0 := rfl; have e2 : rm_Mo_thrown.cells = 0 := rfl; omega) g6
      · refine zi_iconst (pc := 413) hX dL_law_413 ki_0 ?_
        exact zi_ret (pc := 414) hX dL_law_414 et_z0 rfl (et_lc hu6) (et_ls hu6)
    · refine zi_goto (pc := 415) 1631 hX dL_law_415 (by decide) ?_
      refine zi_iinc4 (pc := 1631) hX dL_law_1631 (kn_6 _) rfl rfl ?_
      refine zi_goto (pc := 1634) 23 hX dL_law_1634 (by decide) ?_
      refine zi_drop (le_s (le_s (le_s (le_s (le_s (le_n (le_n le_nil))))))) ?_; exact hr _ (by have e0 : rm_La_where.cells = 2 := rfl; have e1 : rm_Mo_where.cells = 0 := rfl; have e2 : rm_Mo_thrown.cells = 0 := rfl; omega) g6
  · refine zi_iconst (pc := 396) hX dL_law_396 ki_0 ?_
    exact zi_ret (pc := 397) hX dL_law_397 et_z0 rfl (et_lc hu6) (et_ls hu6)
def fn_La_law_5 (L : Nat) (xs : Nat → Int32) (r23 : Int32 → et_G → Option (Int32 × et_G)) (x4 : Int32) (g : et_G) : Option (Int32 × et_G) :=
  et_ck (et_ib (x4 + (1 : Int32)) L) (
  et_ck (et_ib (x4 + (2 : Int32)) L) (
  et_bd (fn_La_thing (xs (x4 + (1 : Int32)).toNatClampNeg) (xs (x4 + (2 : Int32)).toNatClampNeg) g) (fun v1 g2 =>
  et_ck (et_ib (x4 + (1 : Int32)) L) (
  et_ck (et_ib (x4 + (2 : Int32)) L) (
  et_bd (fn_Mo_thing (xs (x4 + (1 : Int32)).toNatClampNeg) (xs (x4 + (2 : Int32)).toNatClampNeg) g2) (fun v3 g4 =>
  et_bd (fn_Mo_thrown g4) (fun v5 g6 =>
  if v5 = v1 then
    if v1 = 0 then
      et_ck (et_ib (0 : Int32) 1) (
      if (lg_cmp (g6.2 96 (0 : Int32).toNatClampNeg) (v3.toInt64)) = 0 then
        r23 (x4 + (6 : Int32)) g6
      else
        some ((0 : Int32), g6))
    else
      r23 (x4 + (6 : Int32)) g6
  else
    some ((0 : Int32), g6))))))))
theorem zl_5 {X : et_X} {w : et_W} {L : Nat} {xs : Nat → Int32} (hX : et_Gd X w code RL 7 (some .boolean) [] room_1) (hsc : et_Sc X w L xs) {u : Nat} (hu : u ≤ 20000 - 10) (r23 : Int32 → et_G → Option (Int32 × et_G)) (x4 : Int32) (hr : ∀ u2, u2 ≤ u + 3 → ∀ (g : et_G), et_Z X w u2 et_eI 23 [some (.ref (et_ad w 3000)), some (.ref (et_ad w 0)), some (.ref (et_ad w 61)), some (.ref (et_ad w 96)), some (.int (x4 + (6 : Int32))), none, none] [] g (r23 (x4 + (6 : Int32)) g)) (g : et_G) : et_Z X w u et_eI 418 [some (.ref (et_ad w 3000)), some (.ref (et_ad w 0)), some (.ref (et_ad w 61)), some (.ref (et_ad w 96)), some (.int x4), none, none] [] g (fn_La_law_5 L xs r23 x4 g) := by
  have hu0 : u ≤ 19990 := hu
  have hu : u ≤ 20000 := by omega
  unfold fn_La_law_5
  refine zi_aload1 (pc := 418) hX dL_law_418 ?_
  refine zi_aload0 (pc := 419) hX dL_law_419 ?_
  refine zi_iload4 (pc := 420) hX dL_law_420 ?_
  refine zi_iconst (pc := 422) hX dL_law_422 ki_1 ?_
  refine zi_iadd (pc := 423) hX dL_law_423 ?_
  refine zi_scr (pc := 424) hX hsc dL_law_424 ?_
  refine zi_aload0 (pc := 425) hX dL_law_425 ?_
  refine zi_iload4 (pc := 426) hX dL_law_426 ?_
  refine zi_iconst (pc := 428) hX dL_law_428 ki_2 ?_
  refine zi_iadd (pc := 429) hX dL_law_429 ?_
  refine zi_scr (pc := 430) hX hsc dL_law_430 ?_
  refine zi_aload3 (pc := 431) hX dL_law_431 ?_
  refine zi_callI (zc_statW (pc := 432) hX dL_law_432 tm_1047 md_L_thing st_L_thing (ct_La_thing hX.sane (xs (x4 + (1 : Int32)).toNatClampNeg) (xs (x4 + (2 : Int32)).toNatClampNeg) g) rfl rfl (et_rsL rfl hu)) (fun v1 g2 => ?_)
  have hu2 : u + rm_La_thing.cells ≤ 20000 := by have e0 : rm_La_thing.cells = 2 := rfl; omega
  refine zi_istore5 (pc := 435) hX dL_law_435 rfl rfl ?_
  refine zi_aload2 (pc := 437) hX dL_law_437 ?_
  refine zi_aload0 (pc := 438) hX dL_law_438 ?_
  refine zi_iload4 (pc := 439) hX dL_law_439 ?_
  refine zi_iconst (pc := 441) hX dL_law_441 ki_1 ?_
  refine zi_iadd (pc := 442) hX dL_law_442 ?_
  refine zi_scr (pc := 443) hX hsc dL_law_443 ?_
  refine zi_aload0 (pc := 444) hX dL_law_444 ?_
  refine zi_iload4 (pc := 445) hX dL_law_445 ?_
  refine zi_iconst (pc := 447) hX dL_law_447 ki_2 ?_
  refine zi_iadd (pc := 448) hX dL_law_448 ?_
  refine zi_scr (pc := 449) hX hsc dL_law_449 ?_
  refine zi_callI (zc_virt (pc := 450) hX dL_law_450 tm_1697 md_X10_thing mi_X10_thing ly_61 (ct_Mo_thing hX.sane (xs (x4 + (1 : Int32)).toNatClampNeg) (xs (x4 + (2 : Int32)).toNatClampNeg) g2) rfl rfl (et_rsL rfl hu2)) (fun v3 g4 => ?_)
  have hu4 : u + rm_La_thing.cells + rm_Mo_thing.cells ≤ 20000 := by have e0 : rm_La_thing.cells = 2 := rfl; have e1 : rm_Mo_thing.cells = 0 := rfl; omega
  refine zi_istore6 (pc := 453) hX dL_law_453 rfl rfl ?_
  refine zi_aload2 (pc := 455) hX dL_law_455 ?_
  refine zi_callI (zc_virt (pc := 456) hX dL_law_456 tm_1571 md_X10_thrown mi_X10_thrown ly_61 (ct_Mo_thrown hX.sane g4) rfl rfl (et_rsL rfl hu4)) (fun v5 g6 => ?_)
  have hu6 : u + rm_La_thing.cells + rm_Mo_thing.cells + rm_Mo_thrown.cells ≤ 20000 := by have e0 : rm_La_thing.cells = 2 := rfl; have e1 : rm_Mo_thing.cells = 0 := rfl; have e2 : rm_Mo_thrown.cells = 0 := rfl; omega
  refine zi_iload5 (pc := 459) hX dL_law_459 ?_
  refine zi_icmp_eq (pc := 461) 466 hX dL_law_461 (by decide) (fun _ => ?_) (fun _ => ?_)
  · refine zi_iload5 (pc := 466) hX dL_law_466 ?_
    refine zi_if_ne (pc := 468) 483 hX dL_law_468 (by decide) (fun _ => ?_) (fun _ => ?_)
    · refine zi_aload3 (pc := 471) hX dL_law_471 ?_
      refine zi_iconst (pc := 472) hX dL_law_472 ki_0 ?_
      refine zi_lald (pc := 473) hX dL_law_473 ly_96 ?_
      refine zi_iload6 (pc := 474) hX dL_law_474 ?_
      refine zi_i2l (pc := 476) hX dL_law_476 ?_
      refine zi_lcmp (pc := 477) hX dL_law_477 ?_
      refine zi_if_eq (pc := 478) 483 hX dL_law_478 (by decide) (fun _ => ?_) (fun _ => ?_)
      · refine zi_goto (pc := 483) 1631 hX dL_law_483 (by decide) ?_
        refine zi_iinc4 (pc := 1631) hX dL_law_1631 (kn_6 _) rfl rfl ?_
        refine zi_goto (pc := 1634) 23 hX dL_law_1634 (by decide) ?_
        refine zi_drop (le_s (le_s (le_s (le_s (le_s (le_n (le_n le_nil))))))) ?_; exact hr _ (by have e0 : rm_La_thing.cells = 2 := rfl; have e1 : rm_Mo_thing.cells = 0 := rfl; have e2 : rm_Mo_thrown.cells = 0 := rfl; omega) g6
      · refine zi_iconst (pc := 481) hX dL_law_481 ki_0 ?_
        exact zi_ret (pc := 482) hX dL_law_482 et_z0 rfl (et_lc hu6) (et_ls hu6)
    · refine zi_goto (pc := 483) 1631 hX dL_law_483 (by decide) ?_
      refine zi_iinc4 (pc := 1631) hX dL_law_1631 (kn_6 _) rfl rfl ?_
      refine zi_goto (pc := 1634) 23 hX dL_law_1634 (by decide) ?_
      refine zi_drop (le_s (le_s (le_s (le_s (le_s (le_n (le_n le_nil))))))) ?_; exact hr _ (by have e0 : rm_La_thing.cells = 2 := rfl; have e1 : rm_Mo_thing.cells = 0 := rfl; have e2 : rm_Mo_thrown.cells = 0 := rfl; omega) g6
  · refine zi_iconst (pc := 464) hX dL_law_464 ki_0 ?_
    exact zi_ret (pc := 465) hX dL_law_465 et_z0 rfl (et_lc hu6) (et_ls hu6)
def fn_La_law_6 (L : Nat) (xs : Nat → Int32) (r23 : Int32 → et_G → Option (Int32 × et_G)) (x4 : Int32) (g : et_G) : Option (Int32 × et_G) :=
  et_ck (et_ib (x4 + (1 : Int32)) L) (
  et_ck (et_ib (x4 + (2 : Int32)) L) (
  et_ck (et_ib (x4 + (3 : Int32)) L) (
  et_ck (et_ib (x4 + (4 : Int32)) L) (
  et_bd (fn_La_word (xs (x4 + (1 : Int32)).toNatClampNeg) (xs (x4 + (2 : Int32)).toNatClampNeg) (xs (x4 + (3 : Int32)).toNatClampNeg) (xs (x4 + (4 : Int32)).toNatClampNeg) g) (fun v1 g2 =>
  et_ck (et_ib (x4 + (1 : Int32)) L) (
  et_ck (et_ib (x4 + (2 : Int32)) L) (
  et_ck (et_ib (x4 + (3 : Int32)) L) (
  et_ck (et_ib (x4 + (4 : Int32)) L) (
  et_bd (fn_Mo_word (xs (x4 + (1 : Int32)).toNatClampNeg) (xs (x4 + (2 : Int32)).toNatClampNeg) (xs (x4 + (3 : Int32)).toNatClampNeg) (xs (x4 + (4 : Int32)).toNatClampNeg) g2) (fun v3 g4 =>
  et_bd (fn_Mo_thrown g4) (fun v5 g6 =>
  if v5 = v1 then
    if v1 = 0 then
      et_ck (et_ib (0 : Int32) 1) (
      if (lg_cmp (g6.2 96 (0 : Int32).toNatClampNeg) (v3.toInt64)) = 0 then
        r23 (x4 + (6 : Int32)) g6
      else
        some ((0 : Int32), g6))
    else
      r23 (x4 + (6 : Int32)) g6
  else
    some ((0 : Int32), g6))))))))))))
theorem zl_6 {X : et_X} {w : et_W} {L : Nat} {xs : Nat → Int32} (hX : et_Gd X w code RL 7 (some .boolean) [] room_1) (hsc : et_Sc X w L xs) {u : Nat} (hu : u ≤ 20000 - 10) (r23 : Int32 → et_G → Option (Int32 × et_G)) (x4 : Int32) (hr : ∀ u2, u2 ≤ u + 3 → ∀ (g : et_G), et_Z X w u2 et_eI 23 [some (.ref (et_ad w 3000)), some (.ref (et_ad w 0)), some (.ref (et_ad w 61)), some (.ref (et_ad w 96)), some (.int (x4 + (6 : Int32))), none, none] [] g (r23 (x4 + (6 : Int32)) g)) (g : et_G) : et_Z X w u et_eI 486 [some (.ref (et_ad w 3000)), some (.ref (et_ad w 0)), some (.ref (et_ad w 61)), some (.ref (et_ad w 96)), some (.int x4), none, none] [] g (fn_La_law_6 L xs r23 x4 g) := by
  have hu0 : u ≤ 19990 := hu
  have hu : u ≤ 20000 := by omega
  unfold fn_La_law_6
  refine zi_aload1 (pc := 486) hX dL_law_486 ?_
  refine zi_aload0 (pc := 487) hX dL_law_487 ?_
  refine zi_iload4 (pc := 488) hX dL_law_488 ?_
  refine zi_iconst (pc := 490) hX dL_law_490 ki_1 ?_
  refine zi_iadd (pc := 491) hX dL_law_491 ?_
  refine zi_scr (pc := 492) hX hsc dL_law_492 ?_
  refine zi_aload0 (pc := 493) hX dL_law_493 ?_
  refine zi_iload4 (pc := 494) hX dL_law_494 ?_
  refine zi_iconst (pc := 496) hX dL_law_496 ki_2 ?_
  refine zi_iadd (pc := 497) hX dL_law_497 ?_
  refine zi_scr (pc := 498) hX hsc dL_law_498 ?_
  refine zi_aload0 (pc := 499) hX dL_law_499 ?_
  refine zi_iload4 (pc := 500) hX dL_law_500 ?_
  refine zi_iconst (pc := 502) hX dL_law_502 ki_3 ?_
  refine zi_iadd (pc := 503) hX dL_law_503 ?_
  refine zi_scr (pc := 504) hX hsc dL_law_504 ?_
  refine zi_aload0 (pc := 505) hX dL_law_505 ?_
  refine zi_iload4 (pc := 506) hX dL_law_506 ?_
  refine zi_iconst (pc := 508) hX dL_law_508 ki_4 ?_
  refine zi_iadd (pc := 509) hX dL_law_509 ?_
  refine zi_scr (pc := 510) hX hsc dL_law_510 ?_
  refine zi_aload3 (pc := 511) hX dL_law_511 ?_
  refine zi_callI (zc_statW (pc := 512) hX dL_law_512 tm_1063 md_L_word st_L_word (ct_La_word hX.sane (xs (x4 + (1 : Int32)).toNatClampNeg) (xs (x4 + (2 : Int32)).toNatClampNeg) (xs (x4 + (3 : Int32)).toNatClampNeg) (xs (x4 + (4 : Int32)).toNatClampNeg) g) rfl rfl (et_rsL rfl hu)) (fun v1 g2 => ?_)
  have hu2 : u + rm_La_word.cells ≤ 20000 := by have e0 : rm_La_word.cells = 1 := rfl; omega
  refine zi_istore5 (pc := 515) hX dL_law_515 rfl rfl ?_
  refine zi_aload2 (pc := 517) hX dL_law_517 ?_
  refine zi_aload0 (pc := 518) hX dL_law_518 ?_
  refine zi_iload4 (pc := 519) hX dL_law_519 ?_
  refine zi_iconst (pc := 521) hX dL_law_521 ki_1 ?_
  refine zi_iadd (pc := 522) hX dL_law_522 ?_
  refine zi_scr (pc := 523) hX hsc dL_law_523 ?_
  refine zi_aload0 (pc := 524) hX dL_law_524 ?_
  refine zi_iload4 (pc := 525) hX dL_law_525 ?_
  refine zi_iconst (pc := 527) hX dL_law_527 ki_2 ?_
  refine zi_iadd (pc := 528) hX dL_law_528 ?_
  refine zi_scr (pc := 529) hX hsc dL_law_529 ?_
  refine zi_aload0 (pc := 530) hX dL_law_530 ?_
  refine zi_iload4 (pc := 531) hX dL_law_531 ?_
  refine zi_iconst (pc := 533) hX dL_law_533 ki_3 ?_
  refine zi_iadd (pc := 534) hX dL_law_534 ?_
  refine zi_scr (pc := 535) hX hsc dL_law_535 ?_
  refine zi_aload0 (pc := 536) hX dL_law_536 ?_
  refine zi_iload4 (pc := 537) hX dL_law_537 ?_
  refine zi_iconst (pc := 539) hX dL_law_539 ki_4 ?_
  refine zi_iadd (pc := 540) hX dL_law_540 ?_
  refine zi_scr (pc := 541) hX hsc dL_law_541 ?_
  refine zi_callI (zc_virt (pc := 542) hX dL_law_542 tm_1705 md_X10_word mi_X10_word ly_61 (ct_Mo_word hX.sane (xs (x4 + (1 : Int32)).toNatClampNeg) (xs (x4 + (2 : Int32)).toNatClampNeg) (xs (x4 + (3 : Int32)).toNatClampNeg) (xs (x4 + (4 : Int32)).toNatClampNeg) g2) rfl rfl (et_rsL rfl hu2)) (fun v3 g4 => ?_)
  have hu4 : u + rm_La_word.cells + rm_Mo_word.cells ≤ 20000 := by have e0 : rm_La_word.cells = 1 := rfl; have e1 : rm_Mo_word.cells = 0 := rfl; omega
  refine zi_istore6 (pc := 545) hX dL_law_545 rfl rfl ?_
  refine zi_aload2 (pc := 547) hX dL_law_547 ?_
  refine zi_callI (zc_virt (pc := 548) hX dL_law_548 tm_1571 md_X10_thrown mi_X10_thrown ly_61 (ct_Mo_thrown hX.sane g4) rfl rfl (et_rsL rfl hu4)) (fun v5 g6 => ?_)
  have hu6 : u + rm_La_word.cells + rm_Mo_word.cells + rm_Mo_thrown.cells ≤ 20000 := by have e0 : rm_La_word.cells = 1 := rfl; have e1 : rm_Mo_word.cells = 0 := rfl; have e2 : rm_Mo_thrown.cells = 0 := rfl; omega
  refine zi_iload5 (pc := 551) hX dL_law_551 ?_
  refine zi_icmp_eq (pc := 553) 558 hX dL_law_553 (by decide) (fun _ => ?_) (fun _ => ?_)
  · refine zi_iload5 (pc := 558) hX dL_law_558 ?_
    refine zi_if_ne (pc := 560) 575 hX dL_law_560 (by decide) (fun _ => ?_) (fun _ => ?_)
    · refine zi_aload3 (pc := 563) hX dL_law_563 ?_
      refine zi_iconst (pc := 564) hX dL_law_564 ki_0 ?_
      refine zi_lald (pc := 565) hX dL_law_565 ly_96 ?_
      refine zi_iload6 (pc := 566) hX dL_law_566 ?_
      refine zi_i2l (pc := 568) hX dL_law_568 ?_
      refine zi_lcmp (pc := 569) hX dL_law_569 ?_
      refine zi_if_eq (pc := 570) 575 hX dL_law_570 (by decide) (fun _ => ?_) (fun _ => ?_)
      · refine zi_goto (pc := 575) 1631 hX dL_law_575 (by decide) ?_
        refine zi_iinc4 (pc := 1631) hX dL_law_1631 (kn_6 _) rfl rfl ?_
        refine zi_goto (pc := 1634) 23 hX dL_law_1634 (by decide) ?_
        refine zi_drop (le_s (le_s (le_s (le_s (le_s (le_n (le_n le_nil))))))) ?_; exact hr _ (by have e0 : rm_La_word.cells = 1 := rfl; have e1 : rm_Mo_word.cells = 0 := rfl; have e2 : rm_Mo_thrown.cells = 0 := rfl; omega) g6
      · refine zi_iconst (pc := 573) hX dL_law_573 ki_0 ?_
        exact zi_ret (pc := 574) hX dL_law_574 et_z0 rfl (et_lc hu6) (et_ls hu6)
    · refine zi_goto (pc := 575) 1631 hX dL_law_575 (by decide) ?_
      refine zi_iinc4 (pc := 1631) hX dL_law_1631 (kn_6 _) rfl rfl ?_
      refine zi_goto (pc := 1634) 23 hX dL_law_1634 (by decide) ?_
      refine zi_drop (le_s (le_s (le_s (le_s (le_s (le_n (le_n le_nil))))))) ?_; exact hr _ (by have e0 : rm_La_word.cells = 1 := rfl; have e1 : rm_Mo_word.cells = 0 := rfl; have e2 : rm_Mo_thrown.cells = 0 := rfl; omega) g6
  · refine zi_iconst (pc := 556) hX dL_law_556 ki_0 ?_
    exact zi_ret (pc := 557) hX dL_law_557 et_z0 rfl (et_lc hu6) (et_ls hu6)
def fn_La_law_7 (L : Nat) (xs : Nat → Int32) (r23 : Int32 → et_G → Option (Int32 × et_G)) (x4 : Int32) (g : et_G) : Option (Int32 × et_G) :=
  et_ck (et_ib (x4 + (1 : Int32)) L) (
  et_bd (fn_La_apart (xs (x4 + (1 : Int32)).toNatClampNeg) g) (fun v1 g2 =>
  et_ck (et_ib (x4 + (1 : Int32)) L) (
  et_bd (fn_Mo_apart (xs (x4 + (1 : Int32)).toNatClampNeg) g2) (fun v3 g4 =>
  et_bd (fn_Mo_thrown g4) (fun v5 g6 =>
  if v5 = v1 then
    if v1 = 0 then
      et_ck (et_ib (0 : Int32) 1) (
      if (lg_cmp (g6.2 96 (0 : Int32).toNatClampNeg) (v3.toInt64)) = 0 then
        r23 (x4 + (6 : Int32)) g6
      else
        some ((0 : Int32), g6))
    else
      r23 (x4 + (6 : Int32)) g6
  else
    some ((0 : Int32), g6))))))
theorem zl_7 {X : et_X} {w : et_W} {L : Nat} {xs : Nat → Int32} (hX : et_Gd X w code RL 7 (some .boolean) [] room_1) (hsc : et_Sc X w L xs) {u : Nat} (hu : u ≤ 20000 - 10) (r23 : Int32 → et_G → Option (Int32 × et_G)) (x4 : Int32) (hr : ∀ u2, u2 ≤ u + 3 → ∀ (g : et_G), et_Z X w u2 et_eI 23 [some (.ref (et_ad w 3000)), some (.ref (et_ad w 0)), some (.ref (et_ad w 61)), some (.ref (et_ad w 96)), some (.int (x4 + (6 : Int32))), none, none] [] g (r23 (x4 + (6 : Int32)) g)) (g : et_G) : et_Z X w u et_eI 578 [some (.ref (et_ad w 3000)), some (.ref (et_ad w 0)), some (.ref (et_ad w 61)), some (.ref (et_ad w 96)), some (.int x4), none, none] [] g (fn_La_law_7 L xs r23 x4 g) := by
  have hu0 : u ≤ 19990 := hu
  have hu : u ≤ 20000 := by omega
  unfold fn_La_law_7
  refine zi_aload1 (pc := 578) hX dL_law_578 ?_
  refine zi_aload0 (pc := 579) hX dL_law_579 ?_
  refine zi_iload4 (pc := 580) hX dL_law_580 ?_
  refine zi_iconst (pc := 582) hX dL_law_582 ki_1 ?_
  refine zi_iadd (pc := 583) hX dL_law_583 ?_
  refine zi_scr (pc := 584) hX hsc dL_law_584 ?_
  refine zi_aload3 (pc := 585) hX dL_law_585 ?_
  refine zi_callI (zc_statW (pc := 586) hX dL_law_586 tm_1094 md_L_apart st_L_apart (ct_La_apart hX.sane (xs (x4 + (1 : Int32)).toNatClampNeg) g) rfl rfl (et_rsL rfl hu)) (fun v1 g2 => ?_)
  have hu2 : u + rm_La_apart.cells ≤ 20000 := by have e0 : rm_La_apart.cells = 1 := rfl; omega
  refine zi_istore5 (pc := 589) hX dL_law_589 rfl rfl ?_
  refine zi_aload2 (pc := 591) hX dL_law_591 ?_
  refine zi_aload0 (pc := 592) hX dL_law_592 ?_
  refine zi_iload4 (pc := 593) hX dL_law_593 ?_
  refine zi_iconst (pc := 595) hX dL_law_595 ki_1 ?_
  refine zi_iadd (pc := 596) hX dL_law_596 ?_
  refine zi_scr (pc := 597) hX hsc dL_law_597 ?_
  refine zi_callI (zc_virt (pc := 598) hX dL_law_598 tm_1725 md_X10_apart mi_X10_apart ly_61 (ct_Mo_apart hX.sane (xs (x4 + (1 : Int32)).toNatClampNeg) g2) rfl rfl (et_rsL rfl hu2)) (fun v3 g4 => ?_)
  have hu4 : u + rm_La_apart.cells + rm_Mo_apart.cells ≤ 20000 := by have e0 : rm_La_apart.cells = 1 := rfl; have e1 : rm_Mo_apart.cells = 0 := rfl; omega
  refine zi_istore6 (pc := 601) hX dL_law_601 rfl rfl ?_
  refine zi_aload2 (pc := 603) hX dL_law_603 ?_
  refine zi_callI (zc_virt (pc := 604) hX dL_law_604 tm_1571 md_X10_thrown mi_X10_thrown ly_61 (ct_Mo_thrown hX.sane g4) rfl rfl (et_rsL rfl hu4)) (fun v5 g6 => ?_)
  have hu6 : u + rm_La_apart.cells + rm_Mo_apart.cells + rm_Mo_thrown.cells ≤ 20000 := by have e0 : rm_La_apart.cells = 1 := rfl; have e1 : rm_Mo_apart.cells = 0 := rfl; have e2 : rm_Mo_thrown.cells = 0 := rfl; omega
  refine zi_iload5 (pc := 607) hX dL_law_607 ?_
  refine zi_icmp_eq (pc := 609) 614 hX dL_law_609 (by decide) (fun _ => ?_) (fun _ => ?_)
  · refine zi_iload5 (pc := 614) hX dL_law_614 ?_
    refine zi_if_ne (pc := 616) 631 hX dL_law_616 (by decide) (fun _ => ?_) (fun _ => ?_)
    · refine zi_aload3 (pc := 619) hX dL_law_619 ?_
      refine zi_iconst (pc := 620) hX dL_law_620 ki_0 ?_
      refine zi_lald (pc := 621) hX dL_law_621 ly_96 ?_
      refine zi_iload6 (pc := 622) hX dL_law_622 ?_
      refine zi_i2l (pc := 624) hX dL_law_624 ?_
      refine zi_lcmp (pc := 625) hX dL_law_625 ?_
      refine zi_if_eq (pc := 626) 631 hX dL_law_626 (by decide) (fun _ => ?_) (fun _ => ?_)
      · refine zi_goto (pc := 631) 1631 hX dL_law_631 (by decide) ?_
        refine zi_iinc4 (pc := 1631) hX dL_law_1631 (kn_6 _) rfl rfl ?_
        refine zi_goto (pc := 1634) 23 hX dL_law_1634 (by decide) ?_
        refine zi_drop (le_s (le_s (le_s (le_s (le_s (le_n (le_n le_nil))))))) ?_; exact hr _ (by have e0 : rm_La_apart.cells = 1 := rfl; have e1 : rm_Mo_apart.cells = 0 := rfl; have e2 : rm_Mo_thrown.cells = 0 := rfl; omega) g6
      · refine zi_iconst (pc := 629) hX dL_law_629 ki_0 ?_
        exact zi_ret (pc := 630) hX dL_law_630 et_z0 rfl (et_lc hu6) (et_ls hu6)
    · refine zi_goto (pc := 631) 1631 hX dL_law_631 (by decide) ?_
      refine zi_iinc4 (pc := 1631) hX dL_law_1631 (kn_6 _) rfl rfl ?_
      refine zi_goto (pc := 1634) 23 hX dL_law_1634 (by decide) ?_
      refine zi_drop (le_s (le_s (le_s (le_s (le_s (le_n (le_n le_nil))))))) ?_; exact hr _ (by have e0 : rm_La_apart.cells = 1 := rfl; have e1 : rm_Mo_apart.cells = 0 := rfl; have e2 : rm_Mo_thrown.cells = 0 := rfl; omega) g6
  · refine zi_iconst (pc := 612) hX dL_law_612 ki_0 ?_
    exact zi_ret (pc := 613) hX dL_law_613 et_z0 rfl (et_lc hu6) (et_ls hu6)
def fn_La_law_8 (L : Nat) (xs : Nat → Int32) (r23 : Int32 → et_G → Option (Int32 × et_G)) (x4 : Int32) (g : et_G) : Option (Int32 × et_G) :=
  et_ck (et_ib (x4 + (1 : Int32)) L) (
  et_bd (fn_La_way (xs (x4 + (1 : Int32)).toNatClampNeg) g) (fun v1 g2 =>
  et_ck (et_ib (x4 + (1 : Int32)) L) (
  et_bd (fn_Mo_way (xs (x4 + (1 : Int32)).toNatClampNeg) g2) (fun v3 g4 =>
  et_bd (fn_Mo_thrown g4) (fun v5 g6 =>
  if v5 = v1 then
    if v1 = 0 then
      et_ck (et_ib (0 : Int32) 1) (
      if (lg_cmp (g6.2 96 (0 : Int32).toNatClampNeg) (v3.toInt64)) = 0 then
        r23 (x4 + (6 : Int32)) g6
      else
        some ((0 : Int32), g6))
    else
      r23 (x4 + (6 : Int32)) g6
  else
    some ((0 : Int32), g6))))))
theorem zl_8 {X : et_X} {w : et_W} {L : Nat} {xs : Nat → Int32} (hX : et_Gd X w code RL 7 (some .boolean) [] room_1) (hsc : et_Sc X w L xs) {u : Nat} (hu : u ≤ 20000 - 10) (r23 : Int32 → et_G → Option (Int32 × et_G)) (x4 : Int32) (hr : ∀ u2, u2 ≤ u + 3 → ∀ (g : et_G), et_Z X w u2 et_eI 23 [some (.ref (et_ad w 3000)), some (.ref (et_ad w 0)), some (.ref (et_ad w 61)), some (.ref (et_ad w 96)), some (.int (x4 + (6 : Int32))), none, none] [] g (r23 (x4 + (6 : Int32)) g)) (g : et_G) : et_Z X w u et_eI 634 [some (.ref (et_ad w 3000)), some (.ref (et_ad w 0)), some (.ref (et_ad w 61)), some (.ref (et_ad w 96)), some (.int x4), none, none] [] g (fn_La_law_8 L xs r23 x4 g) := by
  have hu0 : u ≤ 19990 := hu
  have hu : u ≤ 20000 := by omega
  unfold fn_La_law_8
  refine zi_aload1 (pc := 634) hX dL_law_634 ?_
  refine zi_aload0 (pc := 635) hX dL_law_635 ?_
  refine zi_iload4 (pc := 636) hX dL_law_636 ?_
  refine zi_iconst (pc := 638) hX dL_law_638 ki_1 ?_
  refine zi_iadd (pc := 639) hX dL_law_639 ?_
  refine zi_scr (pc := 640) hX hsc dL_law_640 ?_
  refine zi_aload3 (pc := 641) hX dL_law_641 ?_
  refine zi_callI (zc_statW (pc := 642) hX dL_law_642 tm_1114 md_L_way st_L_way (ct_La_way hX.sane (xs (x4 + (1 : Int32)).toNatClampNeg) g) rfl rfl (et_rsL rfl hu)) (fun v1 g2 => ?_)
  have hu2 : u + rm_La_way.cells ≤ 20000 := by have e0 : rm_La_way.cells = 1 := rfl; omega
  refine zi_istore5 (pc := 645) hX dL_law_645 rfl rfl ?_
  refine zi_aload2 (pc := 647) hX dL_law_647 ?_
  refine zi_aload0 (pc := 648) hX dL_law_648 ?_
  refine zi_iload4 (pc := 649) hX dL_law_649 ?_
  refine zi_iconst (pc := 651) hX dL_law_651 ki_1 ?_
  refine zi_iadd (pc := 652) hX dL_law_652 ?_
  refine zi_scr (pc := 653) hX hsc dL_law_653 ?_
  refine zi_callI (zc_virt (pc := 654) hX dL_law_654 tm_1733 md_X10_way mi_X10_way ly_61 (ct_Mo_way hX.sane (xs (x4 + (1 : Int32)).toNatClampNeg) g2) rfl rfl (et_rsL rfl hu2)) (fun v3 g4 => ?_)
  have hu4 : u + rm_La_way.cells + rm_Mo_way.cells ≤ 20000 := by have e0 : rm_La_way.cells = 1 := rfl; have e1 : rm_Mo_way.cells = 0 := rfl; omega
  refine zi_istore6 (pc := 657) hX dL_law_657 rfl rfl ?_
  refine zi_aload2 (pc := 659) hX dL_law_659 ?_
  refine zi_callI (zc_virt (pc := 660) hX dL_law_660 tm_1571 md_X10_thrown mi_X10_thrown ly_61 (ct_Mo_thrown hX.sane g4) rfl rfl (et_rsL rfl hu4)) (fun v5 g6 => ?_)
  have hu6 : u + rm_La_way.cells + rm_Mo_way.cells + rm_Mo_thrown.cells ≤ 20000 := by have e0 : rm_La_way.cells = 1 := rfl; have e1 : rm_Mo_way.cells = 0 := rfl; have e2 : rm_Mo_thrown.cells = 0 := rfl; omega
  refine zi_iload5 (pc := 663) hX dL_law_663 ?_
  refine zi_icmp_eq (pc := 665) 670 hX dL_law_665 (by decide) (fun _ => ?_) (fun _ => ?_)
  · refine zi_iload5 (pc := 670) hX dL_law_670 ?_
    refine zi_if_ne (pc := 672) 687 hX dL_law_672 (by decide) (fun _ => ?_) (fun _ => ?_)
    · refine zi_aload3 (pc := 675) hX dL_law_675 ?_
      refine zi_iconst (pc := 676) hX dL_law_676 ki_0 ?_
      refine zi_lald (pc := 677) hX dL_law_677 ly_96 ?_
      refine zi_iload6 (pc := 678) hX dL_law_678 ?_
      refine zi_i2l (pc := 680) hX dL_law_680 ?_
      refine zi_lcmp (pc := 681) hX dL_law_681 ?_
      refine zi_if_eq (pc := 682) 687 hX dL_law_682 (by decide) (fun _ => ?_) (fun _ => ?_)
      · refine zi_goto (pc := 687) 1631 hX dL_law_687 (by decide) ?_
        refine zi_iinc4 (pc := 1631) hX dL_law_1631 (kn_6 _) rfl rfl ?_
        refine zi_goto (pc := 1634) 23 hX dL_law_1634 (by decide) ?_
        refine zi_drop (le_s (le_s (le_s (le_s (le_s (le_n (le_n le_nil))))))) ?_; exact hr _ (by have e0 : rm_La_way.cells = 1 := rfl; have e1 : rm_Mo_way.cells = 0 := rfl; have e2 : rm_Mo_thrown.cells = 0 := rfl; omega) g6
      · refine zi_iconst (pc := 685) hX dL_law_685 ki_0 ?_
        exact zi_ret (pc := 686) hX dL_law_686 et_z0 rfl (et_lc hu6) (et_ls hu6)
    · refine zi_goto (pc := 687) 1631 hX dL_law_687 (by decide) ?_
      refine zi_iinc4 (pc := 1631) hX dL_law_1631 (kn_6 _) rfl rfl ?_
      refine zi_goto (pc := 1634) 23 hX dL_law_1634 (by decide) ?_
      refine zi_drop (le_s (le_s (le_s (le_s (le_s (le_n (le_n le_nil))))))) ?_; exact hr _ (by have e0 : rm_La_way.cells = 1 := rfl; have e1 : rm_Mo_way.cells = 0 := rfl; have e2 : rm_Mo_thrown.cells = 0 := rfl; omega) g6
  · refine zi_iconst (pc := 668) hX dL_law_668 ki_0 ?_
    exact zi_ret (pc := 669) hX dL_law_669 et_z0 rfl (et_lc hu6) (et_ls hu6)
def fn_La_law_9 (L : Nat) (xs : Nat → Int32) (r23 : Int32 → et_G → Option (Int32 × et_G)) (x4 : Int32) (g : et_G) : Option (Int32 × et_G) :=
  et_ck (et_ib (x4 + (1 : Int32)) L) (
  et_ck (et_ib (x4 + (2 : Int32)) L) (
  et_ck (et_ib (x4 + (3 : Int32)) L) (
  et_ck (et_ib (x4 + (4 : Int32)) L) (
  et_ck (et_ib (x4 + (5 : Int32)) L) (
  if (xs (x4 + (5 : Int32)).toNatClampNeg) = 0 then
    et_bd (fn_La_say (xs (x4 + (1 : Int32)).toNatClampNeg) (xs (x4 + (2 : Int32)).toNatClampNeg) (xs (x4 + (3 : Int32)).toNatClampNeg) (xs (x4 + (4 : Int32)).toNatClampNeg) (0 : Int32) g) (fun v1 g2 =>
    et_ck (et_ib (x4 + (1 : Int32)) L) (
    et_ck (et_ib (x4 + (2 : Int32)) L) (
    et_ck (et_ib (x4 + (3 : Int32)) L) (
    et_ck (et_ib (x4 + (4 : Int32)) L) (
    et_ck (et_ib (x4 + (5 : Int32)) L) (
    if (xs (x4 + (5 : Int32)).toNatClampNeg) = 0 then
      et_bd (fn_Mo_say (xs (x4 + (1 : Int32)).toNatClampNeg) (xs (x4 + (2 : Int32)).toNatClampNeg) (xs (x4 + (3 : Int32)).toNatClampNeg) (xs (x4 + (4 : Int32)).toNatClampNeg) (0 : Int32) g2) (fun v3 g4 =>
      et_bd (fn_Mo_thrown g4) (fun v5 g6 =>
      if v5 = v1 then
        if v1 = 0 then
          et_ck (et_ib (0 : Int32) 1) (
          if (lg_cmp (g6.2 96 (0 : Int32).toNatClampNeg) (v3.toInt64)) = 0 then
            r23 (x4 + (6 : Int32)) g6
          else
            some ((0 : Int32), g6))
        else
          r23 (x4 + (6 : Int32)) g6
      else
        some ((0 : Int32), g6)))
    else
      et_bd (fn_Mo_say (xs (x4 + (1 : Int32)).toNatClampNeg) (xs (x4 + (2 : Int32)).toNatClampNeg) (xs (x4 + (3 : Int32)).toNatClampNeg) (xs (x4 + (4 : Int32)).toNatClampNeg) (1 : Int32) g2) (fun v9 g10 =>
      et_bd (fn_Mo_thrown g10) (fun v11 g12 =>
      if v11 = v1 then
        if v1 = 0 then
          et_ck (et_ib (0 : Int32) 1) (
          if (lg_cmp (g12.2 96 (0 : Int32).toNatClampNeg) (v9.toInt64)) = 0 then
            r23 (x4 + (6 : Int32)) g12
          else
            some ((0 : Int32), g12))
        else
          r23 (x4 + (6 : Int32)) g12
      else
        some ((0 : Int32), g12)))))))))
  else
    et_bd (fn_La_say (xs (x4 + (1 : Int32)).toNatClampNeg) (xs (x4 + (2 : Int32)).toNatClampNeg) (xs (x4 + (3 : Int32)).toNatClampNeg) (xs (x4 + (4 : Int32)).toNatClampNeg) (1 : Int32) g) (fun v15 g16 =>
    et_ck (et_ib (x4 + (1 : Int32)) L) (
    et_ck (et_ib (x4 + (2 : Int32)) L) (
    et_ck (et_ib (x4 + (3 : Int32)) L) (
    et_ck (et_ib (x4 + (4 : Int32)) L) (
    et_ck (et_ib (x4 + (5 : Int32)) L) (
    if (xs (x4 + (5 : Int32)).toNatClampNeg) = 0 then
      et_bd (fn_Mo_say (xs (x4 + (1 : Int32)).toNatClampNeg) (xs (x4 + (2 : Int32)).toNatClampNeg) (xs (x4 + (3 : Int32)).toNatClampNeg) (xs (x4 + (4 : Int32)).toNatClampNeg) (0 : Int32) g16) (fun v17 g18 =>
      et_bd (fn_Mo_thrown g18) (fun v19 g20 =>
      if v19 = v15 then
        if v15 = 0 then
          et_ck (et_ib (0 : Int32) 1) (
          if (lg_cmp (g20.2 96 (0 : Int32).toNatClampNeg) (v17.toInt64)) = 0 then
            r23 (x4 + (6 : Int32)) g20
          else
            some ((0 : Int32), g20))
        else
          r23 (x4 + (6 : Int32)) g20
      else
        some ((0 : Int32), g20)))
    else
      et_bd (fn_Mo_say (xs (x4 + (1 : Int32)).toNatClampNeg) (xs (x4 + (2 : Int32)).toNatClampNeg) (xs (x4 + (3 : Int32)).toNatClampNeg) (xs (x4 + (4 : Int32)).toNatClampNeg) (1 : Int32) g16) (fun v23 g24 =>
      et_bd (fn_Mo_thrown g24) (fun v25 g26 =>
      if v25 = v15 then
        if v15 = 0 then
          et_ck (et_ib (0 : Int32) 1) (
          if (lg_cmp (g26.2 96 (0 : Int32).toNatClampNeg) (v23.toInt64)) = 0 then
            r23 (x4 + (6 : Int32)) g26
          else
            some ((0 : Int32), g26))
        else
          r23 (x4 + (6 : Int32)) g26
      else
        some ((0 : Int32), g26))))))))))))))
theorem zl_9 {X : et_X} {w : et_W} {L : Nat} {xs : Nat → Int32} (hX : et_Gd X w code RL 7 (some .boolean) [] room_1) (hsc : et_Sc X w L xs) {u : Nat} (hu : u ≤ 20000 - 10) (r23 : Int32 → et_G → Option (Int32 × et_G)) (x4 : Int32) (hr : ∀ u2, u2 ≤ u + 3 → ∀ (g : et_G), et_Z X w u2 et_eI 23 [some (.ref (et_ad w 3000)), some (.ref (et_ad w 0)), some (.ref (et_ad w 61)), some (.ref (et_ad w 96)), some (.int (x4 + (6 : Int32))), none, none] [] g (r23 (x4 + (6 : Int32)) g)) (g : et_G) : et_Z X w u et_eI 690 [some (.ref (et_ad w 3000)), some (.ref (et_ad w 0)), some (.ref (et_ad w 61)), some (.ref (et_ad w 96)), some (.int x4), none, none] [] g (fn_La_law_9 L xs r23 x4 g) := by
  have hu0 : u ≤ 19990 := hu
  have hu : u ≤ 20000 := by omega
  unfold fn_La_law_9
  refine zi_aload1 (pc := 690) hX dL_law_690 ?_
  refine zi_aload0 (pc := 691) hX dL_law_691 ?_
  refine zi_iload4 (pc := 692) hX dL_law_692 ?_
  refine zi_iconst (pc := 694) hX dL_law_694 ki_1 ?_
  refine zi_iadd (pc := 695) hX dL_law_695 ?_
  refine zi_scr (pc := 696) hX hsc dL_law_696 ?_
  refine zi_aload0 (pc := 697) hX dL_law_697 ?_
  refine zi_iload4 (pc := 698) hX dL_law_698 ?_
  refine zi_iconst (pc := 700) hX dL_law_700 ki_2 ?_
  refine zi_iadd (pc := 701) hX dL_law_701 ?_
  refine zi_scr (pc := 702) hX hsc dL_law_702 ?_
  refine zi_aload0 (pc := 703) hX dL_law_703 ?_
  refine zi_iload4 (pc := 704) hX dL_law_704 ?_
  refine zi_iconst (pc := 706) hX dL_law_706 ki_3 ?_
  refine zi_iadd (pc := 707) hX dL_law_707 ?_
  refine zi_scr (pc := 708) hX hsc dL_law_708 ?_
  refine zi_aload0 (pc := 709) hX dL_law_709 ?_
  refine zi_iload4 (pc := 710) hX dL_law_710 ?_
  refine zi_iconst (pc := 712) hX dL_law_712 ki_4 ?_
  refine zi_iadd (pc := 713) hX dL_law_713 ?_
  refine zi_scr (pc := 714) hX hsc dL_law_714 ?_
  refine zi_aload0 (pc := 715) hX dL_law_715 ?_
  refine zi_iload4 (pc := 716) hX dL_law_716 ?_
  refine zi_iconst (pc := 718) hX dL_law_718 ki_5 ?_
  refine zi_iadd (pc := 719) hX dL_law_719 ?_
  refine zi_scr (pc := 720) hX hsc dL_law_720 ?_
  refine zi_if_eq (pc := 721) 728 hX dL_law_721 (by decide) (fun _ => ?_) (fun _ => ?_)
  · refine zi_iconst (pc := 728) hX dL_law_728 ki_0 ?_
    refine zi_aload3 (pc := 729) hX dL_law_729 ?_
    refine zi_callI (zc_statW (pc := 730) hX dL_law_730 tm_1121 md_L_say st_L_say (ct_La_say hX.sane (xs (x4 + (1 : Int32)).toNatClampNeg) (xs (x4 + (2 : Int32)).toNatClampNeg) (xs (x4 + (3 : Int32)).toNatClampNeg) (xs (x4 + (4 : Int32)).toNatClampNeg) (0 : Int32) g) rfl rfl (et_rsL rfl hu)) (fun v1 g2 => ?_)
    have hu2 : u + rm_La_say.cells ≤ 20000 := by have e0 : rm_La_say.cells = 3 := rfl; omega
    refine zi_istore5 (pc := 733) hX dL_law_733 rfl rfl ?_
    refine zi_aload2 (pc := 735) hX dL_law_735 ?_
    refine zi_aload0 (pc := 736) hX dL_law_736 ?_
    refine zi_iload4 (pc := 737) hX dL_law_737 ?_
    refine zi_iconst (pc := 739) hX dL_law_739 ki_1 ?_
    refine zi_iadd (pc := 740) hX dL_law_740 ?_
    refine zi_scr (pc := 741) hX hsc dL_law_741 ?_
    refine zi_aload0 (pc := 742) hX dL_law_742 ?_
    refine zi_iload4 (pc := 743) hX dL_law_743 ?_
    refine zi_iconst (pc := 745) hX dL_law_745 ki_2 ?_
    refine zi_iadd (pc := 746) hX dL_law_746 ?_
    refine zi_scr (pc := 747) hX hsc dL_law_747 ?_
    refine zi_aload0 (pc := 748) hX dL_law_748 ?_
    refine zi_iload4 (pc := 749) hX dL_law_749 ?_
    refine zi_iconst (pc := 751) hX dL_law_751 ki_3 ?_
    refine zi_iadd (pc := 752) hX dL_law_752 ?_
    refine zi_scr (pc := 753) hX hsc dL_law_753 ?_
    refine zi_aload0 (pc := 754) hX dL_law_754 ?_
    refine zi_iload4 (pc := 755) hX dL_law_755 ?_
    refine zi_iconst (pc := 757) hX dL_law_757 ki_4 ?_
    refine zi_iadd (pc := 758) hX dL_law_758 ?_
    refine zi_scr (pc := 759) hX hsc dL_law_759 ?_
    refine zi_aload0 (pc := 760) hX dL_law_760 ?_
    refine zi_iload4 (pc := 761) hX dL_law_761 ?_
    refine zi_iconst (pc := 763) hX dL_law_763 ki_5 ?_
    refine zi_iadd (pc := 764) hX dL_law_764 ?_
    refine zi_scr (pc := 765) hX hsc dL_law_765 ?_
    refine zi_if_eq (pc := 766) 773 hX dL_law_766 (by decide) (fun _ => ?_) (fun _ => ?_)
    · refine zi_iconst (pc := 773) hX dL_law_773 ki_0 ?_
      refine zi_callI (zc_virt (pc := 774) hX dL_law_774 tm_1737 md_X10_say mi_X10_say ly_61 (ct_Mo_say hX.sane (xs (x4 + (1 : Int32)).toNatClampNeg) (xs (x4 + (2 : Int32)).toNatClampNeg) (xs (x4 + (3 : Int32)).toNatClampNeg) (xs (x4 + (4 : Int32)).toNatClampNeg) (0 : Int32) g2) rfl rfl (et_rsL rfl hu2)) (fun v3 g4 => ?_)
      have hu4 : u + rm_La_say.cells + rm_Mo_say.cells ≤ 20000 := by have e0 : rm_La_say.cells = 3 := rfl; have e1 : rm_Mo_say.cells = 0 := rfl; omega
      refine zi_istore6 (pc := 777) hX dL_law_777 rfl rfl ?_
      refine zi_aload2 (pc := 779) hX dL_law_779 ?_
      refine zi_callI (zc_virt (pc := 780) hX dL_law_780 tm_1571 md_X10_thrown mi_X10_thrown ly_61 (ct_Mo_thrown hX.sane g4) rfl rfl (et_rsL rfl hu4)) (fun v5 g6 => ?_)
      have hu6 : u + rm_La_say.cells + rm_Mo_say.cells + rm_Mo_thrown.cells ≤ 20000 := by have e0 : rm_La_say.cells = 3 := rfl; have e1 : rm_Mo_say.cells = 0 := rfl; have e2 : rm_Mo_thrown.cells = 0 := rfl; omega
      refine zi_iload5 (pc := 783) hX dL_law_783 ?_
      refine zi_icmp_eq (pc := 785) 790 hX dL_law_785 (by decide) (fun _ => ?_) (fun _ => ?_)
      · refine zi_iload5 (pc := 790) hX dL_law_790 ?_
        refine zi_if_ne (pc := 792) 807 hX dL_law_792 (by decide) (fun _ => ?_) (fun _ => ?_)
        · refine zi_aload3 (pc := 795) hX dL_law_795 ?_
          refine zi_iconst (pc := 796) hX dL_law_796 ki_0 ?_
          refine zi_lald (pc := 797) hX dL_law_797 ly_96 ?_
          refine zi_iload6 (pc := 798) hX dL_law_798 ?_
          refine zi_i2l (pc := 800) hX dL_law_800 ?_
          refine zi_lcmp (pc := 801) hX dL_law_801 ?_
          refine zi_if_eq (pc := 802) 807 hX dL_law_802 (by decide) (fun _ => ?_) (fun _ => ?_)
          · refine zi_goto (pc := 807) 1631 hX dL_law_807 (by decide) ?_
            refine zi_iinc4 (pc := 1631) hX dL_law_1631 (kn_6 _) rfl rfl ?_
            refine zi_goto (pc := 1634) 23 hX dL_law_1634 (by decide) ?_
            refine zi_drop (le_s (le_s (le_s (le_s (le_s (le_n (le_n le_nil))))))) ?_; exact hr _ (by have e0 : rm_La_say.cells = 3 := rfl; have e1 : rm_Mo_say.cells = 0 := rfl; have e2 : rm_Mo_thrown.cells = 0 := rfl; omega) g6
          · refine zi_iconst (pc := 805) hX dL_law_805 ki_0 ?_
            exact zi_ret (pc := 806) hX dL_law_806 et_z0 rfl (et_lc hu6) (et_ls hu6)
        · refine zi_goto (pc := 807) 1631 hX dL_law_807 (by decide) ?_
          refine zi_iinc4 (pc := 1631) hX dL_law_1631 (kn_6 _) rfl rfl ?_
          refine zi_goto (pc := 1634) 23 hX dL_law_1634 (by decide) ?_
          refine zi_drop (le_s (le_s (le_s (le_s (le_s (le_n (le_n le_nil))))))) ?_; exact hr _ (by have e0 : rm_La_say.cells = 3 := rfl; have e1 : rm_Mo_say.cells = 0 := rfl; have e2 : rm_Mo_thrown.cells = 0 := rfl; omega) g6
      · refine zi_iconst (pc := 788) hX dL_law_788 ki_0 ?_
        exact zi_ret (pc := 789) hX dL_law_789 et_z0 rfl (et_lc hu6) (et_ls hu6)
    · refine zi_iconst (pc := 769) hX dL_law_769 ki_1 ?_
      refine zi_goto (pc := 770) 774 hX dL_law_770 (by decide) ?_
      refine zi_callI (zc_virt (pc := 774) hX dL_law_774 tm_1737 md_X10_say mi_X10_say ly_61 (ct_Mo_say hX.sane (xs (x4 + (1 : Int32)).toNatClampNeg) (xs (x4 + (2 : Int32)).toNatClampNeg) (xs (x4 + (3 : Int32)).toNatClampNeg) (xs (x4 + (4 : Int32)).toNatClampNeg) (1 : Int32) g2) rfl rfl (et_rsL rfl hu2)) (fun v9 g10 => ?_)
      have hu10 : u + rm_La_say.cells + rm_Mo_say.cells ≤ 20000 := by have e0 : rm_La_say.cells = 3 := rfl; have e1 : rm_Mo_say.cells = 0 := rfl; omega
      refine zi_istore6 (pc := 777) hX dL_law_777 rfl rfl ?_
      refine zi_aload2 (pc := 779) hX dL_law_779 ?_
      refine zi_callI (zc_virt (pc := 780) hX dL_law_780 tm_1571 md_X10_thrown mi_X10_thrown ly_61 (ct_Mo_thrown hX.sane g10) rfl rfl (et_rsL rfl hu10)) (fun v11 g12 => ?_)
      have hu12 : u + rm_La_say.cells + rm_Mo_say.cells + rm_Mo_thrown.cells ≤ 20000 := by have e0 : rm_La_say.cells = 3 := rfl; have e1 : rm_Mo_say.cells = 0 := rfl; have e2 : rm_Mo_thrown.cells = 0 := rfl; omega
      refine zi_iload5 (pc := 783) hX dL_law_783 ?_
      refine zi_icmp_eq (pc := 785) 790 hX dL_law_785 (by decide) (fun _ => ?_) (fun _ => ?_)
      · refine zi_iload5 (pc := 790) hX dL_law_790 ?_
        refine zi_if_ne (pc := 792) 807 hX dL_law_792 (by decide) (fun _ => ?_) (fun _ => ?_)
        · refine zi_aload3 (pc := 795) hX dL_law_795 ?_
          refine zi_iconst (pc := 796) hX dL_law_796 ki_0 ?_
          refine zi_lald (pc := 797) hX dL_law_797 ly_96 ?_
          refine zi_iload6 (pc := 798) hX dL_law_798 ?_
          refine zi_i2l (pc := 800) hX dL_law_800 ?_
          refine zi_lcmp (pc := 801) hX dL_law_801 ?_
          refine zi_if_eq (pc := 802) 807 hX dL_law_802 (by decide) (fun _ => ?_) (fun _ => ?_)
          · refine zi_goto (pc := 807) 1631 hX dL_law_807 (by decide) ?_
            refine zi_iinc4 (pc := 1631) hX dL_law_1631 (kn_6 _) rfl rfl ?_
            refine zi_goto (pc := 1634) 23 hX dL_law_1634 (by decide) ?_
            refine zi_drop (le_s (le_s (le_s (le_s (le_s (le_n (le_n le_nil))))))) ?_; exact hr _ (by have e0 : rm_La_say.cells = 3 := rfl; have e1 : rm_Mo_say.cells = 0 := rfl; have e2 : rm_Mo_thrown.cells = 0 := rfl; omega) g12
          · refine zi_iconst (pc := 805) hX dL_law_805 ki_0 ?_
            exact zi_ret (pc := 806) hX dL_law_806 et_z0 rfl (et_lc hu12) (et_ls hu12)
        · refine zi_goto (pc := 807) 1631 hX dL_law_807 (by decide) ?_
          refine zi_iinc4 (pc := 1631) hX dL_law_1631 (kn_6 _) rfl rfl ?_
          refine zi_goto (pc := 1634) 23 hX dL_law_1634 (by decide) ?_
          refine zi_drop (le_s (le_s (le_s (le_s (le_s (le_n (le_n le_nil))))))) ?_; exact hr _ (by have e0 : rm_La_say.cells = 3 := rfl; have e1 : rm_Mo_say.cells = 0 := rfl; have e2 : rm_Mo_thrown.cells = 0 := rfl; omega) g12
      · refine zi_iconst (pc := 788) hX dL_law_788 ki_0 ?_
        exact zi_ret (pc := 789) hX dL_law_789 et_z0 rfl (et_lc hu12) (et_ls hu12)
  · refine zi_iconst (pc := 724) hX dL_law_724 ki_1 ?_
    refine zi_goto (pc := 725) 729 hX dL_law_725 (by decide) ?_
    refine zi_aload3 (pc := 729) hX dL_law_729 ?_
    refine zi_callI (zc_statW (pc := 730) hX dL_law_730 tm_1121 md_L_say st_L_say (ct_La_say hX.sane (xs (x4 + (1 : Int32)).toNatClampNeg) (xs (x4 + (2 : Int32)).toNatClampNeg) (xs (x4 + (3 : Int32)).toNatClampNeg) (xs (x4 + (4 : Int32)).toNatClampNeg) (1 : Int32) g) rfl rfl (et_rsL rfl hu)) (fun v15 g16 => ?_)
    have hu16 : u + rm_La_say.cells ≤ 20000 := by have e0 : rm_La_say.cells = 3 := rfl; omega
    refine zi_istore5 (pc := 733) hX dL_law_733 rfl rfl ?_
    refine zi_aload2 (pc := 735) hX dL_law_735 ?_
    refine zi_aload0 (pc := 736) hX dL_law_736 ?_
    refine zi_iload4 (pc := 737) hX dL_law_737 ?_
    refine zi_iconst (pc := 739) hX dL_law_739 ki_1 ?_
    refine zi_iadd (pc := 740) hX dL_law_740 ?_
    refine zi_scr (pc := 741) hX hsc dL_law_741 ?_
    refine zi_aload0 (pc := 742) hX dL_law_742 ?_
    refine zi_iload4 (pc := 743) hX dL_law_743 ?_
    refine zi_iconst (pc := 745) hX dL_law_745 ki_2 ?_
    refine zi_iadd (pc := 746) hX dL_law_746 ?_
    refine zi_scr (pc := 747) hX hsc dL_law_747 ?_
    refine zi_aload0 (pc := 748) hX dL_law_748 ?_
    refine zi_iload4 (pc := 749) hX dL_law_749 ?_
    refine zi_iconst (pc := 751) hX dL_law_751 ki_3 ?_
    refine zi_iadd (pc := 752) hX dL_law_752 ?_
    refine zi_scr (pc := 753) hX hsc dL_law_753 ?_
    refine zi_aload0 (pc := 754) hX dL_law_754 ?_
    refine zi_iload4 (pc := 755) hX dL_law_755 ?_
    refine zi_iconst (pc := 757) hX dL_law_757 ki_4 ?_
    refine zi_iadd (pc := 758) hX dL_law_758 ?_
    refine zi_scr (pc := 759) hX hsc dL_law_759 ?_
    refine zi_aload0 (pc := 760) hX dL_law_760 ?_
    refine zi_iload4 (pc := 761) hX dL_law_761 ?_
    refine zi_iconst (pc := 763) hX dL_law_763 ki_5 ?_
    refine zi_iadd (pc := 764) hX dL_law_764 ?_
    refine zi_scr (pc := 765) hX hsc dL_law_765 ?_
    refine zi_if_eq (pc := 766) 773 hX dL_law_766 (by decide) (fun _ => ?_) (fun _ => ?_)
    · refine zi_iconst (pc := 773) hX dL_law_773 ki_0 ?_
      refine zi_callI (zc_virt (pc := 774) hX dL_law_774 tm_1737 md_X10_say mi_X10_say ly_61 (ct_Mo_say hX.sane (xs (x4 + (1 : Int32)).toNatClampNeg) (xs (x4 + (2 : Int32)).toNatClampNeg) (xs (x4 + (3 : Int32)).toNatClampNeg) (xs (x4 + (4 : Int32)).toNatClampNeg) (0 : Int32) g16) rfl rfl (et_rsL rfl hu16)) (fun v17 g18 => ?_)
      have hu18 : u + rm_La_say.cells + rm_Mo_say.cells ≤ 20000 := by have e0 : rm_La_say.cells = 3 := rfl; have e1 : rm_Mo_say.cells = 0 := rfl; omega
      refine zi_istore6 (pc := 777) hX dL_law_777 rfl rfl ?_
      refine zi_aload2 (pc := 779) hX dL_law_779 ?_
      refine zi_callI (zc_virt (pc := 780) hX dL_law_780 tm_1571 md_X10_thrown mi_X10_thrown ly_61 (ct_Mo_thrown hX.sane g18) rfl rfl (et_rsL rfl hu18)) (fun v19 g20 => ?_)
      have hu20 : u + rm_La_say.cells + rm_Mo_say.cells + rm_Mo_thrown.cells ≤ 20000 := by have e0 : rm_La_say.cells = 3 := rfl; have e1 : rm_Mo_say.cells = 0 := rfl; have e2 : rm_Mo_thrown.cells = 0 := rfl; omega
      refine zi_iload5 (pc := 783) hX dL_law_783 ?_
      refine zi_icmp_eq (pc := 785) 790 hX dL_law_785 (by decide) (fun _ => ?_) (fun _ => ?_)
      · refine zi_iload5 (pc := 790) hX dL_law_790 ?_
        refine zi_if_ne (pc := 792) 807 hX dL_law_792 (by decide) (fun _ => ?_) (fun _ => ?_)
        · refine zi_aload3 (pc := 795) hX dL_law_795 ?_
          refine zi_iconst (pc := 796) hX dL_law_796 ki_0 ?_
          refine zi_lald (pc := 797) hX dL_law_797 ly_96 ?_
          refine zi_iload6 (pc := 798) hX dL_law_798 ?_
          refine zi_i2l (pc := 800) hX dL_law_800 ?_
          refine zi_lcmp (pc := 801) hX dL_law_801 ?_
          refine zi_if_eq (pc := 802) 807 hX dL_law_802 (by decide) (fun _ => ?_) (fun _ => ?_)
          · refine zi_goto (pc := 807) 1631 hX dL_law_807 (by decide) ?_
            refine zi_iinc4 (pc := 1631) hX dL_law_1631 (kn_6 _) rfl rfl ?_
            refine zi_goto (pc := 1634) 23 hX dL_law_1634 (by decide) ?_
            refine zi_drop (le_s (le_s (le_s (le_s (le_s (le_n (le_n le_nil))))))) ?_; exact hr _ (by have e0 : rm_La_say.cells = 3 := rfl; have e1 : rm_Mo_say.cells = 0 := rfl; have e2 : rm_Mo_thrown.cells = 0 := rfl; omega) g20
          · refine zi_iconst (pc := 805) hX dL_law_805 ki_0 ?_
            exact zi_ret (pc := 806) hX dL_law_806 et_z0 rfl (et_lc hu20) (et_ls hu20)
        · refine zi_goto (pc := 807) 1631 hX dL_law_807 (by decide) ?_
          refine zi_iinc4 (pc := 1631) hX dL_law_1631 (kn_6 _) rfl rfl ?_
          refine zi_goto (pc := 1634) 23 hX dL_law_1634 (by decide) ?_
          refine zi_drop (le_s (le_s (le_s (le_s (le_s (le_n (le_n le_nil))))))) ?_; exact hr _ (by have e0 : rm_La_say.cells = 3 := rfl; have e1 : rm_Mo_say.cells = 0 := rfl; have e2 : rm_Mo_thrown.cells = 0 := rfl; omega) g20
      · refine zi_iconst (pc := 788) hX dL_law_788 ki_0 ?_
        exact zi_ret (pc := 789) hX dL_law_789 et_z0 rfl (et_lc hu20) (et_ls hu20)
    · refine zi_iconst (pc := 769) hX dL_law_769 ki_1 ?_
      refine zi_goto (pc := 770) 774 hX dL_law_770 (by decide) ?_
      refine zi_callI (zc_virt (pc := 774) hX dL_law_774 tm_1737 md_X10_say mi_X10_say ly_61 (ct_Mo_say hX.sane (xs (x4 + (1 : Int32)).toNatClampNeg) (xs (x4 + (2 : Int32)).toNatClampNeg) (xs (x4 + (3 : Int32)).toNatClampNeg) (xs (x4 + (4 : Int32)).toNatClampNeg) (1 : Int32) g16) rfl rfl (et_rsL rfl hu16)) (fun v23 g24 => ?_)
      have hu24 : u + rm_La_say.cells + rm_Mo_say.cells ≤ 20000 := by have e0 : rm_La_say.cells = 3 := rfl; have e1 : rm_Mo_say.cells = 0 := rfl; omega
      refine zi_istore6 (pc := 777) hX dL_law_777 rfl rfl ?_
      refine zi_aload2 (pc := 779) hX dL_law_779 ?_
      refine zi_callI (zc_virt (pc := 780) hX dL_law_780 tm_1571 md_X10_thrown mi_X10_thrown ly_61 (ct_Mo_thrown hX.sane g24) rfl rfl (et_rsL rfl hu24)) (fun v25 g26 => ?_)
      have hu26 : u + rm_La_say.cells + rm_Mo_say.cells + rm_Mo_thrown.cells ≤ 20000 := by have e0 : rm_La_say.cells = 3 := rfl; have e1 : rm_Mo_say.cells = 0 := rfl; have e2 : rm_Mo_thrown.cells = 0 := rfl; omega
      refine zi_iload5 (pc := 783) hX dL_law_783 ?_
      refine zi_icmp_eq (pc := 785) 790 hX dL_law_785 (by decide) (fun _ => ?_) (fun _ => ?_)
      · refine zi_iload5 (pc := 790) hX dL_law_790 ?_
        refine zi_if_ne (pc := 792) 807 hX dL_law_792 (by decide) (fun _ => ?_) (fun _ => ?_)
        · refine zi_aload3 (pc := 795) hX dL_law_795 ?_
          refine zi_iconst (pc := 796) hX dL_law_796 ki_0 ?_
          refine zi_lald (pc := 797) hX dL_law_797 ly_96 ?_
          refine zi_iload6 (pc := 798) hX dL_law_798 ?_
          refine zi_i2l (pc := 800) hX dL_law_800 ?_
          refine zi_lcmp (pc := 801) hX dL_law_801 ?_
          refine zi_if_eq (pc := 802) 807 hX dL_law_802 (by decide) (fun _ => ?_) (fun _ => ?_)
          · refine zi_goto (pc := 807) 1631 hX dL_law_807 (by decide) ?_
            refine zi_iinc4 (pc := 1631) hX dL_law_1631 (kn_6 _) rfl rfl ?_
            refine zi_goto (pc := 1634) 23 hX dL_law_1634 (by decide) ?_
            refine zi_drop (le_s (le_s (le_s (le_s (le_s (le_n (le_n le_nil))))))) ?_; exact hr _ (by have e0 : rm_La_say.cells = 3 := rfl; have e1 : rm_Mo_say.cells = 0 := rfl; have e2 : rm_Mo_thrown.cells = 0 := rfl; omega) g26
          · refine zi_iconst (pc := 805) hX dL_law_805 ki_0 ?_
            exact zi_ret (pc := 806) hX dL_law_806 et_z0 rfl (et_lc hu26) (et_ls hu26)
        · refine zi_goto (pc := 807) 1631 hX dL_law_807 (by decide) ?_
          refine zi_iinc4 (pc := 1631) hX dL_law_1631 (kn_6 _) rfl rfl ?_
          refine zi_goto (pc := 1634) 23 hX dL_law_1634 (by decide) ?_
          refine zi_drop (le_s (le_s (le_s (le_s (le_s (le_n (le_n le_nil))))))) ?_; exact hr _ (by have e0 : rm_La_say.cells = 3 := rfl; have e1 : rm_Mo_say.cells = 0 := rfl; have e2 : rm_Mo_thrown.cells = 0 := rfl; omega) g26
      · refine zi_iconst (pc := 788) hX dL_law_788 ki_0 ?_
        exact zi_ret (pc := 789) hX dL_law_789 et_z0 rfl (et_lc hu26) (et_ls hu26)
def fn_La_law_10 (L : Nat) (xs : Nat → Int32) (r23 : Int32 → et_G → Option (Int32 × et_G)) (x4 : Int32) (g : et_G) : Option (Int32 × et_G) :=
  et_ck (et_ib (x4 + (1 : Int32)) L) (
  et_ck (et_ib (x4 + (2 : Int32)) L) (
  et_ck (et_ib (x4 + (3 : Int32)) L) (
  et_bd (fn_La_utter (xs (x4 + (1 : Int32)).toNatClampNeg) (xs (x4 + (2 : Int32)).toNatClampNeg) (xs (x4 + (3 : Int32)).toNatClampNeg) g) (fun v1 g2 =>
  et_ck (et_ib (x4 + (1 : Int32)) L) (
  et_ck (et_ib (x4 + (2 : Int32)) L) (
  et_ck (et_ib (x4 + (3 : Int32)) L) (
  et_bd (fn_Mo_utter (xs (x4 + (1 : Int32)).toNatClampNeg) (xs (x4 + (2 : Int32)).toNatClampNeg) (xs (x4 + (3 : Int32)).toNatClampNeg) g2) (fun v3 g4 =>
  et_bd (fn_Mo_thrown g4) (fun v5 g6 =>
  if v5 = v1 then
    if v1 = 0 then
      et_ck (et_ib (0 : Int32) 1) (
      if (lg_cmp (g6.2 96 (0 : Int32).toNatClampNeg) (v3.toInt64)) = 0 then
        r23 (x4 + (6 : Int32)) g6
      else
        some ((0 : Int32), g6))
    else
      r23 (x4 + (6 : Int32)) g6
  else
    some ((0 : Int32), g6))))))))))
theorem zl_10 {X : et_X} {w : et_W} {L : Nat} {xs : Nat → Int32} (hX : et_Gd X w code RL 7 (some .boolean) [] room_1) (hsc : et_Sc X w L xs) {u : Nat} (hu : u ≤ 20000 - 10) (r23 : Int32 → et_G → Option (Int32 × et_G)) (x4 : Int32) (hr : ∀ u2, u2 ≤ u + 3 → ∀ (g : et_G), et_Z X w u2 et_eI 23 [some (.ref (et_ad w 3000)), some (.ref (et_ad w 0)), some (.ref (et_ad w 61)), some (.ref (et_ad w 96)), some (.int (x4 + (6 : Int32))), none, none] [] g (r23 (x4 + (6 : Int32)) g)) (g : et_G) : et_Z X w u et_eI 810 [some (.ref (et_ad w 3000)), some (.ref (et_ad w 0)), some (.ref (et_ad w 61)), some (.ref (et_ad w 96)), some (.int x4), none, none] [] g (fn_La_law_10 L xs r23 x4 g) := by
  have hu0 : u ≤ 19990 := hu
  have hu : u ≤ 20000 := by omega
  unfold fn_La_law_10
  refine zi_aload1 (pc := 810) hX dL_law_810 ?_
  refine zi_aload0 (pc := 811) hX dL_law_811 ?_
  refine zi_iload4 (pc := 812) hX dL_law_812 ?_
  refine zi_iconst (pc := 814) hX dL_law_814 ki_1 ?_
  refine zi_iadd (pc := 815) hX dL_law_815 ?_
  refine zi_scr (pc := 816) hX hsc dL_law_816 ?_
  refine zi_aload0 (pc := 817) hX dL_law_817 ?_
  refine zi_iload4 (pc := 818) hX dL_law_818 ?_
  refine zi_iconst (pc := 820) hX dL_law_820 ki_2 ?_
  refine zi_iadd (pc := 821) hX dL_law_821 ?_
  refine zi_scr (pc := 822) hX hsc dL_law_822 ?_
  refine zi_aload0 (pc := 823) hX dL_law_823 ?_
  refine zi_iload4 (pc := 824) hX dL_law_824 ?_
  refine zi_iconst (pc := 826) hX dL_law_826 ki_3 ?_
  refine zi_iadd (pc := 827) hX dL_law_827 ?_
  refine zi_scr (pc := 828) hX hsc dL_law_828 ?_
  refine zi_aload3 (pc := 829) hX dL_law_829 ?_
  refine zi_callI (zc_statW (pc := 830) hX dL_law_830 tm_1132 md_L_utter st_L_utter (ct_La_utter hX.sane (xs (x4 + (1 : Int32)).toNatClampNeg) (xs (x4 + (2 : Int32)).toNatClampNeg) (xs (x4 + (3 : Int32)).toNatClampNeg) g) rfl rfl (et_rsL rfl hu)) (fun v1 g2 => ?_)
  have hu2 : u + rm_La_utter.cells ≤ 20000 := by have e0 : rm_La_utter.cells = 3 := rfl; omega
  refine zi_istore5 (pc := 833) hX dL_law_833 rfl rfl ?_
  refine zi_aload2 (pc := 835) hX dL_law_835 ?_
  refine zi_aload0 (pc := 836) hX dL_law_836 ?_
  refine zi_iload4 (pc := 837) hX dL_law_837 ?_
  refine zi_iconst (pc := 839) hX dL_law_839 ki_1 ?_
  refine zi_iadd (pc := 840) hX dL_law_840 ?_
  refine zi_scr (pc := 841) hX hsc dL_law_841 ?_
  refine zi_aload0 (pc := 842) hX dL_law_842 ?_
  refine zi_iload4 (pc := 843) hX dL_law_843 ?_
  refine zi_iconst (pc := 845) hX dL_law_845 ki_2 ?_
  refine zi_iadd (pc := 846) hX dL_law_846 ?_
  refine zi_scr (pc := 847) hX hsc dL_law_847 ?_
  refine zi_aload0 (pc := 848) hX dL_law_848 ?_
  refine zi_iload4 (pc := 849) hX dL_law_849 ?_
  refine zi_iconst (pc := 851) hX dL_law_851 ki_3 ?_
  refine zi_iadd (pc := 852) hX dL_law_852 ?_
  refine zi_scr (pc := 853) hX hsc dL_law_853 ?_
  refine zi_callI (zc_virt (pc := 854) hX dL_law_854 tm_1749 md_X10_utter mi_X10_utter ly_61 (ct_Mo_utter hX.sane (xs (x4 + (1 : Int32)).toNatClampNeg) (xs (x4 + (2 : Int32)).toNatClampNeg) (xs (x4 + (3 : Int32)).toNatClampNeg) g2) rfl rfl (et_rsL rfl hu2)) (fun v3 g4 => ?_)
  have hu4 : u + rm_La_utter.cells + rm_Mo_utter.cells ≤ 20000 := by have e0 : rm_La_utter.cells = 3 := rfl; have e1 : rm_Mo_utter.cells = 0 := rfl; omega
  refine zi_istore6 (pc := 857) hX dL_law_857 rfl rfl ?_
  refine zi_aload2 (pc := 859) hX dL_law_859 ?_
  refine zi_callI (zc_virt (pc := 860) hX dL_law_860 tm_1571 md_X10_thrown mi_X10_thrown ly_61 (ct_Mo_thrown hX.sane g4) rfl rfl (et_rsL rfl hu4)) (fun v5 g6 => ?_)
  have hu6 : u + rm_La_utter.cells + rm_Mo_utter.cells + rm_Mo_thrown.cells ≤ 20000 := by have e0 : rm_La_utter.cells = 3 := rfl; have e1 : rm_Mo_utter.cells = 0 := rfl; have e2 : rm_Mo_thrown.cells = 0 := rfl; omega
  refine zi_iload5 (pc := 863) hX dL_law_863 ?_
  refine zi_icmp_eq (pc := 865) 870 hX dL_law_865 (by decide) (fun _ => ?_) (fun _ => ?_)
  · refine zi_iload5 (pc := 870) hX dL_law_870 ?_
    refine zi_if_ne (pc := 872) 887 hX dL_law_872 (by decide) (fun _ => ?_) (fun _ => ?_)
    · refine zi_aload3 (pc := 875) hX dL_law_875 ?_
      refine zi_iconst (pc := 876) hX dL_law_876 ki_0 ?_
      refine zi_lald (pc := 877) hX dL_law_877 ly_96 ?_
      refine zi_iload6 (pc := 878) hX dL_law_878 ?_
      refine zi_i2l (pc := 880) hX dL_law_880 ?_
      refine zi_lcmp (pc := 881) hX dL_law_881 ?_
      refine zi_if_eq (pc := 882) 887 hX dL_law_882 (by decide) (fun _ => ?_) (fun _ => ?_)
      · refine zi_goto (pc := 887) 1631 hX dL_law_887 (by decide) ?_
        refine zi_iinc4 (pc := 1631) hX dL_law_1631 (kn_6 _) rfl rfl ?_
        refine zi_goto (pc := 1634) 23 hX dL_law_1634 (by decide) ?_
        refine zi_drop (le_s (le_s (le_s (le_s (le_s (le_n (le_n le_nil))))))) ?_; exact hr _ (by have e0 : rm_La_utter.cells = 3 := rfl; have e1 : rm_Mo_utter.cells = 0 := rfl; have e2 : rm_Mo_thrown.cells = 0 := rfl; omega) g6
      · refine zi_iconst (pc := 885) hX dL_law_885 ki_0 ?_
        exact zi_ret (pc := 886) hX dL_law_886 et_z0 rfl (et_lc hu6) (et_ls hu6)
    · refine zi_goto (pc := 887) 1631 hX dL_law_887 (by decide) ?_
      refine zi_iinc4 (pc := 1631) hX dL_law_1631 (kn_6 _) rfl rfl ?_
      refine zi_goto (pc := 1634) 23 hX dL_law_1634 (by decide) ?_
      refine zi_drop (le_s (le_s (le_s (le_s (le_s (le_n (le_n le_nil))))))) ?_; exact hr _ (by have e0 : rm_La_utter.cells = 3 := rfl; have e1 : rm_Mo_utter.cells = 0 := rfl; have e2 : rm_Mo_thrown.cells = 0 := rfl; omega) g6
  · refine zi_iconst (pc := 868) hX dL_law_868 ki_0 ?_
    exact zi_ret (pc := 869) hX dL_law_869 et_z0 rfl (et_lc hu6) (et_ls hu6)
def fn_La_law_11 (L : Nat) (xs : Nat → Int32) (r23 : Int32 → et_G → Option (Int32 × et_G)) (x4 : Int32) (g : et_G) : Option (Int32 × et_G) :=
  et_bd (fn_Et_unsay g) (fun v1 g2 =>
  et_bd (fn_Mo_unsay g2) (fun v3 g4 =>
  if v1 = v3 then
    r23 (x4 + (6 : Int32)) g4
  else
    some ((0 : Int32), g4)))
theorem zl_11 {X : et_X} {w : et_W} {L : Nat} {xs : Nat → Int32} (hX : et_Gd X w code RL 7 (some .boolean) [] room_1) (hsc : et_Sc X w L xs) {u : Nat} (hu : u ≤ 20000 - 10) (r23 : Int32 → et_G → Option (Int32 × et_G)) (x4 : Int32) (hr : ∀ u2, u2 ≤ u + 3 → ∀ (g : et_G), et_Z X w u2 et_eI 23 [some (.ref (et_ad w 3000)), some (.ref (et_ad w 0)), some (.ref (et_ad w 61)), some (.ref (et_ad w 96)), some (.int (x4 + (6 : Int32))), none, none] [] g (r23 (x4 + (6 : Int32)) g)) (g : et_G) : et_Z X w u et_eI 890 [some (.ref (et_ad w 3000)), some (.ref (et_ad w 0)), some (.ref (et_ad w 61)), some (.ref (et_ad w 96)), some (.int x4), none, none] [] g (fn_La_law_11 L xs r23 x4 g) := by
  have hu0 : u ≤ 19990 := hu
  have hu : u ≤ 20000 := by omega
  unfold fn_La_law_11
  refine zi_aload1 (pc := 890) hX dL_law_890 ?_
  refine zi_callI (zc_virt (pc := 891) hX dL_law_891 tm_558 md_X9_unsay mi_X9_unsay ly_0 (ct_Et_unsay hX.sane g) rfl rfl (et_rsL rfl hu)) (fun v1 g2 => ?_)
  have hu2 : u + rm_Et_unsay.cells ≤ 20000 := by have e0 : rm_Et_unsay.cells = 0 := rfl; omega
  refine zi_aload2 (pc := 894) hX dL_law_894 ?_
  refine zi_callI (zc_virt (pc := 895) hX dL_law_895 tm_1765 md_X10_unsay mi_X10_unsay ly_61 (ct_Mo_unsay hX.sane g2) rfl rfl (et_rsL rfl hu2)) (fun v3 g4 => ?_)
  have hu4 : u + rm_Et_unsay.cells + rm_Mo_unsay.cells ≤ 20000 := by have e0 : rm_Et_unsay.cells = 0 := rfl; have e1 : rm_Mo_unsay.cells = 0 := rfl; omega
  refine zi_icmp_eq (pc := 898) 1631 hX dL_law_898 (by decide) (fun _ => ?_) (fun _ => ?_)
  · refine zi_iinc4 (pc := 1631) hX dL_law_1631 (kn_6 _) rfl rfl ?_
    refine zi_goto (pc := 1634) 23 hX dL_law_1634 (by decide) ?_
    exact hr _ (by have e0 : rm_Et_unsay.cells = 0 := rfl; have e1 : rm_Mo_unsay.cells = 0 := rfl; omega) g4
  · refine zi_iconst (pc := 901) hX dL_law_901 ki_0 ?_
    exact zi_ret (pc := 902) hX dL_law_902 et_z0 rfl (et_lc hu4) (et_ls hu4)
def fn_La_law_12 (L : Nat) (xs : Nat → Int32) (r23 : Int32 → et_G → Option (Int32 × et_G)) (x4 : Int32) (g : et_G) : Option (Int32 × et_G) :=
  et_ck (et_ib (x4 + (1 : Int32)) L) (
  et_ck (et_ib (x4 + (2 : Int32)) L) (
  et_bd (fn_La_saying (xs (x4 + (1 : Int32)).toNatClampNeg) (xs (x4 + (2 : Int32)).toNatClampNeg) g) (fun v1 g2 =>
  et_ck (et_ib (x4 + (1 : Int32)) L) (
  et_ck (et_ib (x4 + (2 : Int32)) L) (
  et_bd (fn_Mo_saying (xs (x4 + (1 : Int32)).toNatClampNeg) (xs (x4 + (2 : Int32)).toNatClampNeg) g2) (fun v3 g4 =>
  et_bd (fn_Mo_thrown g4) (fun v5 g6 =>
  if v5 = v1 then
    if v1 = 0 then
      et_ck (et_ib (0 : Int32) 1) (
      if (lg_cmp (g6.2 96 (0 : Int32).toNatClampNeg) (v3.toInt64)) = 0 then
        r23 (x4 + (6 : Int32)) g6
      else
        some ((0 : Int32), g6))
    else
      r23 (x4 + (6 : Int32)) g6
  else
    some ((0 : Int32), g6))))))))
theorem zl_12 {X : et_X} {w : et_W} {L : Nat} {xs : Nat → Int32} (hX : et_Gd X w code RL 7 (some .boolean) [] room_1) (hsc : et_Sc X w L xs) {u : Nat} (hu : u ≤ 20000 - 10) (r23 : Int32 → et_G → Option (Int32 × et_G)) (x4 : Int32) (hr : ∀ u2, u2 ≤ u + 3 → ∀ (g : et_G), et_Z X w u2 et_eI 23 [some (.ref (et_ad w 3000)), some (.ref (et_ad w 0)), some (.ref (et_ad w 61)), some (.ref (et_ad w 96)), some (.int (x4 + (6 : Int32))), none, none] [] g (r23 (x4 + (6 : Int32)) g)) (g : et_G) : et_Z X w u et_eI 903 [some (.ref (et_ad w 3000)), some (.ref (et_ad w 0)), some (.ref (et_ad w 61)), some (.ref (et_ad w 96)), some (.int x4), none, none] [] g (fn_La_law_12 L xs r23 x4 g) := by
  have hu0 : u ≤ 19990 := hu
  have hu : u ≤ 20000 := by omega
  unfold fn_La_law_12
  refine zi_aload1 (pc := 903) hX dL_law_903 ?_
  refine zi_aload0 (pc := 904) hX dL_law_904 ?_
  refine zi_iload4 (pc := 905) hX dL_law_905 ?_
  refine zi_iconst (pc := 907) hX dL_law_907 ki_1 ?_
  refine zi_iadd (pc := 908) hX dL_law_908 ?_
  refine zi_scr (pc := 909) hX hsc dL_law_909 ?_
  refine zi_aload0 (pc := 910) hX dL_law_910 ?_
  refine zi_iload4 (pc := 911) hX dL_law_911 ?_
  refine zi_iconst (pc := 913) hX dL_law_913 ki_2 ?_
  refine zi_iadd (pc := 914) hX dL_law_914 ?_
  refine zi_scr (pc := 915) hX hsc dL_law_915 ?_
  refine zi_aload3 (pc := 916) hX dL_law_916 ?_
  refine zi_callI (zc_statW (pc := 917) hX dL_law_917 tm_1165 md_L_saying st_L_saying (ct_La_saying hX.sane (xs (x4 + (1 : Int32)).toNatClampNeg) (xs (x4 + (2 : Int32)).toNatClampNeg) g) rfl rfl (et_rsL rfl hu)) (fun v1 g2 => ?_)
  have hu2 : u + rm_La_saying.cells ≤ 20000 := by have e0 : rm_La_saying.cells = 1 := rfl; omega
  refine zi_istore5 (pc := 920) hX dL_law_920 rfl rfl ?_
  refine zi_aload2 (pc := 922) hX dL_law_922 ?_
  refine zi_aload0 (pc := 923) hX dL_law_923 ?_
  refine zi_iload4 (pc := 924) hX dL_law_924 ?_
  refine zi_iconst (pc := 926) hX dL_law_926 ki_1 ?_
  refine zi_iadd (pc := 927) hX dL_law_927 ?_
  refine zi_scr (pc := 928) hX hsc dL_law_928 ?_
  refine zi_aload0 (pc := 929) hX dL_law_929 ?_
  refine zi_iload4 (pc := 930) hX dL_law_930 ?_
  refine zi_iconst (pc := 932) hX dL_law_932 ki_2 ?_
  refine zi_iadd (pc := 933) hX dL_law_933 ?_
  refine zi_scr (pc := 934) hX hsc dL_law_934 ?_
  refine zi_callI (zc_virt (pc := 935) hX dL_law_935 tm_1769 md_X10_saying mi_X10_saying ly_61 (ct_Mo_saying hX.sane (xs (x4 + (1 : Int32)).toNatClampNeg) (xs (x4 + (2 : Int32)).toNatClampNeg) g2) rfl rfl (et_rsL rfl hu2)) (fun v3 g4 => ?_)
  have hu4 : u + rm_La_saying.cells + rm_Mo_saying.cells ≤ 20000 := by have e0 : rm_La_saying.cells = 1 := rfl; have e1 : rm_Mo_saying.cells = 0 := rfl; omega
  refine zi_istore6 (pc := 938) hX dL_law_938 rfl rfl ?_
  refine zi_aload2 (pc := 940) hX dL_law_940 ?_
  refine zi_callI (zc_virt (pc := 941) hX dL_law_941 tm_1571 md_X10_thrown mi_X10_thrown ly_61 (ct_Mo_thrown hX.sane g4) rfl rfl (et_rsL rfl hu4)) (fun v5 g6 => ?_)
  have hu6 : u + rm_La_saying.cells + rm_Mo_saying.cells + rm_Mo_thrown.cells ≤ 20000 := by have e0 : rm_La_saying.cells = 1 := rfl; have e1 : rm_Mo_saying.cells = 0 := rfl; have e2 : rm_Mo_thrown.cells = 0 := rfl; omega
  refine zi_iload5 (pc := 944) hX dL_law_944 ?_
  refine zi_icmp_eq (pc := 946) 951 hX dL_law_946 (by decide) (fun _ => ?_) (fun _ => ?_)
  · refine zi_iload5 (pc := 951) hX dL_law_951 ?_
    refine zi_if_ne (pc := 953) 968 hX dL_law_953 (by decide) (fun _ => ?_) (fun _ => ?_)
    · refine zi_aload3 (pc := 956) hX dL_law_956 ?_
      refine zi_iconst (pc := 957) hX dL_law_957 ki_0 ?_
      refine zi_lald (pc := 958) hX dL_law_958 ly_96 ?_
      refine zi_iload6 (pc := 959) hX dL_law_959 ?_
      refine zi_i2l (pc := 961) hX dL_law_961 ?_
      refine zi_lcmp (pc := 962) hX dL_law_962 ?_
      refine zi_if_eq (pc := 963) 968 hX dL_law_963 (by decide) (fun _ => ?_) (fun _ => ?_)
      · refine zi_goto (pc := 968) 1631 hX dL_law_968 (by decide) ?_
        refine zi_iinc4 (pc := 1631) hX dL_law_1631 (kn_6 _) rfl rfl ?_
        refine zi_goto (pc := 1634) 23 hX dL_law_1634 (by decide) ?_
        refine zi_drop (le_s (le_s (le_s (le_s (le_s (le_n (le_n le_nil))))))) ?_; exact hr _ (by have e0 : rm_La_saying.cells = 1 := rfl; have e1 : rm_Mo_saying.cells = 0 := rfl; have e2 : rm_Mo_thrown.cells = 0 := rfl; omega) g6
      · refine zi_iconst (pc := 966) hX dL_law_966 ki_0 ?_
        exact zi_ret (pc := 967) hX dL_law_967 et_z0 rfl (et_lc hu6) (et_ls hu6)
    · refine zi_goto (pc := 968) 1631 hX dL_law_968 (by decide) ?_
      refine zi_iinc4 (pc := 1631) hX dL_law_1631 (kn_6 _) rfl rfl ?_
      refine zi_goto (pc := 1634) 23 hX dL_law_1634 (by decide) ?_
      refine zi_drop (le_s (le_s (le_s (le_s (le_s (le_n (le_n le_nil))))))) ?_; exact hr _ (by have e0 : rm_La_saying.cells = 1 := rfl; have e1 : rm_Mo_saying.cells = 0 := rfl; have e2 : rm_Mo_thrown.cells = 0 := rfl; omega) g6
  · refine zi_iconst (pc := 949) hX dL_law_949 ki_0 ?_
    exact zi_ret (pc := 950) hX dL_law_950 et_z0 rfl (et_lc hu6) (et_ls hu6)
def fn_La_law_13 (L : Nat) (xs : Nat → Int32) (r23 : Int32 → et_G → Option (Int32 × et_G)) (x4 : Int32) (g : et_G) : Option (Int32 × et_G) :=
  et_ck (et_ib (x4 + (1 : Int32)) L) (
  et_ck (et_ib (x4 + (2 : Int32)) L) (
  et_ck (et_ib (x4 + (3 : Int32)) L) (
  et_ck (et_ib (x4 + (4 : Int32)) L) (
  if (xs (x4 + (4 : Int32)).toNatClampNeg) = 0 then
    et_bd (fn_La_could (xs (x4 + (1 : Int32)).toNatClampNeg) (xs (x4 + (2 : Int32)).toNatClampNeg) (xs (x4 + (3 : Int32)).toNatClampNeg) (0 : Int32) g) (fun v1 g2 =>
    et_ck (et_ib (x4 + (1 : Int32)) L) (
    et_ck (et_ib (x4 + (2 : Int32)) L) (
    et_ck (et_ib (x4 + (3 : Int32)) L) (
    et_ck (et_ib (x4 + (4 : Int32)) L) (
    if (xs (x4 + (4 : Int32)).toNatClampNeg) = 0 then
      et_bd (fn_Mo_could (xs (x4 + (1 : Int32)).toNatClampNeg) (xs (x4 + (2 : Int32)).toNatClampNeg) (xs (x4 + (3 : Int32)).toNatClampNeg) (0 : Int32) g2) (fun v3 g4 =>
      et_bd (fn_Mo_thrown g4) (fun v5 g6 =>
      if v5 = v1 then
        if v1 = 0 then
          et_ck (et_ib (0 : Int32) 1) (
          if (lg_cmp (g6.2 96 (0 : Int32).toNatClampNeg) (v3.toInt64)) = 0 then
            r23 (x4 + (6 : Int32)) g6
          else
            some ((0 : Int32), g6))
        else
          r23 (x4 + (6 : Int32)) g6
      else
        some ((0 : Int32), g6)))
    else
      et_bd (fn_Mo_could (xs (x4 + (1 : Int32)).toNatClampNeg) (xs (x4 + (2 : Int32)).toNatClampNeg) (xs (x4 + (3 : Int32)).toNatClampNeg) (1 : Int32) g2) (fun v9 g10 =>
      et_bd (fn_Mo_thrown g10) (fun v11 g12 =>
      if v11 = v1 then
        if v1 = 0 then
          et_ck (et_ib (0 : Int32) 1) (
          if (lg_cmp (g12.2 96 (0 : Int32).toNatClampNeg) (v9.toInt64)) = 0 then
            r23 (x4 + (6 : Int32)) g12
          else
            some ((0 : Int32), g12))
        else
          r23 (x4 + (6 : Int32)) g12
      else
        some ((0 : Int32), g12))))))))
  else
    et_bd (fn_La_could (xs (x4 + (1 : Int32)).toNatClampNeg) (xs (x4 + (2 : Int32)).toNatClampNeg) (xs (x4 + (3 : Int32)).toNatClampNeg) (1 : Int32) g) (fun v15 g16 =>
    et_ck (et_ib (x4 + (1 : Int32)) L) (
    et_ck (et_ib (x4 + (2 : Int32)) L) (
    et_ck (et_ib (x4 + (3 : Int32)) L) (
    et_ck (et_ib (x4 + (4 : Int32)) L) (
    if (xs (x4 + (4 : Int32)).toNatClampNeg) = 0 then
      et_bd (fn_Mo_could (xs (x4 + (1 : Int32)).toNatClampNeg) (xs (x4 + (2 : Int32)).toNatClampNeg) (xs (x4 + (3 : Int32)).toNatClampNeg) (0 : Int32) g16) (fun v17 g18 =>
      et_bd (fn_Mo_thrown g18) (fun v19 g20 =>
      if v19 = v15 then
        if v15 = 0 then
          et_ck (et_ib (0 : Int32) 1) (
          if (lg_cmp (g20.2 96 (0 : Int32).toNatClampNeg) (v17.toInt64)) = 0 then
            r23 (x4 + (6 : Int32)) g20
          else
            some ((0 : Int32), g20))
        else
          r23 (x4 + (6 : Int32)) g20
      else
        some ((0 : Int32), g20)))
    else
      et_bd (fn_Mo_could (xs (x4 + (1 : Int32)).toNatClampNeg) (xs (x4 + (2 : Int32)).toNatClampNeg) (xs (x4 + (3 : Int32)).toNatClampNeg) (1 : Int32) g16) (fun v23 g24 =>
      et_bd (fn_Mo_thrown g24) (fun v25 g26 =>
      if v25 = v15 then
        if v15 = 0 then
          et_ck (et_ib (0 : Int32) 1) (
          if (lg_cmp (g26.2 96 (0 : Int32).toNatClampNeg) (v23.toInt64)) = 0 then
            r23 (x4 + (6 : Int32)) g26
          else
            some ((0 : Int32), g26))
        else
          r23 (x4 + (6 : Int32)) g26
      else
        some ((0 : Int32), g26))))))))))))
theorem zl_13 {X : et_X} {w : et_W} {L : Nat} {xs : Nat → Int32} (hX : et_Gd X w code RL 7 (some .boolean) [] room_1) (hsc : et_Sc X w L xs) {u : Nat} (hu : u ≤ 20000 - 10) (r23 : Int32 → et_G → Option (Int32 × et_G)) (x4 : Int32) (hr : ∀ u2, u2 ≤ u + 3 → ∀ (g : et_G), et_Z X w u2 et_eI 23 [some (.ref (et_ad w 3000)), some (.ref (et_ad w 0)), some (.ref (et_ad w 61)), some (.ref (et_ad w 96)), some (.int (x4 + (6 : Int32))), none, none] [] g (r23 (x4 + (6 : Int32)) g)) (g : et_G) : et_Z X w u et_eI 971 [some (.ref (et_ad w 3000)), some (.ref (et_ad w 0)), some (.ref (et_ad w 61)), some (.ref (et_ad w 96)), some (.int x4), none, none] [] g (fn_La_law_13 L xs r23 x4 g) := by
  have hu0 : u ≤ 19990 := hu
  have hu : u ≤ 20000 := by omega
  unfold fn_La_law_13
  refine zi_aload1 (pc := 971) hX dL_law_971 ?_
  refine zi_aload0 (pc := 972) hX dL_law_972 ?_
  refine zi_iload4 (pc := 973) hX dL_law_973 ?_
  refine zi_iconst (pc := 975) hX dL_law_975 ki_1 ?_
  refine zi_iadd (pc := 976) hX dL_law_976 ?_
  refine zi_scr (pc := 977) hX hsc dL_law_977 ?_
  refine zi_aload0 (pc := 978) hX dL_law_978 ?_
  refine zi_iload4 (pc := 979) hX dL_law_979 ?_
  refine zi_iconst (pc := 981) hX dL_law_981 ki_2 ?_
  refine zi_iadd (pc := 982) hX dL_law_982 ?_
  refine zi_scr (pc := 983) hX hsc dL_law_983 ?_
  refine zi_aload0 (pc := 984) hX dL_law_984 ?_
  refine zi_iload4 (pc := 985) hX dL_law_985 ?_
  refine zi_iconst (pc := 987) hX dL_law_987 ki_3 ?_
  refine zi_iadd (pc := 988) hX dL_law_988 ?_
  refine zi_scr (pc := 989) hX hsc dL_law_989 ?_
  refine zi_aload0 (pc := 990) hX dL_law_990 ?_
  refine zi_iload4 (pc := 991) hX dL_law_991 ?_
  refine zi_iconst (pc := 993) hX dL_law_993 ki_4 ?_
  refine zi_iadd (pc := 994) hX dL_law_994 ?_
  refine zi_scr (pc := 995) hX hsc dL_law_995 ?_
  refine zi_if_eq (pc := 996) 1003 hX dL_law_996 (by decide) (fun _ => ?_) (fun _ => ?_)
  · refine zi_iconst (pc := 1003) hX dL_law_1003 ki_0 ?_
    refine zi_aload3 (pc := 1004) hX dL_law_1004 ?_
    refine zi_callI (zc_statW (pc := 1005) hX dL_law_1005 tm_1212 md_L_could st_L_could (ct_La_could hX.sane (xs (x4 + (1 : Int32)).toNatClampNeg) (xs (x4 + (2 : Int32)).toNatClampNeg) (xs (x4 + (3 : Int32)).toNatClampNeg) (0 : Int32) g) rfl rfl (et_rsL rfl hu)) (fun v1 g2 => ?_)
    have hu2 : u + rm_La_could.cells ≤ 20000 := by have e0 : rm_La_could.cells = 3 := rfl; omega
    refine zi_istore5 (pc := 1008) hX dL_law_1008 rfl rfl ?_
    refine zi_aload2 (pc := 1010) hX dL_law_1010 ?_
    refine zi_aload0 (pc := 1011) hX dL_law_1011 ?_
    refine zi_iload4 (pc := 1012) hX dL_law_1012 ?_
    refine zi_iconst (pc := 1014) hX dL_law_1014 ki_1 ?_
    refine zi_iadd (pc := 1015) hX dL_law_1015 ?_
    refine zi_scr (pc := 1016) hX hsc dL_law_1016 ?_
    refine zi_aload0 (pc := 1017) hX dL_law_1017 ?_
    refine zi_iload4 (pc := 1018) hX dL_law_1018 ?_
    refine zi_iconst (pc := 1020) hX dL_law_1020 ki_2 ?_
    refine zi_iadd (pc := 1021) hX dL_law_1021 ?_
    refine zi_scr (pc := 1022) hX hsc dL_law_1022 ?_
    refine zi_aload0 (pc := 1023) hX dL_law_1023 ?_
    refine zi_iload4 (pc := 1024) hX dL_law_1024 ?_
    refine zi_iconst (pc := 1026) hX dL_law_1026 ki_3 ?_
    refine zi_iadd (pc := 1027) hX dL_law_1027 ?_
    refine zi_scr (pc := 1028) hX hsc dL_law_1028 ?_
    refine zi_aload0 (pc := 1029) hX dL_law_1029 ?_
    refine zi_iload4 (pc := 1030) hX dL_law_1030 ?_
    refine zi_iconst (pc := 1032) hX dL_law_1032 ki_4 ?_
    refine zi_iadd (pc := 1033) hX dL_law_1033 ?_
    refine zi_scr (pc := 1034) hX hsc dL_law_1034 ?_
    refine zi_if_eq (pc := 1035) 1042 hX dL_law_1035 (by decide) (fun _ => ?_) (fun _ => ?_)
    · refine zi_iconst (pc := 1042) hX dL_law_1042 ki_0 ?_
      refine zi_callI (zc_virt (pc := 1043) hX dL_law_1043 tm_1833 md_X10_could mi_X10_could ly_61 (ct_Mo_could hX.sane (xs (x4 + (1 : Int32)).toNatClampNeg) (xs (x4 + (2 : Int32)).toNatClampNeg) (xs (x4 + (3 : Int32)).toNatClampNeg) (0 : Int32) g2) rfl rfl (et_rsL rfl hu2)) (fun v3 g4 => ?_)
      have hu4 : u + rm_La_could.cells + rm_Mo_could.cells ≤ 20000 := by have e0 : rm_La_could.cells = 3 := rfl; have e1 : rm_Mo_could.cells = 0 := rfl; omega
      refine zi_istore6 (pc := 1046) hX dL_law_1046 rfl rfl ?_
      refine zi_aload2 (pc := 1048) hX dL_law_1048 ?_
      refine zi_callI (zc_virt (pc := 1049) hX dL_law_1049 tm_1571 md_X10_thrown mi_X10_thrown ly_61 (ct_Mo_thrown hX.sane g4) rfl rfl (et_rsL rfl hu4)) (fun v5 g6 => ?_)
      have hu6 : u + rm_La_could.cells + rm_Mo_could.cells + rm_Mo_thrown.cells ≤ 20000 := by have e0 : rm_La_could.cells = 3 := rfl; have e1 : rm_Mo_could.cells = 0 := rfl; have e2 : rm_Mo_thrown.cells = 0 := rfl; omega
      refine zi_iload5 (pc := 1052) hX dL_law_1052 ?_
      refine zi_icmp_eq (pc := 1054) 1059 hX dL_law_1054 (by decide) (fun _ => ?_) (fun _ => ?_)
      · refine zi_iload5 (pc := 1059) hX dL_law_1059 ?_
        refine zi_if_ne (pc := 1061) 1076 hX dL_law_1061 (by decide) (fun _ => ?_) (fun _ => ?_)
        · refine zi_aload3 (pc := 1064) hX dL_law_1064 ?_
          refine zi_iconst (pc := 1065) hX dL_law_1065 ki_0 ?_
          refine zi_lald (pc := 1066) hX dL_law_1066 ly_96 ?_
          refine zi_iload6 (pc := 1067) hX dL_law_1067 ?_
          refine zi_i2l (pc := 1069) hX dL_law_1069 ?_
          refine zi_lcmp (pc := 1070) hX dL_law_1070 ?_
          refine zi_if_eq (pc := 1071) 1076 hX dL_law_1071 (by decide) (fun _ => ?_) (fun _ => ?_)
          · refine zi_goto (pc := 1076) 1631 hX dL_law_1076 (by decide) ?_
            refine zi_iinc4 (pc := 1631) hX dL_law_1631 (kn_6 _) rfl rfl ?_
            refine zi_goto (pc := 1634) 23 hX dL_law_1634 (by decide) ?_
            refine zi_drop (le_s (le_s (le_s (le_s (le_s (le_n (le_n le_nil))))))) ?_; exact hr _ (by have e0 : rm_La_could.cells = 3 := rfl; have e1 : rm_Mo_could.cells = 0 := rfl; have e2 : rm_Mo_thrown.cells = 0 := rfl; omega) g6
          · refine zi_iconst (pc := 1074) hX dL_law_1074 ki_0 ?_
            exact zi_ret (pc := 1075) hX dL_law_1075 et_z0 rfl (et_lc hu6) (et_ls hu6)
        · refine zi_goto (pc := 1076) 1631 hX dL_law_1076 (by decide) ?_
          refine zi_iinc4 (pc := 1631) hX dL_law_1631 (kn_6 _) rfl rfl ?_
          refine zi_goto (pc := 1634) 23 hX dL_law_1634 (by decide) ?_
          refine zi_drop (le_s (le_s (le_s (le_s (le_s (le_n (le_n le_nil))))))) ?_; exact hr _ (by have e0 : rm_La_could.cells = 3 := rfl; have e1 : rm_Mo_could.cells = 0 := rfl; have e2 : rm_Mo_thrown.cells = 0 := rfl; omega) g6
      · refine zi_iconst (pc := 1057) hX dL_law_1057 ki_0 ?_
        exact zi_ret (pc := 1058) hX dL_law_1058 et_z0 rfl (et_lc hu6) (et_ls hu6)
    · refine zi_iconst (pc := 1038) hX dL_law_1038 ki_1 ?_
      refine zi_goto (pc := 1039) 1043 hX dL_law_1039 (by decide) ?_
      refine zi_callI (zc_virt (pc := 1043) hX dL_law_1043 tm_1833 md_X10_could mi_X10_could ly_61 (ct_Mo_could hX.sane (xs (x4 + (1 : Int32)).toNatClampNeg) (xs (x4 + (2 : Int32)).toNatClampNeg) (xs (x4 + (3 : Int32)).toNatClampNeg) (1 : Int32) g2) rfl rfl (et_rsL rfl hu2)) (fun v9 g10 => ?_)
      have hu10 : u + rm_La_could.cells + rm_Mo_could.cells ≤ 20000 := by have e0 : rm_La_could.cells = 3 := rfl; have e1 : rm_Mo_could.cells = 0 := rfl; omega
      refine zi_istore6 (pc := 1046) hX dL_law_1046 rfl rfl ?_
      refine zi_aload2 (pc := 1048) hX dL_law_1048 ?_
      refine zi_callI (zc_virt (pc := 1049) hX dL_law_1049 tm_1571 md_X10_thrown mi_X10_thrown ly_61 (ct_Mo_thrown hX.sane g10) rfl rfl (et_rsL rfl hu10)) (fun v11 g12 => ?_)
      have hu12 : u + rm_La_could.cells + rm_Mo_could.cells + rm_Mo_thrown.cells ≤ 20000 := by have e0 : rm_La_could.cells = 3 := rfl; have e1 : rm_Mo_could.cells = 0 := rfl; have e2 : rm_Mo_thrown.cells = 0 := rfl; omega
      refine zi_iload5 (pc := 1052) hX dL_law_1052 ?_
      refine zi_icmp_eq (pc := 1054) 1059 hX dL_law_1054 (by decide) (fun _ => ?_) (fun _ => ?_)
      · refine zi_iload5 (pc := 1059) hX dL_law_1059 ?_
        refine zi_if_ne (pc := 1061) 1076 hX dL_law_1061 (by decide) (fun _ => ?_) (fun _ => ?_)
        · refine zi_aload3 (pc := 1064) hX dL_law_1064 ?_
          refine zi_iconst (pc := 1065) hX dL_law_1065 ki_0 ?_
          refine zi_lald (pc := 1066) hX dL_law_1066 ly_96 ?_
          refine zi_iload6 (pc := 1067) hX dL_law_1067 ?_
          refine zi_i2l (pc := 1069) hX dL_law_1069 ?_
          refine zi_lcmp (pc := 1070) hX dL_law_1070 ?_
          refine zi_if_eq (pc := 1071) 1076 hX dL_law_1071 (by decide) (fun _ => ?_) (fun _ => ?_)
          · refine zi_goto (pc := 1076) 1631 hX dL_law_1076 (by decide) ?_
            refine zi_iinc4 (pc := 1631) hX dL_law_1631 (kn_6 _) rfl rfl ?_
            refine zi_goto (pc := 1634) 23 hX dL_law_1634 (by decide) ?_
            refine zi_drop (le_s (le_s (le_s (le_s (le_s (le_n (le_n le_nil))))))) ?_; exact hr _ (by have e0 : rm_La_could.cells = 3 := rfl; have e1 : rm_Mo_could.cells = 0 := rfl; have e2 : rm_Mo_thrown.cells = 0 := rfl; omega) g12
          · refine zi_iconst (pc := 1074) hX dL_law_1074 ki_0 ?_
            exact zi_ret (pc := 1075) hX dL_law_1075 et_z0 rfl (et_lc hu12) (et_ls hu12)
        · refine zi_goto (pc := 1076) 1631 hX dL_law_1076 (by decide) ?_
          refine zi_iinc4 (pc := 1631) hX dL_law_1631 (kn_6 _) rfl rfl ?_
          refine zi_goto (pc := 1634) 23 hX dL_law_1634 (by decide) ?_
          refine zi_drop (le_s (le_s (le_s (le_s (le_s (le_n (le_n le_nil))))))) ?_; exact hr _ (by have e0 : rm_La_could.cells = 3 := rfl; have e1 : rm_Mo_could.cells = 0 := rfl; have e2 : rm_Mo_thrown.cells = 0 := rfl; omega) g12
      · refine zi_iconst (pc := 1057) hX dL_law_1057 ki_0 ?_
        exact zi_ret (pc := 1058) hX dL_law_1058 et_z0 rfl (et_lc hu12) (et_ls hu12)
  · refine zi_iconst (pc := 999) hX dL_law_999 ki_1 ?_
    refine zi_goto (pc := 1000) 1004 hX dL_law_1000 (by decide) ?_
    refine zi_aload3 (pc := 1004) hX dL_law_1004 ?_
    refine zi_callI (zc_statW (pc := 1005) hX dL_law_1005 tm_1212 md_L_could st_L_could (ct_La_could hX.sane (xs (x4 + (1 : Int32)).toNatClampNeg) (xs (x4 + (2 : Int32)).toNatClampNeg) (xs (x4 + (3 : Int32)).toNatClampNeg) (1 : Int32) g) rfl rfl (et_rsL rfl hu)) (fun v15 g16 => ?_)
    have hu16 : u + rm_La_could.cells ≤ 20000 := by have e0 : rm_La_could.cells = 3 := rfl; omega
    refine zi_istore5 (pc := 1008) hX dL_law_1008 rfl rfl ?_
    refine zi_aload2 (pc := 1010) hX dL_law_1010 ?_
    refine zi_aload0 (pc := 1011) hX dL_law_1011 ?_
    refine zi_iload4 (pc := 1012) hX dL_law_1012 ?_
    refine zi_iconst (pc := 1014) hX dL_law_1014 ki_1 ?_
    refine zi_iadd (pc := 1015) hX dL_law_1015 ?_
    refine zi_scr (pc := 1016) hX hsc dL_law_1016 ?_
    refine zi_aload0 (pc := 1017) hX dL_law_1017 ?_
    refine zi_iload4 (pc := 1018) hX dL_law_1018 ?_
    refine zi_iconst (pc := 1020) hX dL_law_1020 ki_2 ?_
    refine zi_iadd (pc := 1021) hX dL_law_1021 ?_
    refine zi_scr (pc := 1022) hX hsc dL_law_1022 ?_
    refine zi_aload0 (pc := 1023) hX dL_law_1023 ?_
    refine zi_iload4 (pc := 1024) hX dL_law_1024 ?_
    refine zi_iconst (pc := 1026) hX dL_law_1026 ki_3 ?_
    refine zi_iadd (pc := 1027) hX dL_law_1027 ?_
    refine zi_scr (pc := 1028) hX hsc dL_law_1028 ?_
    refine zi_aload0 (pc := 1029) hX dL_law_1029 ?_
    refine zi_iload4 (pc := 1030) hX dL_law_1030 ?_
    refine zi_iconst (pc := 1032) hX dL_law_1032 ki_4 ?_
    refine zi_iadd (pc := 1033) hX dL_law_1033 ?_
    refine zi_scr (pc := 1034) hX hsc dL_law_1034 ?_
    refine zi_if_eq (pc := 1035) 1042 hX dL_law_1035 (by decide) (fun _ => ?_) (fun _ => ?_)
    · refine zi_iconst (pc := 1042) hX dL_law_1042 ki_0 ?_
      refine zi_callI (zc_virt (pc := 1043) hX dL_law_1043 tm_1833 md_X10_could mi_X10_could ly_61 (ct_Mo_could hX.sane (xs (x4 + (1 : Int32)).toNatClampNeg) (xs (x4 + (2 : Int32)).toNatClampNeg) (xs (x4 + (3 : Int32)).toNatClampNeg) (0 : Int32) g16) rfl rfl (et_rsL rfl hu16)) (fun v17 g18 => ?_)
      have hu18 : u + rm_La_could.cells + rm_Mo_could.cells ≤ 20000 := by have e0 : rm_La_could.cells = 3 := rfl; have e1 : rm_Mo_could.cells = 0 := rfl; omega
      refine zi_istore6 (pc := 1046) hX dL_law_1046 rfl rfl ?_
      refine zi_aload2 (pc := 1048) hX dL_law_1048 ?_
      refine zi_callI (zc_virt (pc := 1049) hX dL_law_1049 tm_1571 md_X10_thrown mi_X10_thrown ly_61 (ct_Mo_thrown hX.sane g18) rfl rfl (et_rsL rfl hu18)) (fun v19 g20 => ?_)
      have hu20 : u + rm_La_could.cells + rm_Mo_could.cells + rm_Mo_thrown.cells ≤ 20000 := by have e0 : rm_La_could.cells = 3 := rfl; have e1 : rm_Mo_could.cells = 0 := rfl; have e2 : rm_Mo_thrown.cells = 0 := rfl; omega
      refine zi_iload5 (pc := 1052) hX dL_law_1052 ?_
      refine zi_icmp_eq (pc := 1054) 1059 hX dL_law_1054 (by decide) (fun _ => ?_) (fun _ => ?_)
      · refine zi_iload5 (pc := 1059) hX dL_law_1059 ?_
        refine zi_if_ne (pc := 1061) 1076 hX dL_law_1061 (by decide) (fun _ => ?_) (fun _ => ?_)
        · refine zi_aload3 (pc := 1064) hX dL_law_1064 ?_
          refine zi_iconst (pc := 1065) hX dL_law_1065 ki_0 ?_
          refine zi_lald (pc := 1066) hX dL_law_1066 ly_96 ?_
          refine zi_iload6 (pc := 1067) hX dL_law_1067 ?_
          refine zi_i2l (pc := 1069) hX dL_law_1069 ?_
          refine zi_lcmp (pc := 1070) hX dL_law_1070 ?_
          refine zi_if_eq (pc := 1071) 1076 hX dL_law_1071 (by decide) (fun _ => ?_) (fun _ => ?_)
          · refine zi_goto (pc := 1076) 1631 hX dL_law_1076 (by decide) ?_
            refine zi_iinc4 (pc := 1631) hX dL_law_1631 (kn_6 _) rfl rfl ?_
            refine zi_goto (pc := 1634) 23 hX dL_law_1634 (by decide) ?_
            refine zi_drop (le_s (le_s (le_s (le_s (le_s (le_n (le_n le_nil))))))) ?_; exact hr _ (by have e0 : rm_La_could.cells = 3 := rfl; have e1 : rm_Mo_could.cells = 0 := rfl; have e2 : rm_Mo_thrown.cells = 0 := rfl; omega) g20
          · refine zi_iconst (pc := 1074) hX dL_law_1074 ki_0 ?_
            exact zi_ret (pc := 1075) hX dL_law_1075 et_z0 rfl (et_lc hu20) (et_ls hu20)
        · refine zi_goto (pc := 1076) 1631 hX dL_law_1076 (by decide) ?_
          refine zi_iinc4 (pc := 1631) hX dL_law_1631 (kn_6 _) rfl rfl ?_
          refine zi_goto (pc := 1634) 23 hX dL_law_1634 (by decide) ?_
          refine zi_drop (le_s (le_s (le_s (le_s (le_s (le_n (le_n le_nil))))))) ?_; exact hr _ (by have e0 : rm_La_could.cells = 3 := rfl; have e1 : rm_Mo_could.cells = 0 := rfl; have e2 : rm_Mo_thrown.cells = 0 := rfl; omega) g20
      · refine zi_iconst (pc := 1057) hX dL_law_1057 ki_0 ?_
        exact zi_ret (pc := 1058) hX dL_law_1058 et_z0 rfl (et_lc hu20) (et_ls hu20)
    · refine zi_iconst (pc := 1038) hX dL_law_1038 ki_1 ?_
      refine zi_goto (pc := 1039) 1043 hX dL_law_1039 (by decide) ?_
      refine zi_callI (zc_virt (pc := 1043) hX dL_law_1043 tm_1833 md_X10_could mi_X10_could ly_61 (ct_Mo_could hX.sane (xs (x4 + (1 : Int32)).toNatClampNeg) (xs (x4 + (2 : Int32)).toNatClampNeg) (xs (x4 + (3 : Int32)).toNatClampNeg) (1 : Int32) g16) rfl rfl (et_rsL rfl hu16)) (fun v23 g24 => ?_)
      have hu24 : u + rm_La_could.cells + rm_Mo_could.cells ≤ 20000 := by have e0 : rm_La_could.cells = 3 := rfl; have e1 : rm_Mo_could.cells = 0 := rfl; omega
      refine zi_istore6 (pc := 1046) hX dL_law_1046 rfl rfl ?_
      refine zi_aload2 (pc := 1048) hX dL_law_1048 ?_
      refine zi_callI (zc_virt (pc := 1049) hX dL_law_1049 tm_1571 md_X10_thrown mi_X10_thrown ly_61 (ct_Mo_thrown hX.sane g24) rfl rfl (et_rsL rfl hu24)) (fun v25 g26 => ?_)
      have hu26 : u + rm_La_could.cells + rm_Mo_could.cells + rm_Mo_thrown.cells ≤ 20000 := by have e0 : rm_La_could.cells = 3 := rfl; have e1 : rm_Mo_could.cells = 0 := rfl; have e2 : rm_Mo_thrown.cells = 0 := rfl; omega
      refine zi_iload5 (pc := 1052) hX dL_law_1052 ?_
      refine zi_icmp_eq (pc := 1054) 1059 hX dL_law_1054 (by decide) (fun _ => ?_) (fun _ => ?_)
      · refine zi_iload5 (pc := 1059) hX dL_law_1059 ?_
        refine zi_if_ne (pc := 1061) 1076 hX dL_law_1061 (by decide) (fun _ => ?_) (fun _ => ?_)
        · refine zi_aload3 (pc := 1064) hX dL_law_1064 ?_
          refine zi_iconst (pc := 1065) hX dL_law_1065 ki_0 ?_
          refine zi_lald (pc := 1066) hX dL_law_1066 ly_96 ?_
          refine zi_iload6 (pc := 1067) hX dL_law_1067 ?_
          refine zi_i2l (pc := 1069) hX dL_law_1069 ?_
          refine zi_lcmp (pc := 1070) hX dL_law_1070 ?_
          refine zi_if_eq (pc := 1071) 1076 hX dL_law_1071 (by decide) (fun _ => ?_) (fun _ => ?_)
          · refine zi_goto (pc := 1076) 1631 hX dL_law_1076 (by decide) ?_
            refine zi_iinc4 (pc := 1631) hX dL_law_1631 (kn_6 _) rfl rfl ?_
            refine zi_goto (pc := 1634) 23 hX dL_law_1634 (by decide) ?_
            refine zi_drop (le_s (le_s (le_s (le_s (le_s (le_n (le_n le_nil))))))) ?_; exact hr _ (by have e0 : rm_La_could.cells = 3 := rfl; have e1 : rm_Mo_could.cells = 0 := rfl; have e2 : rm_Mo_thrown.cells = 0 := rfl; omega) g26
          · refine zi_iconst (pc := 1074) hX dL_law_1074 ki_0 ?_
            exact zi_ret (pc := 1075) hX dL_law_1075 et_z0 rfl (et_lc hu26) (et_ls hu26)
        · refine zi_goto (pc := 1076) 1631 hX dL_law_1076 (by decide) ?_
          refine zi_iinc4 (pc := 1631) hX dL_law_1631 (kn_6 _) rfl rfl ?_
          refine zi_goto (pc := 1634) 23 hX dL_law_1634 (by decide) ?_
          refine zi_drop (le_s (le_s (le_s (le_s (le_s (le_n (le_n le_nil))))))) ?_; exact hr _ (by have e0 : rm_La_could.cells = 3 := rfl; have e1 : rm_Mo_could.cells = 0 := rfl; have e2 : rm_Mo_thrown.cells = 0 := rfl; omega) g26
      · refine zi_iconst (pc := 1057) hX dL_law_1057 ki_0 ?_
        exact zi_ret (pc := 1058) hX dL_law_1058 et_z0 rfl (et_lc hu26) (et_ls hu26)
def fn_La_law_14 (L : Nat) (xs : Nat → Int32) (r23 : Int32 → et_G → Option (Int32 × et_G)) (x4 : Int32) (g : et_G) : Option (Int32 × et_G) :=
  et_ck (et_ib (x4 + (1 : Int32)) L) (
  et_bd (fn_La_wrong (xs (x4 + (1 : Int32)).toNatClampNeg) g) (fun v1 g2 =>
  et_ck (et_ib (x4 + (1 : Int32)) L) (
  et_bd (fn_Mo_wrong (xs (x4 + (1 : Int32)).toNatClampNeg) g2) (fun v3 g4 =>
  et_bd (fn_Mo_thrown g4) (fun v5 g6 =>
  if v5 = v1 then
    if v1 = 0 then
      et_ck (et_ib (0 : Int32) 1) (
      if (lg_cmp (g6.2 96 (0 : Int32).toNatClampNeg) (v3.toInt64)) = 0 then
        r23 (x4 + (6 : Int32)) g6
      else
        some ((0 : Int32), g6))
    else
      r23 (x4 + (6 : Int32)) g6
  else
    some ((0 : Int32), g6))))))
theorem zl_14 {X : et_X} {w : et_W} {L : Nat} {xs : Nat → Int32} (hX : et_Gd X w code RL 7 (some .boolean) [] room_1) (hsc : et_Sc X w L xs) {u : Nat} (hu : u ≤ 20000 - 10) (r23 : Int32 → et_G → Option (Int32 × et_G)) (x4 : Int32) (hr : ∀ u2, u2 ≤ u + 3 → ∀ (g : et_G), et_Z X w u2 et_eI 23 [some (.ref (et_ad w 3000)), some (.ref (et_ad w 0)), some (.ref (et_ad w 61)), some (.ref (et_ad w 96)), some (.int (x4 + (6 : Int32))), none, none] [] g (r23 (x4 + (6 : Int32)) g)) (g : et_G) : et_Z X w u et_eI 1079 [some (.ref (et_ad w 3000)), some (.ref (et_ad w 0)), some (.ref (et_ad w 61)), some (.ref (et_ad w 96)), some (.int x4), none, none] [] g (fn_La_law_14 L xs r23 x4 g) := by
  have hu0 : u ≤ 19990 := hu
  have hu : u ≤ 20000 := by omega
  unfold fn_La_law_14
  refine zi_aload1 (pc := 1079) hX dL_law_1079 ?_
  refine zi_aload0 (pc := 1080) hX dL_law_1080 ?_
  refine zi_iload4 (pc := 1081) hX dL_law_1081 ?_
  refine zi_iconst (pc := 1083) hX dL_law_1083 ki_1 ?_
  refine zi_iadd (pc := 1084) hX dL_law_1084 ?_
  refine zi_scr (pc := 1085) hX hsc dL_law_1085 ?_
  refine zi_aload3 (pc := 1086) hX dL_law_1086 ?_
  refine zi_callI (zc_statW (pc := 1087) hX dL_law_1087 tm_1223 md_L_wrong st_L_wrong (ct_La_wrong hX.sane (xs (x4 + (1 : Int32)).toNatClampNeg) g) rfl rfl (et_rsL rfl hu)) (fun v1 g2 => ?_)
  have hu2 : u + rm_La_wrong.cells ≤ 20000 := by have e0 : rm_La_wrong.cells = 1 := rfl; omega
  refine zi_istore5 (pc := 1090) hX dL_law_1090 rfl rfl ?_
  refine zi_aload2 (pc := 1092) hX dL_law_1092 ?_
  refine zi_aload0 (pc := 1093) hX dL_law_1093 ?_
  refine zi_iload4 (pc := 1094) hX dL_law_1094 ?_
  refine zi_iconst (pc := 1096) hX dL_law_1096 ki_1 ?_
  refine zi_iadd (pc := 1097) hX dL_law_1097 ?_
  refine zi_scr (pc := 1098) hX hsc dL_law_1098 ?_
  refine zi_callI (zc_virt (pc := 1099) hX dL_law_1099 tm_1837 md_X10_wrong mi_X10_wrong ly_61 (ct_Mo_wrong hX.sane (xs (x4 + (1 : Int32)).toNatClampNeg) g2) rfl rfl (et_rsL rfl hu2)) (fun v3 g4 => ?_)
  have hu4 : u + rm_La_wrong.cells + rm_Mo_wrong.cells ≤ 20000 := by have e0 : rm_La_wrong.cells = 1 := rfl; have e1 : rm_Mo_wrong.cells = 0 := rfl; omega
  refine zi_istore6 (pc := 1102) hX dL_law_1102 rfl rfl ?_
  refine zi_aload2 (pc := 1104) hX dL_law_1104 ?_
  refine zi_callI (zc_virt (pc := 1105) hX dL_law_1105 tm_1571 md_X10_thrown mi_X10_thrown ly_61 (ct_Mo_thrown hX.sane g4) rfl rfl (et_rsL rfl hu4)) (fun v5 g6 => ?_)
  have hu6 : u + rm_La_wrong.cells + rm_Mo_wrong.cells + rm_Mo_thrown.cells ≤ 20000 := by have e0 : rm_La_wrong.cells = 1 := rfl; have e1 : rm_Mo_wrong.cells = 0 := rfl; have e2 : rm_Mo_thrown.cells = 0 := rfl; omega
  refine zi_iload5 (pc := 1108) hX dL_law_1108 ?_
  refine zi_icmp_eq (pc := 1110) 1115 hX dL_law_1110 (by decide) (fun _ => ?_) (fun _ => ?_)
  · refine zi_iload5 (pc := 1115) hX dL_law_1115 ?_
    refine zi_if_ne (pc := 1117) 1132 hX dL_law_1117 (by decide) (fun _ => ?_) (fun _ => ?_)
    · refine zi_aload3 (pc := 1120) hX dL_law_1120 ?_
      refine zi_iconst (pc := 1121) hX dL_law_1121 ki_0 ?_
      refine zi_lald (pc := 1122) hX dL_law_1122 ly_96 ?_
      refine zi_iload6 (pc := 1123) hX dL_law_1123 ?_
      refine zi_i2l (pc := 1125) hX dL_law_1125 ?_
      refine zi_lcmp (pc := 1126) hX dL_law_1126 ?_
      refine zi_if_eq (pc := 1127) 1132 hX dL_law_1127 (by decide) (fun _ => ?_) (fun _ => ?_)
      · refine zi_goto (pc := 1132) 1631 hX dL_law_1132 (by decide) ?_
        refine zi_iinc4 (pc := 1631) hX dL_law_1631 (kn_6 _) rfl rfl ?_
        refine zi_goto (pc := 1634) 23 hX dL_law_1634 (by decide) ?_
        refine zi_drop (le_s (le_s (le_s (le_s (le_s (le_n (le_n le_nil))))))) ?_; exact hr _ (by have e0 : rm_La_wrong.cells = 1 := rfl; have e1 : rm_Mo_wrong.cells = 0 := rfl; have e2 : rm_Mo_thrown.cells = 0 := rfl; omega) g6
      · refine zi_iconst (pc := 1130) hX dL_law_1130 ki_0 ?_
        exact zi_ret (pc := 1131) hX dL_law_1131 et_z0 rfl (et_lc hu6) (et_ls hu6)
    · refine zi_goto (pc := 1132) 1631 hX dL_law_1132 (by decide) ?_
      refine zi_iinc4 (pc := 1631) hX dL_law_1631 (kn_6 _) rfl rfl ?_
      refine zi_goto (pc := 1634) 23 hX dL_law_1634 (by decide) ?_
      refine zi_drop (le_s (le_s (le_s (le_s (le_s (le_n (le_n le_nil))))))) ?_; exact hr _ (by have e0 : rm_La_wrong.cells = 1 := rfl; have e1 : rm_Mo_wrong.cells = 0 := rfl; have e2 : rm_Mo_thrown.cells = 0 := rfl; omega) g6
  · refine zi_iconst (pc := 1113) hX dL_law_1113 ki_0 ?_
    exact zi_ret (pc := 1114) hX dL_law_1114 et_z0 rfl (et_lc hu6) (et_ls hu6)
def fn_La_law_15 (L : Nat) (xs : Nat → Int32) (r23 : Int32 → et_G → Option (Int32 × et_G)) (x4 : Int32) (g : et_G) : Option (Int32 × et_G) :=
  et_bd (fn_Et_mend g) (fun v1 g2 =>
  et_bd (fn_Mo_mend g2) (fun v3 g4 =>
  if v1 = v3 then
    r23 (x4 + (6 : Int32)) g4
  else
    some ((0 : Int32), g4)))
theorem zl_15 {X : et_X} {w : et_W} {L : Nat} {xs : Nat → Int32} (hX : et_Gd X w code RL 7 (some .boolean) [] room_1) (hsc : et_Sc X w L xs) {u : Nat} (hu : u ≤ 20000 - 10) (r23 : Int32 → et_G → Option (Int32 × et_G)) (x4 : Int32) (hr : ∀ u2, u2 ≤ u + 3 → ∀ (g : et_G), et_Z X w u2 et_eI 23 [some (.ref (et_ad w 3000)), some (.ref (et_ad w 0)), some (.ref (et_ad w 61)), some (.ref (et_ad w 96)), some (.int (x4 + (6 : Int32))), none, none] [] g (r23 (x4 + (6 : Int32)) g)) (g : et_G) : et_Z X w u et_eI 1135 [some (.ref (et_ad w 3000)), some (.ref (et_ad w 0)), some (.ref (et_ad w 61)), some (.ref (et_ad w 96)), some (.int x4), none, none] [] g (fn_La_law_15 L xs r23 x4 g) := by
  have hu0 : u ≤ 19990 := hu
  have hu : u ≤ 20000 := by omega
  unfold fn_La_law_15
  refine zi_aload1 (pc := 1135) hX dL_law_1135 ?_
  refine zi_callI (zc_virt (pc := 1136) hX dL_law_1136 tm_566 md_X9_mend mi_X9_mend ly_0 (ct_Et_mend hX.sane g) rfl rfl (et_rsL rfl hu)) (fun v1 g2 => ?_)
  have hu2 : u + rm_Et_mend.cells ≤ 20000 := by have e0 : rm_Et_mend.cells = 0 := rfl; omega
  refine zi_aload2 (pc := 1139) hX dL_law_1139 ?_
  refine zi_callI (zc_virt (pc := 1140) hX dL_law_1140 tm_1845 md_X10_mend mi_X10_mend ly_61 (ct_Mo_mend hX.sane g2) rfl rfl (et_rsL rfl hu2)) (fun v3 g4 => ?_)
  have hu4 : u + rm_Et_mend.cells + rm_Mo_mend.cells ≤ 20000 := by have e0 : rm_Et_mend.cells = 0 := rfl; have e1 : rm_Mo_mend.cells = 0 := rfl; omega
  refine zi_icmp_eq (pc := 1143) 1631 hX dL_law_1143 (by decide) (fun _ => ?_) (fun _ => ?_)
  · refine zi_iinc4 (pc := 1631) hX dL_law_1631 (kn_6 _) rfl rfl ?_
    refine zi_goto (pc := 1634) 23 hX dL_law_1634 (by decide) ?_
    exact hr _ (by have e0 : rm_Et_mend.cells = 0 := rfl; have e1 : rm_Mo_mend.cells = 0 := rfl; omega) g4
  · refine zi_iconst (pc := 1146) hX dL_law_1146 ki_0 ?_
    exact zi_ret (pc := 1147) hX dL_law_1147 et_z0 rfl (et_lc hu4) (et_ls hu4)
def fn_La_law_16 (L : Nat) (xs : Nat → Int32) (r23 : Int32 → et_G → Option (Int32 × et_G)) (x4 : Int32) (g : et_G) : Option (Int32 × et_G) :=
  et_ck (et_ib (x4 + (1 : Int32)) L) (
  et_bd (fn_La_mended (xs (x4 + (1 : Int32)).toNatClampNeg) g) (fun v1 g2 =>
  et_ck (et_ib (x4 + (1 : Int32)) L) (
  et_bd (fn_Mo_mended (xs (x4 + (1 : Int32)).toNatClampNeg) g2) (fun v3 g4 =>
  et_bd (fn_Mo_thrown g4) (fun v5 g6 =>
  if v5 = v1 then
    if v1 = 0 then
      et_ck (et_ib (0 : Int32) 1) (
      if (lg_cmp (g6.2 96 (0 : Int32).toNatClampNeg) (v3.toInt64)) = 0 then
        r23 (x4 + (6 : Int32)) g6
      else
        some ((0 : Int32), g6))
    else
      r23 (x4 + (6 : Int32)) g6
  else
    some ((0 : Int32), g6))))))
theorem zl_16 {X : et_X} {w : et_W} {L : Nat} {xs : Nat → Int32} (hX : et_Gd X w code RL 7 (some .boolean) [] room_1) (hsc : et_Sc X w L xs) {u : Nat} (hu : u ≤ 20000 - 10) (r23 : Int32 → et_G → Option (Int32 × et_G)) (x4 : Int32) (hr : ∀ u2, u2 ≤ u + 3 → ∀ (g : et_G), et_Z X w u2 et_eI 23 [some (.ref (et_ad w 3000)), some (.ref (et_ad w 0)), some (.ref (et_ad w 61)), some (.ref (et_ad w 96)), some (.int (x4 + (6 : Int32))), none, none] [] g (r23 (x4 + (6 : Int32)) g)) (g : et_G) : et_Z X w u et_eI 1148 [some (.ref (et_ad w 3000)), some (.ref (et_ad w 0)), some (.ref (et_ad w 61)), some (.ref (et_ad w 96)), some (.int x4), none, none] [] g (fn_La_law_16 L xs r23 x4 g) := by
  have hu0 : u ≤ 19990 := hu
  have hu : u ≤ 20000 := by omega
  unfold fn_La_law_16
  refine zi_aload1 (pc := 1148) hX dL_law_1148 ?_
  refine zi_aload0 (pc := 1149) hX dL_law_1149 ?_
  refine zi_iload4 (pc := 1150) hX dL_law_1150 ?_
  refine zi_iconst (pc := 1152) hX dL_law_1152 ki_1 ?_
  refine zi_iadd (pc := 1153) hX dL_law_1153 ?_
  refine zi_scr (pc := 1154) hX hsc dL_law_1154 ?_
  refine zi_aload3 (pc := 1155) hX dL_law_1155 ?_
  refine zi_callI (zc_statW (pc := 1156) hX dL_law_1156 tm_1239 md_L_mended st_L_mended (ct_La_mended hX.sane (xs (x4 + (1 : Int32)).toNatClampNeg) g) rfl rfl (et_rsL rfl hu)) (fun v1 g2 => ?_)
  have hu2 : u + rm_La_mended.cells ≤ 20000 := by have e0 : rm_La_mended.cells = 1 := rfl; omega
  refine zi_istore5 (pc := 1159) hX dL_law_1159 rfl rfl ?_
  refine zi_aload2 (pc := 1161) hX dL_law_1161 ?_
  refine zi_aload0 (pc := 1162) hX dL_law_1162 ?_
  refine zi_iload4 (pc := 1163) hX dL_law_1163 ?_
  refine zi_iconst (pc := 1165) hX dL_law_1165 ki_1 ?_
  refine zi_iadd (pc := 1166) hX dL_law_1166 ?_
  refine zi_scr (pc := 1167) hX hsc dL_law_1167 ?_
  refine zi_callI (zc_virt (pc := 1168) hX dL_law_1168 tm_1849 md_X10_mended mi_X10_mended ly_61 (ct_Mo_mended hX.sane (xs (x4 + (1 : Int32)).toNatClampNeg) g2) rfl rfl (et_rsL rfl hu2)) (fun v3 g4 => ?_)
  have hu4 : u + rm_La_mended.cells + rm_Mo_mended.cells ≤ 20000 := by have e0 : rm_La_mended.cells = 1 := rfl; have e1 : rm_Mo_mended.cells = 0 := rfl; omega
  refine zi_istore6 (pc := 1171) hX dL_law_1171 rfl rfl ?_
  refine zi_aload2 (pc := 1173) hX dL_law_1173 ?_
  refine zi_callI (zc_virt (pc := 1174) hX dL_law_1174 tm_1571 md_X10_thrown mi_X10_thrown ly_61 (ct_Mo_thrown hX.sane g4) rfl rfl (et_rsL rfl hu4)) (fun v5 g6 => ?_)
  have hu6 : u + rm_La_mended.cells + rm_Mo_mended.cells + rm_Mo_thrown.cells ≤ 20000 := by have e0 : rm_La_mended.cells = 1 := rfl; have e1 : rm_Mo_mended.cells = 0 := rfl; have e2 : rm_Mo_thrown.cells = 0 := rfl; omega
  refine zi_iload5 (pc := 1177) hX dL_law_1177 ?_
  refine zi_icmp_eq (pc := 1179) 1184 hX dL_law_1179 (by decide) (fun _ => ?_) (fun _ => ?_)
  · refine zi_iload5 (pc := 1184) hX dL_law_1184 ?_
    refine zi_if_ne (pc := 1186) 1201 hX dL_law_1186 (by decide) (fun _ => ?_) (fun _ => ?_)
    · refine zi_aload3 (pc := 1189) hX dL_law_1189 ?_
      refine zi_iconst (pc := 1190) hX dL_law_1190 ki_0 ?_
      refine zi_lald (pc := 1191) hX dL_law_1191 ly_96 ?_
      refine zi_iload6 (pc := 1192) hX dL_law_1192 ?_
      refine zi_i2l (pc := 1194) hX dL_law_1194 ?_
      refine zi_lcmp (pc := 1195) hX dL_law_1195 ?_
      refine zi_if_eq (pc := 1196) 1201 hX dL_law_1196 (by decide) (fun _ => ?_) (fun _ => ?_)
      · refine zi_goto (pc := 1201) 1631 hX dL_law_1201 (by decide) ?_
        refine zi_iinc4 (pc := 1631) hX dL_law_1631 (kn_6 _) rfl rfl ?_
        refine zi_goto (pc := 1634) 23 hX dL_law_1634 (by decide) ?_
        refine zi_drop (le_s (le_s (le_s (le_s (le_s (le_n (le_n le_nil))))))) ?_; exact hr _ (by have e0 : rm_La_mended.cells = 1 := rfl; have e1 : rm_Mo_mended.cells = 0 := rfl; have e2 : rm_Mo_thrown.cells = 0 := rfl; omega) g6
      · refine zi_iconst (pc := 1199) hX dL_law_1199 ki_0 ?_
        exact zi_ret (pc := 1200) hX dL_law_1200 et_z0 rfl (et_lc hu6) (et_ls hu6)
    · refine zi_goto (pc := 1201) 1631 hX dL_law_1201 (by decide) ?_
      refine zi_iinc4 (pc := 1631) hX dL_law_1631 (kn_6 _) rfl rfl ?_
      refine zi_goto (pc := 1634) 23 hX dL_law_1634 (by decide) ?_
      refine zi_drop (le_s (le_s (le_s (le_s (le_s (le_n (le_n le_nil))))))) ?_; exact hr _ (by have e0 : rm_La_mended.cells = 1 := rfl; have e1 : rm_Mo_mended.cells = 0 := rfl; have e2 : rm_Mo_thrown.cells = 0 := rfl; omega) g6
  · refine zi_iconst (pc := 1182) hX dL_law_1182 ki_0 ?_
    exact zi_ret (pc := 1183) hX dL_law_1183 et_z0 rfl (et_lc hu6) (et_ls hu6)
def fn_La_law_17 (L : Nat) (xs : Nat → Int32) (r23 : Int32 → et_G → Option (Int32 × et_G)) (x4 : Int32) (g : et_G) : Option (Int32 × et_G) :=
  et_ck (et_ib (x4 + (1 : Int32)) L) (
  et_ck (et_ib (x4 + (2 : Int32)) L) (
  et_bd (fn_La_silence (xs (x4 + (1 : Int32)).toNatClampNeg) (xs (x4 + (2 : Int32)).toNatClampNeg) g) (fun v1 g2 =>
  et_ck (et_ib (x4 + (1 : Int32)) L) (
  et_ck (et_ib (x4 + (2 : Int32)) L) (
  et_bd (fn_Mo_silence (xs (x4 + (1 : Int32)).toNatClampNeg) (xs (x4 + (2 : Int32)).toNatClampNeg) g2) (fun v3 g4 =>
  et_bd (fn_Mo_thrown g4) (fun v5 g6 =>
  if v5 = v1 then
    if v1 = 0 then
      et_ck (et_ib (0 : Int32) 1) (
      if (lg_cmp (g6.2 96 (0 : Int32).toNatClampNeg) (v3.toInt64)) = 0 then
        r23 (x4 + (6 : Int32)) g6
      else
        some ((0 : Int32), g6))
    else
      r23 (x4 + (6 : Int32)) g6
  else
    some ((0 : Int32), g6))))))))
theorem zl_17 {X : et_X} {w : et_W} {L : Nat} {xs : Nat → Int32} (hX : et_Gd X w code RL 7 (some .boolean) [] room_1) (hsc : et_Sc X w L xs) {u : Nat} (hu : u ≤ 20000 - 10) (r23 : Int32 → et_G → Option (Int32 × et_G)) (x4 : Int32) (hr : ∀ u2, u2 ≤ u + 3 → ∀ (g : et_G), et_Z X w u2 et_eI 23 [some (.ref (et_ad w 3000)), some (.ref (et_ad w 0)), some (.ref (et_ad w 61)), some (.ref (et_ad w 96)), some (.int (x4 + (6 : Int32))), none, none] [] g (r23 (x4 + (6 : Int32)) g)) (g : et_G) : et_Z X w u et_eI 1204 [some (.ref (et_ad w 3000)), some (.ref (et_ad w 0)), some (.ref (et_ad w 61)), some (.ref (et_ad w 96)), some (.int x4), none, none] [] g (fn_La_law_17 L xs r23 x4 g) := by
  have hu0 : u ≤ 19990 := hu
  have hu : u ≤ 20000 := by omega
  unfold fn_La_law_17
  refine zi_aload1 (pc := 1204) hX dL_law_1204 ?_
  refine zi_aload0 (pc := 1205) hX dL_law_1205 ?_
  refine zi_iload4 (pc := 1206) hX dL_law_1206 ?_
  refine zi_iconst (pc := 1208) hX dL_law_1208 ki_1 ?_
  refine zi_iadd (pc := 1209) hX dL_law_1209 ?_
  refine zi_scr (pc := 1210) hX hsc dL_law_1210 ?_
  refine zi_aload0 (pc := 1211) hX dL_law_1211 ?_
  refine zi_iload4 (pc := 1212) hX dL_law_1212 ?_
  refine zi_iconst (pc := 1214) hX dL_law_1214 ki_2 ?_
  refine zi_iadd (pc := 1215) hX dL_law_1215 ?_
  refine zi_scr (pc := 1216) hX hsc dL_law_1216 ?_
  refine zi_aload3 (pc := 1217) hX dL_law_1217 ?_
  refine zi_callI (zc_statW (pc := 1218) hX dL_law_1218 tm_1246 md_L_silence st_L_silence (ct_La_silence hX.sane (xs (x4 + (1 : Int32)).toNatClampNeg) (xs (x4 + (2 : Int32)).toNatClampNeg) g) rfl rfl (et_rsL rfl hu)) (fun v1 g2 => ?_)
  have hu2 : u + rm_La_silence.cells ≤ 20000 := by have e0 : rm_La_silence.cells = 2 := rfl; omega
  refine zi_istore5 (pc := 1221) hX dL_law_1221 rfl rfl ?_
  refine zi_aload2 (pc := 1223) hX dL_law_1223 ?_
  refine zi_aload0 (pc := 1224) hX dL_law_1224 ?_
  refine zi_iload4 (pc := 1225) hX dL_law_1225 ?_
  refine zi_iconst (pc := 1227) hX dL_law_1227 ki_1 ?_
  refine zi_iadd (pc := 1228) hX dL_law_1228 ?_
  refine zi_scr (pc := 1229) hX hsc dL_law_1229 ?_
  refine zi_aload0 (pc := 1230) hX dL_law_1230 ?_
  refine zi_iload4 (pc := 1231) hX dL_law_1231 ?_
  refine zi_iconst (pc := 1233) hX dL_law_1233 ki_2 ?_
  refine zi_iadd (pc := 1234) hX dL_law_1234 ?_
  refine zi_scr (pc := 1235) hX hsc dL_law_1235 ?_
  refine zi_callI (zc_virt (pc := 1236) hX dL_law_1236 tm_1853 md_X10_silence mi_X10_silence ly_61 (ct_Mo_silence hX.sane (xs (x4 + (1 : Int32)).toNatClampNeg) (xs (x4 + (2 : Int32)).toNatClampNeg) g2) rfl rfl (et_rsL rfl hu2)) (fun v3 g4 => ?_)
  have hu4 : u + rm_La_silence.cells + rm_Mo_silence.cells ≤ 20000 := by have e0 : rm_La_silence.cells = 2 := rfl; have e1 : rm_Mo_silence.cells = 0 := rfl; omega
  refine zi_istore6 (pc := 1239) hX dL_law_1239 rfl rfl ?_
  refine zi_aload2 (pc := 1241) hX dL_law_1241 ?_
  refine zi_callI (zc_virt (pc := 1242) hX dL_law_1242 tm_1571 md_X10_thrown mi_X10_thrown ly_61 (ct_Mo_thrown hX.sane g4) rfl rfl (et_rsL rfl hu4)) (fun v5 g6 => ?_)
  have hu6 : u + rm_La_silence.cells + rm_Mo_silence.cells + rm_Mo_thrown.cells ≤ 20000 := by have e0 : rm_La_silence.cells = 2 := rfl; have e1 : rm_Mo_silence.cells = 0 := rfl; have e2 : rm_Mo_thrown.cells = 0 := rfl; omega
  refine zi_iload5 (pc := 1245) hX dL_law_1245 ?_
  refine zi_icmp_eq (pc := 1247) 1252 hX dL_law_1247 (by decide) (fun _ => ?_) (fun _ => ?_)
  · refine zi_iload5 (pc := 1252) hX dL_law_1252 ?_
    refine zi_if_ne (pc := 1254) 1269 hX dL_law_1254 (by decide) (fun _ => ?_) (fun _ => ?_)
    · refine zi_aload3 (pc := 1257) hX dL_law_1257 ?_
      refine zi_iconst (pc := 1258) hX dL_law_1258 ki_0 ?_
      refine zi_lald (pc := 1259) hX dL_law_1259 ly_96 ?_
      refine zi_iload6 (pc := 1260) hX dL_law_1260 ?_
      refine zi_i2l (pc := 1262) hX dL_law_1262 ?_
      refine zi_lcmp (pc := 1263) hX dL_law_1263 ?_
      refine zi_if_eq (pc := 1264) 1269 hX dL_law_1264 (by decide) (fun _ => ?_) (fun _ => ?_)
      · refine zi_goto (pc := 1269) 1631 hX dL_law_1269 (by decide) ?_
        refine zi_iinc4 (pc := 1631) hX dL_law_1631 (kn_6 _) rfl rfl ?_
        refine zi_goto (pc := 1634) 23 hX dL_law_1634 (by decide) ?_
        refine zi_drop (le_s (le_s (le_s (le_s (le_s (le_n (le_n le_nil))))))) ?_; exact hr _ (by have e0 : rm_La_silence.cells = 2 := rfl; have e1 : rm_Mo_silence.cells = 0 := rfl; have e2 : rm_Mo_thrown.cells = 0 := rfl; omega) g6
      · refine zi_iconst (pc := 1267) hX dL_law_1267 ki_0 ?_
        exact zi_ret (pc := 1268) hX dL_law_1268 et_z0 rfl (et_lc hu6) (et_ls hu6)
    · refine zi_goto (pc := 1269) 1631 hX dL_law_1269 (by decide) ?_
      refine zi_iinc4 (pc := 1631) hX dL_law_1631 (kn_6 _) rfl rfl ?_
      refine zi_goto (pc := 1634) 23 hX dL_law_1634 (by decide) ?_
      refine zi_drop (le_s (le_s (le_s (le_s (le_s (le_n (le_n le_nil))))))) ?_; exact hr _ (by have e0 : rm_La_silence.cells = 2 := rfl; have e1 : rm_Mo_silence.cells = 0 := rfl; have e2 : rm_Mo_thrown.cells = 0 := rfl; omega) g6
  · refine zi_iconst (pc := 1250) hX dL_law_1250 ki_0 ?_
    exact zi_ret (pc := 1251) hX dL_law_1251 et_z0 rfl (et_lc hu6) (et_ls hu6)
def fn_La_law_18 (L : Nat) (xs : Nat → Int32) (r23 : Int32 → et_G → Option (Int32 × et_G)) (x4 : Int32) (g : et_G) : Option (Int32 × et_G) :=
  et_ck (et_ib (x4 + (1 : Int32)) L) (
  et_ck (et_ib (x4 + (2 : Int32)) L) (
  et_bd (fn_La_likely (xs (x4 + (1 : Int32)).toNatClampNeg) (xs (x4 + (2 : Int32)).toNatClampNeg) g) (fun v1 g2 =>
  et_ck (et_ib (x4 + (1 : Int32)) L) (
  et_ck (et_ib (x4 + (2 : Int32)) L) (
  et_bd (fn_Mo_likely (xs (x4 + (1 : Int32)).toNatClampNeg) (xs (x4 + (2 : Int32)).toNatClampNeg) g2) (fun v3 g4 =>
  et_bd (fn_Mo_thrown g4) (fun v5 g6 =>
  if v5 = v1 then
    if v1 = 0 then
      et_ck (et_ib (0 : Int32) 1) (
      if (lg_cmp (g6.2 96 (0 : Int32).toNatClampNeg) (v3.toInt64)) = 0 then
        r23 (x4 + (6 : Int32)) g6
      else
        some ((0 : Int32), g6))
    else
      r23 (x4 + (6 : Int32)) g6
  else
    some ((0 : Int32), g6))))))))
theorem zl_18 {X : et_X} {w : et_W} {L : Nat} {xs : Nat → Int32} (hX : et_Gd X w code RL 7 (some .boolean) [] room_1) (hsc : et_Sc X w L xs) {u : Nat} (hu : u ≤ 20000 - 10) (r23 : Int32 → et_G → Option (Int32 × et_G)) (x4 : Int32) (hr : ∀ u2, u2 ≤ u + 3 → ∀ (g : et_G), et_Z X w u2 et_eI 23 [some (.ref (et_ad w 3000)), some (.ref (et_ad w 0)), some (.ref (et_ad w 61)), some (.ref (et_ad w 96)), some (.int (x4 + (6 : Int32))), none, none] [] g (r23 (x4 + (6 : Int32)) g)) (g : et_G) : et_Z X w u et_eI 1272 [some (.ref (et_ad w 3000)), some (.ref (et_ad w 0)), some (.ref (et_ad w 61)), some (.ref (et_ad w 96)), some (.int x4), none, none] [] g (fn_La_law_18 L xs r23 x4 g) := by
  have hu0 : u ≤ 19990 := hu
  have hu : u ≤ 20000 := by omega
  unfold fn_La_law_18
  refine zi_aload1 (pc := 1272) hX dL_law_1272 ?_
  refine zi_aload0 (pc := 1273) hX dL_law_1273 ?_
  refine zi_iload4 (pc := 1274) hX dL_law_1274 ?_
  refine zi_iconst (pc := 1276) hX dL_law_1276 ki_1 ?_
  refine zi_iadd (pc := 1277) hX dL_law_1277 ?_
  refine zi_scr (pc := 1278) hX hsc dL_law_1278 ?_
  refine zi_aload0 (pc := 1279) hX dL_law_1279 ?_
  refine zi_iload4 (pc := 1280) hX dL_law_1280 ?_
  refine zi_iconst (pc := 1282) hX dL_law_1282 ki_2 ?_
  refine zi_iadd (pc := 1283) hX dL_law_1283 ?_
  refine zi_scr (pc := 1284) hX hsc dL_law_1284 ?_
  refine zi_aload3 (pc := 1285) hX dL_law_1285 ?_
  refine zi_callI (zc_statW (pc := 1286) hX dL_law_1286 tm_1263 md_L_likely st_L_likely (ct_La_likely hX.sane (xs (x4 + (1 : Int32)).toNatClampNeg) (xs (x4 + (2 : Int32)).toNatClampNeg) g) rfl rfl (et_rsL rfl hu)) (fun v1 g2 => ?_)
  have hu2 : u + rm_La_likely.cells ≤ 20000 := by have e0 : rm_La_likely.cells = 2 := rfl; omega
  refine zi_istore5 (pc := 1289) hX dL_law_1289 rfl rfl ?_
  refine zi_aload2 (pc := 1291) hX dL_law_1291 ?_
  refine zi_aload0 (pc := 1292) hX dL_law_1292 ?_
  refine zi_iload4 (pc := 1293) hX dL_law_1293 ?_
  refine zi_iconst (pc := 1295) hX dL_law_1295 ki_1 ?_
  refine zi_iadd (pc := 1296) hX dL_law_1296 ?_
  refine zi_scr (pc := 1297) hX hsc dL_law_1297 ?_
  refine zi_aload0 (pc := 1298) hX dL_law_1298 ?_
  refine zi_iload4 (pc := 1299) hX dL_law_1299 ?_
  refine zi_iconst (pc := 1301) hX dL_law_1301 ki_2 ?_
  refine zi_iadd (pc := 1302) hX dL_law_1302 ?_
  refine zi_scr (pc := 1303) hX hsc dL_law_1303 ?_
  refine zi_callI (zc_virt (pc := 1304) hX dL_law_1304 tm_1857 md_X10_likely mi_X10_likely ly_61 (ct_Mo_likely hX.sane (xs (x4 + (1 : Int32)).toNatClampNeg) (xs (x4 + (2 : Int32)).toNatClampNeg) g2) rfl rfl (et_rsL rfl hu2)) (fun v3 g4 => ?_)
  have hu4 : u + rm_La_likely.cells + rm_Mo_likely.cells ≤ 20000 := by have e0 : rm_La_likely.cells = 2 := rfl; have e1 : rm_Mo_likely.cells = 0 := rfl; omega
  refine zi_istore6 (pc := 1307) hX dL_law_1307 rfl rfl ?_
  refine zi_aload2 (pc := 1309) hX dL_law_1309 ?_
  refine zi_callI (zc_virt (pc := 1310) hX dL_law_1310 tm_1571 md_X10_thrown mi_X10_thrown ly_61 (ct_Mo_thrown hX.sane g4) rfl rfl (et_rsL rfl hu4)) (fun v5 g6 => ?_)
  have hu6 : u + rm_La_likely.cells + rm_Mo_likely.cells + rm_Mo_thrown.cells ≤ 20000 := by have e0 : rm_La_likely.cells = 2 := rfl; have e1 : rm_Mo_likely.cells = 0 := rfl; have e2 : rm_Mo_thrown.cells = 0 := rfl; omega
  refine zi_iload5 (pc := 1313) hX dL_law_1313 ?_
  refine zi_icmp_eq (pc := 1315) 1320 hX dL_law_1315 (by decide) (fun _ => ?_) (fun _ => ?_)
  · refine zi_iload5 (pc := 1320) hX dL_law_1320 ?_
    refine zi_if_ne (pc := 1322) 1337 hX dL_law_1322 (by decide) (fun _ => ?_) (fun _ => ?_)
    · refine zi_aload3 (pc := 1325) hX dL_law_1325 ?_
      refine zi_iconst (pc := 1326) hX dL_law_1326 ki_0 ?_
      refine zi_lald (pc := 1327) hX dL_law_1327 ly_96 ?_
      refine zi_iload6 (pc := 1328) hX dL_law_1328 ?_
      refine zi_i2l (pc := 1330) hX dL_law_1330 ?_
      refine zi_lcmp (pc := 1331) hX dL_law_1331 ?_
      refine zi_if_eq (pc := 1332) 1337 hX dL_law_1332 (by decide) (fun _ => ?_) (fun _ => ?_)
      · refine zi_goto (pc := 1337) 1631 hX dL_law_1337 (by decide) ?_
        refine zi_iinc4 (pc := 1631) hX dL_law_1631 (kn_6 _) rfl rfl ?_
        refine zi_goto (pc := 1634) 23 hX dL_law_1634 (by decide) ?_
        refine zi_drop (le_s (le_s (le_s (le_s (le_s (le_n (le_n le_nil))))))) ?_; exact hr _ (by have e0 : rm_La_likely.cells = 2 := rfl; have e1 : rm_Mo_likely.cells = 0 := rfl; have e2 : rm_Mo_thrown.cells = 0 := rfl; omega) g6
      · refine zi_iconst (pc := 1335) hX dL_law_1335 ki_0 ?_
        exact zi_ret (pc := 1336) hX dL_law_1336 et_z0 rfl (et_lc hu6) (et_ls hu6)
    · refine zi_goto (pc := 1337) 1631 hX dL_law_1337 (by decide) ?_
      refine zi_iinc4 (pc := 1631) hX dL_law_1631 (kn_6 _) rfl rfl ?_
      refine zi_goto (pc := 1634) 23 hX dL_law_1634 (by decide) ?_
      refine zi_drop (le_s (le_s (le_s (le_s (le_s (le_n (le_n le_nil))))))) ?_; exact hr _ (by have e0 : rm_La_likely.cells = 2 := rfl; have e1 : rm_Mo_likely.cells = 0 := rfl; have e2 : rm_Mo_thrown.cells = 0 := rfl; omega) g6
  · refine zi_iconst (pc := 1318) hX dL_law_1318 ki_0 ?_
    exact zi_ret (pc := 1319) hX dL_law_1319 et_z0 rfl (et_lc hu6) (et_ls hu6)
def fn_La_law_19 (L : Nat) (xs : Nat → Int32) (r23 : Int32 → et_G → Option (Int32 × et_G)) (x4 : Int32) (g : et_G) : Option (Int32 × et_G) :=
  et_ck (et_ib (x4 + (1 : Int32)) L) (
  et_bd (fn_La_worlds (xs (x4 + (1 : Int32)).toNatClampNeg) g) (fun v1 g2 =>
  et_ck (et_ib (x4 + (1 : Int32)) L) (
  et_bd (fn_Mo_worlds (xs (x4 + (1 : Int32)).toNatClampNeg) g2) (fun v3 g4 =>
  et_bd (fn_Mo_thrown g4) (fun v5 g6 =>
  if v5 = v1 then
    if v1 = 0 then
      et_ck (et_ib (0 : Int32) 1) (
      if (lg_cmp (g6.2 96 (0 : Int32).toNatClampNeg) (v3.toInt64)) = 0 then
        r23 (x4 + (6 : Int32)) g6
      else
        some ((0 : Int32), g6))
    else
      r23 (x4 + (6 : Int32)) g6
  else
    some ((0 : Int32), g6))))))
theorem zl_19 {X : et_X} {w : et_W} {L : Nat} {xs : Nat → Int32} (hX : et_Gd X w code RL 7 (some .boolean) [] room_1) (hsc : et_Sc X w L xs) {u : Nat} (hu : u ≤ 20000 - 10) (r23 : Int32 → et_G → Option (Int32 × et_G)) (x4 : Int32) (hr : ∀ u2, u2 ≤ u + 3 → ∀ (g : et_G), et_Z X w u2 et_eI 23 [some (.ref (et_ad w 3000)), some (.ref (et_ad w 0)), some (.ref (et_ad w 61)), some (.ref (et_ad w 96)), some (.int (x4 + (6 : Int32))), none, none] [] g (r23 (x4 + (6 : Int32)) g)) (g : et_G) : et_Z X w u et_eI 1340 [some (.ref (et_ad w 3000)), some (.ref (et_ad w 0)), some (.ref (et_ad w 61)), some (.ref (et_ad w 96)), some (.int x4), none, none] [] g (fn_La_law_19 L xs r23 x4 g) := by
  have hu0 : u ≤ 19990 := hu
  have hu : u ≤ 20000 := by omega
  unfold fn_La_law_19
  refine zi_aload1 (pc := 1340) hX dL_law_1340 ?_
  refine zi_aload0 (pc := 1341) hX dL_law_1341 ?_
  refine zi_iload4 (pc := 1342) hX dL_law_1342 ?_
  refine zi_iconst (pc := 1344) hX dL_law_1344 ki_1 ?_
  refine zi_iadd (pc := 1345) hX dL_law_1345 ?_
  refine zi_scr (pc := 1346) hX hsc dL_law_1346 ?_
  refine zi_aload3 (pc := 1347) hX dL_law_1347 ?_
  refine zi_callI (zc_statW (pc := 1348) hX dL_law_1348 tm_1278 md_L_worlds st_L_worlds (ct_La_worlds hX.sane (xs (x4 + (1 : Int32)).toNatClampNeg) g) rfl rfl (et_rsL rfl hu)) (fun v1 g2 => ?_)
  have hu2 : u + rm_La_worlds.cells ≤ 20000 := by have e0 : rm_La_worlds.cells = 1 := rfl; omega
  refine zi_istore5 (pc := 1351) hX dL_law_1351 rfl rfl ?_
  refine zi_aload2 (pc := 1353) hX dL_law_1353 ?_
  refine zi_aload0 (pc := 1354) hX dL_law_1354 ?_
  refine zi_iload4 (pc := 1355) hX dL_law_1355 ?_
  refine zi_iconst (pc := 1357) hX dL_law_1357 ki_1 ?_
  refine zi_iadd (pc := 1358) hX dL_law_1358 ?_
  refine zi_scr (pc := 1359) hX hsc dL_law_1359 ?_
  refine zi_callI (zc_virt (pc := 1360) hX dL_law_1360 tm_1863 md_X10_worlds mi_X10_worlds ly_61 (ct_Mo_worlds hX.sane (xs (x4 + (1 : Int32)).toNatClampNeg) g2) rfl rfl (et_rsL rfl hu2)) (fun v3 g4 => ?_)
  have hu4 : u + rm_La_worlds.cells + rm_Mo_worlds.cells ≤ 20000 := by have e0 : rm_La_worlds.cells = 1 := rfl; have e1 : rm_Mo_worlds.cells = 0 := rfl; omega
  refine zi_istore6 (pc := 1363) hX dL_law_1363 rfl rfl ?_
  refine zi_aload2 (pc := 1365) hX dL_law_1365 ?_
  refine zi_callI (zc_virt (pc := 1366) hX dL_law_1366 tm_1571 md_X10_thrown mi_X10_thrown ly_61 (ct_Mo_thrown hX.sane g4) rfl rfl (et_rsL rfl hu4)) (fun v5 g6 => ?_)
  have hu6 : u + rm_La_worlds.cells + rm_Mo_worlds.cells + rm_Mo_thrown.cells ≤ 20000 := by have e0 : rm_La_worlds.cells = 1 := rfl; have e1 : rm_Mo_worlds.cells = 0 := rfl; have e2 : rm_Mo_thrown.cells = 0 := rfl; omega
  refine zi_iload5 (pc := 1369) hX dL_law_1369 ?_
  refine zi_icmp_eq (pc := 1371) 1376 hX dL_law_1371 (by decide) (fun _ => ?_) (fun _ => ?_)
  · refine zi_iload5 (pc := 1376) hX dL_law_1376 ?_
    refine zi_if_ne (pc := 1378) 1393 hX dL_law_1378 (by decide) (fun _ => ?_) (fun _ => ?_)
    · refine zi_aload3 (pc := 1381) hX dL_law_1381 ?_
      refine zi_iconst (pc := 1382) hX dL_law_1382 ki_0 ?_
      refine zi_lald (pc := 1383) hX dL_law_1383 ly_96 ?_
      refine zi_iload6 (pc := 1384) hX dL_law_1384 ?_
      refine zi_i2l (pc := 1386) hX dL_law_1386 ?_
      refine zi_lcmp (pc := 1387) hX dL_law_1387 ?_
      refine zi_if_eq (pc := 1388) 1393 hX dL_law_1388 (by decide) (fun _ => ?_) (fun _ => ?_)
      · refine zi_goto (pc := 1393) 1631 hX dL_law_1393 (by decide) ?_
        refine zi_iinc4 (pc := 1631) hX dL_law_1631 (kn_6 _) rfl rfl ?_
        refine zi_goto (pc := 1634) 23 hX dL_law_1634 (by decide) ?_
        refine zi_drop (le_s (le_s (le_s (le_s (le_s (le_n (le_n le_nil))))))) ?_; exact hr _ (by have e0 : rm_La_worlds.cells = 1 := rfl; have e1 : rm_Mo_worlds.cells = 0 := rfl; have e2 : rm_Mo_thrown.cells = 0 := rfl; omega) g6
      · refine zi_iconst (pc := 1391) hX dL_law_1391 ki_0 ?_
        exact zi_ret (pc := 1392) hX dL_law_1392 et_z0 rfl (et_lc hu6) (et_ls hu6)
    · refine zi_goto (pc := 1393) 1631 hX dL_law_1393 (by decide) ?_
      refine zi_iinc4 (pc := 1631) hX dL_law_1631 (kn_6 _) rfl rfl ?_
      refine zi_goto (pc := 1634) 23 hX dL_law_1634 (by decide) ?_
      refine zi_drop (le_s (le_s (le_s (le_s (le_s (le_n (le_n le_nil))))))) ?_; exact hr _ (by have e0 : rm_La_worlds.cells = 1 := rfl; have e1 : rm_Mo_worlds.cells = 0 := rfl; have e2 : rm_Mo_thrown.cells = 0 := rfl; omega) g6
  · refine zi_iconst (pc := 1374) hX dL_law_1374 ki_0 ?_
    exact zi_ret (pc := 1375) hX dL_law_1375 et_z0 rfl (et_lc hu6) (et_ls hu6)
def fn_La_law_20 (L : Nat) (xs : Nat → Int32) (r23 : Int32 → et_G → Option (Int32 × et_G)) (x4 : Int32) (g : et_G) : Option (Int32 × et_G) :=
  et_ck (et_ib (x4 + (1 : Int32)) L) (
  et_ck (et_ib (x4 + (2 : Int32)) L) (
  et_ck (et_ib (x4 + (3 : Int32)) L) (
  if (xs (x4 + (3 : Int32)).toNatClampNeg) = 0 then
    et_bd (fn_La_tell (xs (x4 + (1 : Int32)).toNatClampNeg) (xs (x4 + (2 : Int32)).toNatClampNeg) (0 : Int32) g) (fun v1 g2 =>
    et_ck (et_ib (x4 + (1 : Int32)) L) (
    et_ck (et_ib (x4 + (2 : Int32)) L) (
    et_ck (et_ib (x4 + (3 : Int32)) L) (
    if (xs (x4 + (3 : Int32)).toNatClampNeg) = 0 then
      et_bd (fn_Mo_tell (xs (x4 + (1 : Int32)).toNatClampNeg) (xs (x4 + (2 : Int32)).toNatClampNeg) (0 : Int32) g2) (fun v3 g4 =>
      et_bd (fn_Mo_thrown g4) (fun v5 g6 =>
      if v5 = v1 then
        if v1 = 0 then
          et_ck (et_ib (0 : Int32) 1) (
          if (lg_cmp (g6.2 96 (0 : Int32).toNatClampNeg) (v3.toInt64)) = 0 then
            r23 (x4 + (6 : Int32)) g6
          else
            some ((0 : Int32), g6))
        else
          r23 (x4 + (6 : Int32)) g6
      else
        some ((0 : Int32), g6)))
    else
      et_bd (fn_Mo_tell (xs (x4 + (1 : Int32)).toNatClampNeg) (xs (x4 + (2 : Int32)).toNatClampNeg) (1 : Int32) g2) (fun v9 g10 =>
      et_bd (fn_Mo_thrown g10) (fun v11 g12 =>
      if v11 = v1 then
        if v1 = 0 then
          et_ck (et_ib (0 : Int32) 1) (
          if (lg_cmp (g12.2 96 (0 : Int32).toNatClampNeg) (v9.toInt64)) = 0 then
            r23 (x4 + (6 : Int32)) g12
          else
            some ((0 : Int32), g12))
        else
          r23 (x4 + (6 : Int32)) g12
      else
        some ((0 : Int32), g12)))))))
  else
    et_bd (fn_La_tell (xs (x4 + (1 : Int32)).toNatClampNeg) (xs (x4 + (2 : Int32)).toNatClampNeg) (1 : Int32) g) (fun v15 g16 =>
    et_ck (et_ib (x4 + (1 : Int32)) L) (
    et_ck (et_ib (x4 + (2 : Int32)) L) (
    et_ck (et_ib (x4 + (3 : Int32)) L) (
    if (xs (x4 + (3 : Int32)).toNatClampNeg) = 0 then
      et_bd (fn_Mo_tell (xs (x4 + (1 : Int32)).toNatClampNeg) (xs (x4 + (2 : Int32)).toNatClampNeg) (0 : Int32) g16) (fun v17 g18 =>
      et_bd (fn_Mo_thrown g18) (fun v19 g20 =>
      if v19 = v15 then
        if v15 = 0 then
          et_ck (et_ib (0 : Int32) 1) (
          if (lg_cmp (g20.2 96 (0 : Int32).toNatClampNeg) (v17.toInt64)) = 0 then
            r23 (x4 + (6 : Int32)) g20
          else
            some ((0 : Int32), g20))
        else
          r23 (x4 + (6 : Int32)) g20
      else
        some ((0 : Int32), g20)))
    else
      et_bd (fn_Mo_tell (xs (x4 + (1 : Int32)).toNatClampNeg) (xs (x4 + (2 : Int32)).toNatClampNeg) (1 : Int32) g16) (fun v23 g24 =>
      et_bd (fn_Mo_thrown g24) (fun v25 g26 =>
      if v25 = v15 then
        if v15 = 0 then
          et_ck (et_ib (0 : Int32) 1) (
          if (lg_cmp (g26.2 96 (0 : Int32).toNatClampNeg) (v23.toInt64)) = 0 then
            r23 (x4 + (6 : Int32)) g26
          else
            some ((0 : Int32), g26))
        else
          r23 (x4 + (6 : Int32)) g26
      else
        some ((0 : Int32), g26))))))))))
theorem zl_20 {X : et_X} {w : et_W} {L : Nat} {xs : Nat → Int32} (hX : et_Gd X w code RL 7 (some .boolean) [] room_1) (hsc : et_Sc X w L xs) {u : Nat} (hu : u ≤ 20000 - 10) (r23 : Int32 → et_G → Option (Int32 × et_G)) (x4 : Int32) (hr : ∀ u2, u2 ≤ u + 3 → ∀ (g : et_G), et_Z X w u2 et_eI 23 [some (.ref (et_ad w 3000)), some (.ref (et_ad w 0)), some (.ref (et_ad w 61)), some (.ref (et_ad w 96)), some (.int (x4 + (6 : Int32))), none, none] [] g (r23 (x4 + (6 : Int32)) g)) (g : et_G) : et_Z X w u et_eI 1396 [some (.ref (et_ad w 3000)), some (.ref (et_ad w 0)), some (.ref (et_ad w 61)), some (.ref (et_ad w 96)), some (.int x4), none, none] [] g (fn_La_law_20 L xs r23 x4 g) := by
  have hu0 : u ≤ 19990 := hu
  have hu : u ≤ 20000 := by omega
  unfold fn_La_law_20
  refine zi_aload1 (pc := 1396) hX dL_law_1396 ?_
  refine zi_aload0 (pc := 1397) hX dL_law_1397 ?_
  refine zi_iload4 (pc := 1398) hX dL_law_1398 ?_
  refine zi_iconst (pc := 1400) hX dL_law_1400 ki_1 ?_
  refine zi_iadd (pc := 1401) hX dL_law_1401 ?_
  refine zi_scr (pc := 1402) hX hsc dL_law_1402 ?_
  refine zi_aload0 (pc := 1403) hX dL_law_1403 ?_
  refine zi_iload4 (pc := 1404) hX dL_law_1404 ?_
  refine zi_iconst (pc := 1406) hX dL_law_1406 ki_2 ?_
  refine zi_iadd (pc := 1407) hX dL_law_1407 ?_
  refine zi_scr (pc := 1408) hX hsc dL_law_1408 ?_
  refine zi_aload0 (pc := 1409) hX dL_law_1409 ?_
  refine zi_iload4 (pc := 1410) hX dL_law_1410 ?_
  refine zi_iconst (pc := 1412) hX dL_law_1412 ki_3 ?_
  refine zi_iadd (pc := 1413) hX dL_law_1413 ?_
  refine zi_scr (pc := 1414) hX hsc dL_law_1414 ?_
  refine zi_if_eq (pc := 1415) 1422 hX dL_law_1415 (by decide) (fun _ => ?_) (fun _ => ?_)
  · refine zi_iconst (pc := 1422) hX dL_law_1422 ki_0 ?_
    refine zi_aload3 (pc := 1423) hX dL_law_1423 ?_
    refine zi_callI (zc_statW (pc := 1424) hX dL_law_1424 tm_1290 md_L_tell st_L_tell (ct_La_tell hX.sane (xs (x4 + (1 : Int32)).toNatClampNeg) (xs (x4 + (2 : Int32)).toNatClampNeg) (0 : Int32) g) rfl rfl (et_rsL rfl hu)) (fun v1 g2 => ?_)
    have hu2 : u + rm_La_tell.cells ≤ 20000 := by have e0 : rm_La_tell.cells = 2 := rfl; omega
    refine zi_istore5 (pc := 1427) hX dL_law_1427 rfl rfl ?_
    refine zi_aload2 (pc := 1429) hX dL_law_1429 ?_
    refine zi_aload0 (pc := 1430) hX dL_law_1430 ?_
    refine zi_iload4 (pc := 1431) hX dL_law_1431 ?_
    refine zi_iconst (pc := 1433) hX dL_law_1433 ki_1 ?_
    refine zi_iadd (pc := 1434) hX dL_law_1434 ?_
    refine zi_scr (pc := 1435) hX hsc dL_law_1435 ?_
    refine zi_aload0 (pc := 1436) hX dL_law_1436 ?_
    refine zi_iload4 (pc := 1437) hX dL_law_1437 ?_
    refine zi_iconst (pc := 1439) hX dL_law_1439 ki_2 ?_
    refine zi_iadd (pc := 1440) hX dL_law_1440 ?_
    refine zi_scr (pc := 1441) hX hsc dL_law_1441 ?_
    refine zi_aload0 (pc := 1442) hX dL_law_1442 ?_
    refine zi_iload4 (pc := 1443) hX dL_law_1443 ?_
    refine zi_iconst (pc := 1445) hX dL_law_1445 ki_3 ?_
    refine zi_iadd (pc := 1446) hX dL_law_1446 ?_
    refine zi_scr (pc := 1447) hX hsc dL_law_1447 ?_
    refine zi_if_eq (pc := 1448) 1455 hX dL_law_1448 (by decide) (fun _ => ?_) (fun _ => ?_)
    · refine zi_iconst (pc := 1455) hX dL_law_1455 ki_0 ?_
      refine zi_callI (zc_virt (pc := 1456) hX dL_law_1456 tm_1867 md_X10_tell mi_X10_tell ly_61 (ct_Mo_tell hX.sane (xs (x4 + (1 : Int32)).toNatClampNeg) (xs (x4 + (2 : Int32)).toNatClampNeg) (0 : Int32) g2) rfl rfl (et_rsL rfl hu2)) (fun v3 g4 => ?_)
      have hu4 : u + rm_La_tell.cells + rm_Mo_tell.cells ≤ 20000 := by have e0 : rm_La_tell.cells = 2 := rfl; have e1 : rm_Mo_tell.cells = 0 := rfl; omega
      refine zi_istore6 (pc := 1459) hX dL_law_1459 rfl rfl ?_
      refine zi_aload2 (pc := 1461) hX dL_law_1461 ?_
      refine zi_callI (zc_virt (pc := 1462) hX dL_law_1462 tm_1571 md_X10_thrown mi_X10_thrown ly_61 (ct_Mo_thrown hX.sane g4) rfl rfl (et_rsL rfl hu4)) (fun v5 g6 => ?_)
      have hu6 : u + rm_La_tell.cells + rm_Mo_tell.cells + rm_Mo_thrown.cells ≤ 20000 := by have e0 : rm_La_tell.cells = 2 := rfl; have e1 : rm_Mo_tell.cells = 0 := rfl; have e2 : rm_Mo_thrown.cells = 0 := rfl; omega
      refine zi_iload5 (pc := 1465) hX dL_law_1465 ?_
      refine zi_icmp_eq (pc := 1467) 1472 hX dL_law_1467 (by decide) (fun _ => ?_) (fun _ => ?_)
      · refine zi_iload5 (pc := 1472) hX dL_law_1472 ?_
        refine zi_if_ne (pc := 1474) 1489 hX dL_law_1474 (by decide) (fun _ => ?_) (fun _ => ?_)
        · refine zi_aload3 (pc := 1477) hX dL_law_1477 ?_
          refine zi_iconst (pc := 1478) hX dL_law_1478 ki_0 ?_
          refine zi_lald (pc := 1479) hX dL_law_1479 ly_96 ?_
          refine zi_iload6 (pc := 1480) hX dL_law_1480 ?_
          refine zi_i2l (pc := 1482) hX dL_law_1482 ?_
          refine zi_lcmp (pc := 1483) hX dL_law_1483 ?_
          refine zi_if_eq (pc := 1484) 1489 hX dL_law_1484 (by decide) (fun _ => ?_) (fun _ => ?_)
          · refine zi_goto (pc := 1489) 1631 hX dL_law_1489 (by decide) ?_
            refine zi_iinc4 (pc := 1631) hX dL_law_1631 (kn_6 _) rfl rfl ?_
            refine zi_goto (pc := 1634) 23 hX dL_law_1634 (by decide) ?_
            refine zi_drop (le_s (le_s (le_s (le_s (le_s (le_n (le_n le_nil))))))) ?_; exact hr _ (by have e0 : rm_La_tell.cells = 2 := rfl; have e1 : rm_Mo_tell.cells = 0 := rfl; have e2 : rm_Mo_thrown.cells = 0 := rfl; omega) g6
          · refine zi_iconst (pc := 1487) hX dL_law_1487 ki_0 ?_
            exact zi_ret (pc := 1488) hX dL_law_1488 et_z0 rfl (et_lc hu6) (et_ls hu6)
        · refine zi_goto (pc := 1489) 1631 hX dL_law_1489 (by decide) ?_
          refine zi_iinc4 (pc := 1631) hX dL_law_1631 (kn_6 _) rfl rfl ?_
          refine zi_goto (pc := 1634) 23 hX dL_law_1634 (by decide) ?_
          refine zi_drop (le_s (le_s (le_s (le_s (le_s (le_n (le_n le_nil))))))) ?_; exact hr _ (by have e0 : rm_La_tell.cells = 2 := rfl; have e1 : rm_Mo_tell.cells = 0 := rfl; have e2 : rm_Mo_thrown.cells = 0 := rfl; omega) g6
      · refine zi_iconst (pc := 1470) hX dL_law_1470 ki_0 ?_
        exact zi_ret (pc := 1471) hX dL_law_1471 et_z0 rfl (et_lc hu6) (et_ls hu6)
    · refine zi_iconst (pc := 1451) hX dL_law_1451 ki_1 ?_
      refine zi_goto (pc := 1452) 1456 hX dL_law_1452 (by decide) ?_
      refine zi_callI (zc_virt (pc := 1456) hX dL_law_1456 tm_1867 md_X10_tell mi_X10_tell ly_61 (ct_Mo_tell hX.sane (xs (x4 + (1 : Int32)).toNatClampNeg) (xs (x4 + (2 : Int32)).toNatClampNeg) (1 : Int32) g2) rfl rfl (et_rsL rfl hu2)) (fun v9 g10 => ?_)
      have hu10 : u + rm_La_tell.cells + rm_Mo_tell.cells ≤ 20000 := by have e0 : rm_La_tell.cells = 2 := rfl; have e1 : rm_Mo_tell.cells = 0 := rfl; omega
      refine zi_istore6 (pc := 1459) hX dL_law_1459 rfl rfl ?_
      refine zi_aload2 (pc := 1461) hX dL_law_1461 ?_
      refine zi_callI (zc_virt (pc := 1462) hX dL_law_1462 tm_1571 md_X10_thrown mi_X10_thrown ly_61 (ct_Mo_thrown hX.sane g10) rfl rfl (et_rsL rfl hu10)) (fun v11 g12 => ?_)
      have hu12 : u + rm_La_tell.cells + rm_Mo_tell.cells + rm_Mo_thrown.cells ≤ 20000 := by have e0 : rm_La_tell.cells = 2 := rfl; have e1 : rm_Mo_tell.cells = 0 := rfl; have e2 : rm_Mo_thrown.cells = 0 := rfl; omega
      refine zi_iload5 (pc := 1465) hX dL_law_1465 ?_
      refine zi_icmp_eq (pc := 1467) 1472 hX dL_law_1467 (by decide) (fun _ => ?_) (fun _ => ?_)
      · refine zi_iload5 (pc := 1472) hX dL_law_1472 ?_
        refine zi_if_ne (pc := 1474) 1489 hX dL_law_1474 (by decide) (fun _ => ?_) (fun _ => ?_)
        · refine zi_aload3 (pc := 1477) hX dL_law_1477 ?_
          refine zi_iconst (pc := 1478) hX dL_law_1478 ki_0 ?_
          refine zi_lald (pc := 1479) hX dL_law_1479 ly_96 ?_
          refine zi_iload6 (pc := 1480) hX dL_law_1480 ?_
          refine zi_i2l (pc := 1482) hX dL_law_1482 ?_
          refine zi_lcmp (pc := 1483) hX dL_law_1483 ?_
          refine zi_if_eq (pc := 1484) 1489 hX dL_law_1484 (by decide) (fun _ => ?_) (fun _ => ?_)
          · refine zi_goto (pc := 1489) 1631 hX dL_law_1489 (by decide) ?_
            refine zi_iinc4 (pc := 1631) hX dL_law_1631 (kn_6 _) rfl rfl ?_
            refine zi_goto (pc := 1634) 23 hX dL_law_1634 (by decide) ?_
            refine zi_drop (le_s (le_s (le_s (le_s (le_s (le_n (le_n le_nil))))))) ?_; exact hr _ (by have e0 : rm_La_tell.cells = 2 := rfl; have e1 : rm_Mo_tell.cells = 0 := rfl; have e2 : rm_Mo_thrown.cells = 0 := rfl; omega) g12
          · refine zi_iconst (pc := 1487) hX dL_law_1487 ki_0 ?_
            exact zi_ret (pc := 1488) hX dL_law_1488 et_z0 rfl (et_lc hu12) (et_ls hu12)
        · refine zi_goto (pc := 1489) 1631 hX dL_law_1489 (by decide) ?_
          refine zi_iinc4 (pc := 1631) hX dL_law_1631 (kn_6 _) rfl rfl ?_
          refine zi_goto (pc := 1634) 23 hX dL_law_1634 (by decide) ?_
          refine zi_drop (le_s (le_s (le_s (le_s (le_s (le_n (le_n le_nil))))))) ?_; exact hr _ (by have e0 : rm_La_tell.cells = 2 := rfl; have e1 : rm_Mo_tell.cells = 0 := rfl; have e2 : rm_Mo_thrown.cells = 0 := rfl; omega) g12
      · refine zi_iconst (pc := 1470) hX dL_law_1470 ki_0 ?_
        exact zi_ret (pc := 1471) hX dL_law_1471 et_z0 rfl (et_lc hu12) (et_ls hu12)
  · refine zi_iconst (pc := 1418) hX dL_law_1418 ki_1 ?_
    refine zi_goto (pc := 1419) 1423 hX dL_law_1419 (by decide) ?_
    refine zi_aload3 (pc := 1423) hX dL_law_1423 ?_
    refine zi_callI (zc_statW (pc := 1424) hX dL_law_1424 tm_1290 md_L_tell st_L_tell (ct_La_tell hX.sane (xs (x4 + (1 : Int32)).toNatClampNeg) (xs (x4 + (2 : Int32)).toNatClampNeg) (1 : Int32) g) rfl rfl (et_rsL rfl hu)) (fun v15 g16 => ?_)
    have hu16 : u + rm_La_tell.cells ≤ 20000 := by have e0 : rm_La_tell.cells = 2 := rfl; omega
    refine zi_istore5 (pc := 1427) hX dL_law_1427 rfl rfl ?_
    refine zi_aload2 (pc := 1429) hX dL_law_1429 ?_
    refine zi_aload0 (pc := 1430) hX dL_law_1430 ?_
    refine zi_iload4 (pc := 1431) hX dL_law_1431 ?_
    refine zi_iconst (pc := 1433) hX dL_law_1433 ki_1 ?_
    refine zi_iadd (pc := 1434) hX dL_law_1434 ?_
    refine zi_scr (pc := 1435) hX hsc dL_law_1435 ?_
    refine zi_aload0 (pc := 1436) hX dL_law_1436 ?_
    refine zi_iload4 (pc := 1437) hX dL_law_1437 ?_
    refine zi_iconst (pc := 1439) hX dL_law_1439 ki_2 ?_
    refine zi_iadd (pc := 1440) hX dL_law_1440 ?_
    refine zi_scr (pc := 1441) hX hsc dL_law_1441 ?_
    refine zi_aload0 (pc := 1442) hX dL_law_1442 ?_
    refine zi_iload4 (pc := 1443) hX dL_law_1443 ?_
    refine zi_iconst (pc := 1445) hX dL_law_1445 ki_3 ?_
    refine zi_iadd (pc := 1446) hX dL_law_1446 ?_
    refine zi_scr (pc := 1447) hX hsc dL_law_1447 ?_
    refine zi_if_eq (pc := 1448) 1455 hX dL_law_1448 (by decide) (fun _ => ?_) (fun _ => ?_)
    · refine zi_iconst (pc := 1455) hX dL_law_1455 ki_0 ?_
      refine zi_callI (zc_virt (pc := 1456) hX dL_law_1456 tm_1867 md_X10_tell mi_X10_tell ly_61 (ct_Mo_tell hX.sane (xs (x4 + (1 : Int32)).toNatClampNeg) (xs (x4 + (2 : Int32)).toNatClampNeg) (0 : Int32) g16) rfl rfl (et_rsL rfl hu16)) (fun v17 g18 => ?_)
      have hu18 : u + rm_La_tell.cells + rm_Mo_tell.cells ≤ 20000 := by have e0 : rm_La_tell.cells = 2 := rfl; have e1 : rm_Mo_tell.cells = 0 := rfl; omega
      refine zi_istore6 (pc := 1459) hX dL_law_1459 rfl rfl ?_
      refine zi_aload2 (pc := 1461) hX dL_law_1461 ?_
      refine zi_callI (zc_virt (pc := 1462) hX dL_law_1462 tm_1571 md_X10_thrown mi_X10_thrown ly_61 (ct_Mo_thrown hX.sane g18) rfl rfl (et_rsL rfl hu18)) (fun v19 g20 => ?_)
      have hu20 : u + rm_La_tell.cells + rm_Mo_tell.cells + rm_Mo_thrown.cells ≤ 20000 := by have e0 : rm_La_tell.cells = 2 := rfl; have e1 : rm_Mo_tell.cells = 0 := rfl; have e2 : rm_Mo_thrown.cells = 0 := rfl; omega
      refine zi_iload5 (pc := 1465) hX dL_law_1465 ?_
      refine zi_icmp_eq (pc := 1467) 1472 hX dL_law_1467 (by decide) (fun _ => ?_) (fun _ => ?_)
      · refine zi_iload5 (pc := 1472) hX dL_law_1472 ?_
        refine zi_if_ne (pc := 1474) 1489 hX dL_law_1474 (by decide) (fun _ => ?_) (fun _ => ?_)
        · refine zi_aload3 (pc := 1477) hX dL_law_1477 ?_
          refine zi_iconst (pc := 1478) hX dL_law_1478 ki_0 ?_
          refine zi_lald (pc := 1479) hX dL_law_1479 ly_96 ?_
          refine zi_iload6 (pc := 1480) hX dL_law_1480 ?_
          refine zi_i2l (pc := 1482) hX dL_law_1482 ?_
          refine zi_lcmp (pc := 1483) hX dL_law_1483 ?_
          refine zi_if_eq (pc := 1484) 1489 hX dL_law_1484 (by decide) (fun _ => ?_) (fun _ => ?_)
          · refine zi_goto (pc := 1489) 1631 hX dL_law_1489 (by decide) ?_
            refine zi_iinc4 (pc := 1631) hX dL_law_1631 (kn_6 _) rfl rfl ?_
            refine zi_goto (pc := 1634) 23 hX dL_law_1634 (by decide) ?_
            refine zi_drop (le_s (le_s (le_s (le_s (le_s (le_n (le_n le_nil))))))) ?_; exact hr _ (by have e0 : rm_La_tell.cells = 2 := rfl; have e1 : rm_Mo_tell.cells = 0 := rfl; have e2 : rm_Mo_thrown.cells = 0 := rfl; omega) g20
          · refine zi_iconst (pc := 1487) hX dL_law_1487 ki_0 ?_
            exact zi_ret (pc := 1488) hX dL_law_1488 et_z0 rfl (et_lc hu20) (et_ls hu20)
        · refine zi_goto (pc := 1489) 1631 hX dL_law_1489 (by decide) ?_
          refine zi_iinc4 (pc := 1631) hX dL_law_1631 (kn_6 _) rfl rfl ?_
          refine zi_goto (pc := 1634) 23 hX dL_law_1634 (by decide) ?_
          refine zi_drop (le_s (le_s (le_s (le_s (le_s (le_n (le_n le_nil))))))) ?_; exact hr _ (by have e0 : rm_La_tell.cells = 2 := rfl; have e1 : rm_Mo_tell.cells = 0 := rfl; have e2 : rm_Mo_thrown.cells = 0 := rfl; omega) g20
      · refine zi_iconst (pc := 1470) hX dL_law_1470 ki_0 ?_
        exact zi_ret (pc := 1471) hX dL_law_1471 et_z0 rfl (et_lc hu20) (et_ls hu20)
    · refine zi_iconst (pc := 1451) hX dL_law_1451 ki_1 ?_
      refine zi_goto (pc := 1452) 1456 hX dL_law_1452 (by decide) ?_
      refine zi_callI (zc_virt (pc := 1456) hX dL_law_1456 tm_1867 md_X10_tell mi_X10_tell ly_61 (ct_Mo_tell hX.sane (xs (x4 + (1 : Int32)).toNatClampNeg) (xs (x4 + (2 : Int32)).toNatClampNeg) (1 : Int32) g16) rfl rfl (et_rsL rfl hu16)) (fun v23 g24 => ?_)
      have hu24 : u + rm_La_tell.cells + rm_Mo_tell.cells ≤ 20000 := by have e0 : rm_La_tell.cells = 2 := rfl; have e1 : rm_Mo_tell.cells = 0 := rfl; omega
      refine zi_istore6 (pc := 1459) hX dL_law_1459 rfl rfl ?_
      refine zi_aload2 (pc := 1461) hX dL_law_1461 ?_
      refine zi_callI (zc_virt (pc := 1462) hX dL_law_1462 tm_1571 md_X10_thrown mi_X10_thrown ly_61 (ct_Mo_thrown hX.sane g24) rfl rfl (et_rsL rfl hu24)) (fun v25 g26 => ?_)
      have hu26 : u + rm_La_tell.cells + rm_Mo_tell.cells + rm_Mo_thrown.cells ≤ 20000 := by have e0 : rm_La_tell.cells = 2 := rfl; have e1 : rm_Mo_tell.cells = 0 := rfl; have e2 : rm_Mo_thrown.cells = 0 := rfl; omega
      refine zi_iload5 (pc := 1465) hX dL_law_1465 ?_
      refine zi_icmp_eq (pc := 1467) 1472 hX dL_law_1467 (by decide) (fun _ => ?_) (fun _ => ?_)
      · refine zi_iload5 (pc := 1472) hX dL_law_1472 ?_
        refine zi_if_ne (pc := 1474) 1489 hX dL_law_1474 (by decide) (fun _ => ?_) (fun _ => ?_)
        · refine zi_aload3 (pc := 1477) hX dL_law_1477 ?_
          refine zi_iconst (pc := 1478) hX dL_law_1478 ki_0 ?_
          refine zi_lald (pc := 1479) hX dL_law_1479 ly_96 ?_
          refine zi_iload6 (pc := 1480) hX dL_law_1480 ?_
          refine zi_i2l (pc := 1482) hX dL_law_1482 ?_
          refine zi_lcmp (pc := 1483) hX dL_law_1483 ?_
          refine zi_if_eq (pc := 1484) 1489 hX dL_law_1484 (by decide) (fun _ => ?_) (fun _ => ?_)
          · refine zi_goto (pc := 1489) 1631 hX dL_law_1489 (by decide) ?_
            refine zi_iinc4 (pc := 1631) hX dL_law_1631 (kn_6 _) rfl rfl ?_
            refine zi_goto (pc := 1634) 23 hX dL_law_1634 (by decide) ?_
            refine zi_drop (le_s (le_s (le_s (le_s (le_s (le_n (le_n le_nil))))))) ?_; exact hr _ (by have e0 : rm_La_tell.cells = 2 := rfl; have e1 : rm_Mo_tell.cells = 0 := rfl; have e2 : rm_Mo_thrown.cells = 0 := rfl; omega) g26
          · refine zi_iconst (pc := 1487) hX dL_law_1487 ki_0 ?_
            exact zi_ret (pc := 1488) hX dL_law_1488 et_z0 rfl (et_lc hu26) (et_ls hu26)
        · refine zi_goto (pc := 1489) 1631 hX dL_law_1489 (by decide) ?_
          refine zi_iinc4 (pc := 1631) hX dL_law_1631 (kn_6 _) rfl rfl ?_
          refine zi_goto (pc := 1634) 23 hX dL_law_1634 (by decide) ?_
          refine zi_drop (le_s (le_s (le_s (le_s (le_s (le_n (le_n le_nil))))))) ?_; exact hr _ (by have e0 : rm_La_tell.cells = 2 := rfl; have e1 : rm_Mo_tell.cells = 0 := rfl; have e2 : rm_Mo_thrown.cells = 0 := rfl; omega) g26
      · refine zi_iconst (pc := 1470) hX dL_law_1470 ki_0 ?_
        exact zi_ret (pc := 1471) hX dL_law_1471 et_z0 rfl (et_lc hu26) (et_ls hu26)
def fn_La_law_21 (L : Nat) (xs : Nat → Int32) (r23 : Int32 → et_G → Option (Int32 × et_G)) (x4 : Int32) (g : et_G) : Option (Int32 × et_G) :=
  et_ck (et_ib (x4 + (1 : Int32)) L) (
  et_ck (et_ib (x4 + (2 : Int32)) L) (
  et_ck (et_ib (x4 + (3 : Int32)) L) (
  et_ck (et_ib (x4 + (4 : Int32)) L) (
  if (xs (x4 + (4 : Int32)).toNatClampNeg) = 0 then
    et_bd (fn_La_known (xs (x4 + (1 : Int32)).toNatClampNeg) (xs (x4 + (2 : Int32)).toNatClampNeg) (xs (x4 + (3 : Int32)).toNatClampNeg) (0 : Int32) g) (fun v1 g2 =>
    et_ck (et_ib (x4 + (1 : Int32)) L) (
    et_ck (et_ib (x4 + (2 : Int32)) L) (
    et_ck (et_ib (x4 + (3 : Int32)) L) (
    et_ck (et_ib (x4 + (4 : Int32)) L) (
    if (xs (x4 + (4 : Int32)).toNatClampNeg) = 0 then
      et_bd (fn_Mo_known (xs (x4 + (1 : Int32)).toNatClampNeg) (xs (x4 + (2 : Int32)).toNatClampNeg) (xs (x4 + (3 : Int32)).toNatClampNeg) (0 : Int32) g2) (fun v3 g4 =>
      et_bd (fn_Mo_thrown g4) (fun v5 g6 =>
      if v5 = v1 then
        if v1 = 0 then
          et_ck (et_ib (0 : Int32) 1) (
          if v3 = 0 then
            if (lg_cmp (g6.2 96 (0 : Int32).toNatClampNeg) (0 : Int64)) = 0 then
              r23 (x4 + (6 : Int32)) g6
            else
              some ((0 : Int32), g6)
          else
            if (lg_cmp (g6.2 96 (0 : Int32).toNatClampNeg) (1 : Int64)) = 0 then
              r23 (x4 + (6 : Int32)) g6
            else
              some ((0 : Int32), g6))
        else
          r23 (x4 + (6 : Int32)) g6
      else
        some ((0 : Int32), g6)))
    else
      et_bd (fn_Mo_known (xs (x4 + (1 : Int32)).toNatClampNeg) (xs (x4 + (2 : Int32)).toNatClampNeg) (xs (x4 + (3 : Int32)).toNatClampNeg) (1 : Int32) g2) (fun v10 g11 =>
      et_bd (fn_Mo_thrown g11) (fun v12 g13 =>
      if v12 = v1 then
        if v1 = 0 then
          et_ck (et_ib (0 : Int32) 1) (
          if v10 = 0 then
            if (lg_cmp (g13.2 96 (0 : Int32).toNatClampNeg) (0 : Int64)) = 0 then
              r23 (x4 + (6 : Int32)) g13
            else
              some ((0 : Int32), g13)
          else
            if (lg_cmp (g13.2 96 (0 : Int32).toNatClampNeg) (1 : Int64)) = 0 then
              r23 (x4 + (6 : Int32)) g13
            else
              some ((0 : Int32), g13))
        else
          r23 (x4 + (6 : Int32)) g13
      else
        some ((0 : Int32), g13))))))))
  else
    et_bd (fn_La_known (xs (x4 + (1 : Int32)).toNatClampNeg) (xs (x4 + (2 : Int32)).toNatClampNeg) (xs (x4 + (3 : Int32)).toNatClampNeg) (1 : Int32) g) (fun v17 g18 =>
    et_ck (et_ib (x4 + (1 : Int32)) L) (
    et_ck (et_ib (x4 + (2 : Int32)) L) (
    et_ck (et_ib (x4 + (3 : Int32)) L) (
    et_ck (et_ib (x4 + (4 : Int32)) L) (
    if (xs (x4 + (4 : Int32)).toNatClampNeg) = 0 then
      et_bd (fn_Mo_known (xs (x4 + (1 : Int32)).toNatClampNeg) (xs (x4 + (2 : Int32)).toNatClampNeg) (xs (x4 + (3 : Int32)).toNatClampNeg) (0 : Int32) g18) (fun v19 g20 =>
      et_bd (fn_Mo_thrown g20) (fun v21 g22 =>
      if v21 = v17 then
        if v17 = 0 then
          et_ck (et_ib (0 : Int32) 1) (
          if v19 = 0 then
            if (lg_cmp (g22.2 96 (0 : Int32).toNatClampNeg) (0 : Int64)) = 0 then
              r23 (x4 + (6 : Int32)) g22
            else
              some ((0 : Int32), g22)
          else
            if (lg_cmp (g22.2 96 (0 : Int32).toNatClampNeg) (1 : Int64)) = 0 then
              r23 (x4 + (6 : Int32)) g22
            else
              some ((0 : Int32), g22))
        else
          r23 (x4 + (6 : Int32)) g22
      else
        some ((0 : Int32), g22)))
    else
      et_bd (fn_Mo_known (xs (x4 + (1 : Int32)).toNatClampNeg) (xs (x4 + (2 : Int32)).toNatClampNeg) (xs (x4 + (3 : Int32)).toNatClampNeg) (1 : Int32) g18) (fun v26 g27 =>
      et_bd (fn_Mo_thrown g27) (fun v28 g29 =>
      if v28 = v17 then
        if v17 = 0 then
          et_ck (et_ib (0 : Int32) 1) (
          if v26 = 0 then
            if (lg_cmp (g29.2 96 (0 : Int32).toNatClampNeg) (0 : Int64)) = 0 then
              r23 (x4 + (6 : Int32)) g29
            else
              some ((0 : Int32), g29)
          else
            if (lg_cmp (g29.2 96 (0 : Int32).toNatClampNeg) (1 : Int64)) = 0 then
              r23 (x4 + (6 : Int32)) g29
            else
              some ((0 : Int32), g29))
        else
          r23 (x4 + (6 : Int32)) g29
      else
        some ((0 : Int32), g29))))))))))))
theorem zl_21 {X : et_X} {w : et_W} {L : Nat} {xs : Nat → Int32} (hX : et_Gd X w code RL 7 (some .boolean) [] room_1) (hsc : et_Sc X w L xs) {u : Nat} (hu : u ≤ 20000 - 10) (r23 : Int32 → et_G → Option (Int32 × et_G)) (x4 : Int32) (hr : ∀ u2, u2 ≤ u + 3 → ∀ (g : et_G), et_Z X w u2 et_eI 23 [some (.ref (et_ad w 3000)), some (.ref (et_ad w 0)), some (.ref (et_ad w 61)), some (.ref (et_ad w 96)), some (.int (x4 + (6 : Int32))), none, none] [] g (r23 (x4 + (6 : Int32)) g)) (g : et_G) : et_Z X w u et_eI 1492 [some (.ref (et_ad w 3000)), some (.ref (et_ad w 0)), some (.ref (et_ad w 61)), some (.ref (et_ad w 96)), some (.int x4), none, none] [] g (fn_La_law_21 L xs r23 x4 g) := by
  have hu0 : u ≤ 19990 := hu
  have hu : u ≤ 20000 := by omega
  unfold fn_La_law_21
  refine zi_aload1 (pc := 1492) hX dL_law_1492 ?_
  refine zi_aload0 (pc := 1493) hX dL_law_1493 ?_
  refine zi_iload4 (pc := 1494) hX dL_law_1494 ?_
  refine zi_iconst (pc := 1496) hX dL_law_1496 ki_1 ?_
  refine zi_iadd (pc := 1497) hX dL_law_1497 ?_
  refine zi_scr (pc := 1498) hX hsc dL_law_1498 ?_
  refine zi_aload0 (pc := 1499) hX dL_law_1499 ?_
  refine zi_iload4 (pc := 1500) hX dL_law_1500 ?_
  refine zi_iconst (pc := 1502) hX dL_law_1502 ki_2 ?_
  refine zi_iadd (pc := 1503) hX dL_law_1503 ?_
  refine zi_scr (pc := 1504) hX hsc dL_law_1504 ?_
  refine zi_aload0 (pc := 1505) hX dL_law_1505 ?_
  refine zi_iload4 (pc := 1506) hX dL_law_1506 ?_
  refine zi_iconst (pc := 1508) hX dL_law_1508 ki_3 ?_
  refine zi_iadd (pc := 1509) hX dL_law_1509 ?_
  refine zi_scr (pc := 1510) hX hsc dL_law_1510 ?_
  refine zi_aload0 (pc := 1511) hX dL_law_1511 ?_
  refine zi_iload4 (pc := 1512) hX dL_law_1512 ?_
  refine zi_iconst (pc := 1514) hX dL_law_1514 ki_4 ?_
  refine zi_iadd (pc := 1515) hX dL_law_1515 ?_
  refine zi_scr (pc := 1516) hX hsc dL_law_1516 ?_
  refine zi_if_eq (pc := 1517) 1524 hX dL_law_1517 (by decide) (fun _ => ?_) (fun _ => ?_)
  · refine zi_iconst (pc := 1524) hX dL_law_1524 ki_0 ?_
    refine zi_aload3 (pc := 1525) hX dL_law_1525 ?_
    refine zi_callI (zc_statW (pc := 1526) hX dL_law_1526 tm_1327 md_L_known st_L_known (ct_La_known hX.sane (xs (x4 + (1 : Int32)).toNatClampNeg) (xs (x4 + (2 : Int32)).toNatClampNeg) (xs (x4 + (3 : Int32)).toNatClampNeg) (0 : Int32) g) rfl rfl (et_rsL rfl hu)) (fun v1 g2 => ?_)
    have hu2 : u + rm_La_known.cells ≤ 20000 := by have e0 : rm_La_known.cells = 2 := rfl; omega
    refine zi_istore5 (pc := 1529) hX dL_law_1529 rfl rfl ?_
    refine zi_aload2 (pc := 1531) hX dL_law_1531 ?_
    refine zi_aload0 (pc := 1532) hX dL_law_1532 ?_
    refine zi_iload4 (pc := 1533) hX dL_law_1533 ?_
    refine zi_iconst (pc := 1535) hX dL_law_1535 ki_1 ?_
    refine zi_iadd (pc := 1536) hX dL_law_1536 ?_
    refine zi_scr (pc := 1537) hX hsc dL_law_1537 ?_
    refine zi_aload0 (pc := 1538) hX dL_law_1538 ?_
    refine zi_iload4 (pc := 1539) hX dL_law_1539 ?_
    refine zi_iconst (pc := 1541) hX dL_law_1541 ki_2 ?_
    refine zi_iadd (pc := 1542) hX dL_law_1542 ?_
    refine zi_scr (pc := 1543) hX hsc dL_law_1543 ?_
    refine zi_aload0 (pc := 1544) hX dL_law_1544 ?_
    refine zi_iload4 (pc := 1545) hX dL_law_1545 ?_
    refine zi_iconst (pc := 1547) hX dL_law_1547 ki_3 ?_
    refine zi_iadd (pc := 1548) hX dL_law_1548 ?_
    refine zi_scr (pc := 1549) hX hsc dL_law_1549 ?_
    refine zi_aload0 (pc := 1550) hX dL_law_1550 ?_
    refine zi_iload4 (pc := 1551) hX dL_law_1551 ?_
    refine zi_iconst (pc := 1553) hX dL_law_1553 ki_4 ?_
    refine zi_iadd (pc := 1554) hX dL_law_1554 ?_
    refine zi_scr (pc := 1555) hX hsc dL_law_1555 ?_
    refine zi_if_eq (pc := 1556) 1563 hX dL_law_1556 (by decide) (fun _ => ?_) (fun _ => ?_)
    · refine zi_iconst (pc := 1563) hX dL_law_1563 ki_0 ?_
      refine zi_callI (zc_virt (pc := 1564) hX dL_law_1564 tm_1894 md_X10_known mi_X10_known ly_61 (ct_Mo_known hX.sane (xs (x4 + (1 : Int32)).toNatClampNeg) (xs (x4 + (2 : Int32)).toNatClampNeg) (xs (x4 + (3 : Int32)).toNatClampNeg) (0 : Int32) g2) rfl rfl (et_rsL rfl hu2)) (fun v3 g4 => ?_)
      have hu4 : u + rm_La_known.cells + rm_Mo_known.cells ≤ 20000 := by have e0 : rm_La_known.cells = 2 := rfl; have e1 : rm_Mo_known.cells = 0 := rfl; omega
      refine zi_istore6 (pc := 1567) hX dL_law_1567 rfl rfl ?_
      refine zi_aload2 (pc := 1569) hX dL_law_1569 ?_
      refine zi_callI (zc_virt (pc := 1570) hX dL_law_1570 tm_1571 md_X10_thrown mi_X10_thrown ly_61 (ct_Mo_thrown hX.sane g4) rfl rfl (et_rsL rfl hu4)) (fun v5 g6 => ?_)
      have hu6 : u + rm_La_known.cells + rm_Mo_known.cells + rm_Mo_thrown.cells ≤ 20000 := by have e0 : rm_La_known.cells = 2 := rfl; have e1 : rm_Mo_known.cells = 0 := rfl; have e2 : rm_Mo_thrown.cells = 0 := rfl; omega
      refine zi_iload5 (pc := 1573) hX dL_law_1573 ?_
      refine zi_icmp_eq (pc := 1575) 1580 hX dL_law_1575 (by decide) (fun _ => ?_) (fun _ => ?_)
      · refine zi_iload5 (pc := 1580) hX dL_law_1580 ?_
        refine zi_if_ne (pc := 1582) 1604 hX dL_law_1582 (by decide) (fun _ => ?_) (fun _ => ?_)
        · refine zi_aload3 (pc := 1585) hX dL_law_1585 ?_
          refine zi_iconst (pc := 1586) hX dL_law_1586 ki_0 ?_
          refine zi_lald (pc := 1587) hX dL_law_1587 ly_96 ?_
          refine zi_iload6 (pc := 1588) hX dL_law_1588 ?_
          refine zi_if_eq (pc := 1590) 1597 hX dL_law_1590 (by decide) (fun _ => ?_) (fun _ => ?_)
          · refine zi_lconst (pc := 1597) hX dL_law_1597 kl_0 ?_
            refine zi_lcmp (pc := 1598) hX dL_law_1598 ?_
            refine zi_if_eq (pc := 1599) 1604 hX dL_law_1599 (by decide) (fun _ => ?_) (fun _ => ?_)
            · refine zi_goto (pc := 1604) 1631 hX dL_law_1604 (by decide) ?_
              refine zi_iinc4 (pc := 1631) hX dL_law_1631 (kn_6 _) rfl rfl ?_
              refine zi_goto (pc := 1634) 23 hX dL_law_1634 (by decide) ?_
              refine zi_drop (le_s (le_s (le_s (le_s (le_s (le_n (le_n le_nil))))))) ?_; exact hr _ (by have e0 : rm_La_known.cells = 2 := rfl; have e1 : rm_Mo_known.cells = 0 := rfl; have e2 : rm_Mo_thrown.cells = 0 := rfl; omega) g6
            · refine zi_iconst (pc := 1602) hX dL_law_1602 ki_0 ?_
              exact zi_ret (pc := 1603) hX dL_law_1603 et_z0 rfl (et_lc hu6) (et_ls hu6)
          · refine zi_lconst (pc := 1593) hX dL_law_1593 kl_1 ?_
            refine zi_goto (pc := 1594) 1598 hX dL_law_1594 (by decide) ?_
            refine zi_lcmp (pc := 1598) hX dL_law_1598 ?_
            refine zi_if_eq (pc := 1599) 1604 hX dL_law_1599 (by decide) (fun _ => ?_) (fun _ => ?_)
            · refine zi_goto (pc := 1604) 1631 hX dL_law_1604 (by decide) ?_
              refine zi_iinc4 (pc := 1631) hX dL_law_1631 (kn_6 _) rfl rfl ?_
              refine zi_goto (pc := 1634) 23 hX dL_law_1634 (by decide) ?_
              refine zi_drop (le_s (le_s (le_s (le_s (le_s (le_n (le_n le_nil))))))) ?_; exact hr _ (by have e0 : rm_La_known.cells = 2 := rfl; have e1 : rm_Mo_known.cells = 0 := rfl; have e2 : rm_Mo_thrown.cells = 0 := rfl; omega) g6
            · refine zi_iconst (pc := 1602) hX dL_law_1602 ki_0 ?_
              exact zi_ret (pc := 1603) hX dL_law_1603 et_z0 rfl (et_lc hu6) (et_ls hu6)
        · refine zi_goto (pc := 1604) 1631 hX dL_law_1604 (by decide) ?_
          refine zi_iinc4 (pc := 1631) hX dL_law_1631 (kn_6 _) rfl rfl ?_
          refine zi_goto (pc := 1634) 23 hX dL_law_1634 (by decide) ?_
          refine zi_drop (le_s (le_s (le_s (le_s (le_s (le_n (le_n le_nil))))))) ?_; exact hr _ (by have e0 : rm_La_known.cells = 2 := rfl; have e1 : rm_Mo_known.cells = 0 := rfl; have e2 : rm_Mo_thrown.cells = 0 := rfl; omega) g6
      · refine zi_iconst (pc := 1578) hX dL_law_1578 ki_0 ?_
        exact zi_ret (pc := 1579) hX dL_law_1579 et_z0 rfl (et_lc hu6) (et_ls hu6)
    · refine zi_iconst (pc := 1559) hX dL_law_1559 ki_1 ?_
      refine zi_goto (pc := 1560) 1564 hX dL_law_1560 (by decide) ?_
      refine zi_callI (zc_virt (pc := 1564) hX dL_law_1564 tm_1894 md_X10_known mi_X10_known ly_61 (ct_Mo_known hX.sane (xs (x4 + (1 : Int32)).toNatClampNeg) (xs (x4 + (2 : Int32)).toNatClampNeg) (xs (x4 + (3 : Int32)).toNatClampNeg) (1 : Int32) g2) rfl rfl (et_rsL rfl hu2)) (fun v10 g11 => ?_)
      have hu11 : u + rm_La_known.cells + rm_Mo_known.cells ≤ 20000 := by have e0 : rm_La_known.cells = 2 := rfl; have e1 : rm_Mo_known.cells = 0 := rfl; omega
      refine zi_istore6 (pc := 1567) hX dL_law_1567 rfl rfl ?_
      refine zi_aload2 (pc := 1569) hX dL_law_1569 ?_
      refine zi_callI (zc_virt (pc := 1570) hX dL_law_1570 tm_1571 md_X10_thrown mi_X10_thrown ly_61 (ct_Mo_thrown hX.sane g11) rfl rfl (et_rsL rfl hu11)) (fun v12 g13 => ?_)
      have hu13 : u + rm_La_known.cells + rm_Mo_known.cells + rm_Mo_thrown.cells ≤ 20000 := by have e0 : rm_La_known.cells = 2 := rfl; have e1 : rm_Mo_known.cells = 0 := rfl; have e2 : rm_Mo_thrown.cells = 0 := rfl; omega
      refine zi_iload5 (pc := 1573) hX dL_law_1573 ?_
      refine zi_icmp_eq (pc := 1575) 1580 hX dL_law_1575 (by decide) (fun _ => ?_) (fun _ => ?_)
      · refine zi_iload5 (pc := 1580) hX dL_law_1580 ?_
        refine zi_if_ne (pc := 1582) 1604 hX dL_law_1582 (by decide) (fun _ => ?_) (fun _ => ?_)
        · refine zi_aload3 (pc := 1585) hX dL_law_1585 ?_
          refine zi_iconst (pc := 1586) hX dL_law_1586 ki_0 ?_
          refine zi_lald (pc := 1587) hX dL_law_1587 ly_96 ?_
          refine zi_iload6 (pc := 1588) hX dL_law_1588 ?_
          refine zi_if_eq (pc := 1590) 1597 hX dL_law_1590 (by decide) (fun _ => ?_) (fun _ => ?_)
          · refine zi_lconst (pc := 1597) hX dL_law_1597 kl_0 ?_
            refine zi_lcmp (pc := 1598) hX dL_law_1598 ?_
            refine zi_if_eq (pc := 1599) 1604 hX dL_law_1599 (by decide) (fun _ => ?_) (fun _ => ?_)
            · refine zi_goto (pc := 1604) 1631 hX dL_law_1604 (by decide) ?_
              refine zi_iinc4 (pc := 1631) hX dL_law_1631 (kn_6 _) rfl rfl ?_
              refine zi_goto (pc := 1634) 23 hX dL_law_1634 (by decide) ?_
              refine zi_drop (le_s (le_s (le_s (le_s (le_s (le_n (le_n le_nil))))))) ?_; exact hr _ (by have e0 : rm_La_known.cells = 2 := rfl; have e1 : rm_Mo_known.cells = 0 := rfl; have e2 : rm_Mo_thrown.cells = 0 := rfl; omega) g13
            · refine zi_iconst (pc := 1602) hX dL_law_1602 ki_0 ?_
              exact zi_ret (pc := 1603) hX dL_law_1603 et_z0 rfl (et_lc hu13) (et_ls hu13)
          · refine zi_lconst (pc := 1593) hX dL_law_1593 kl_1 ?_
            refine zi_goto (pc := 1594) 1598 hX dL_law_1594 (by decide) ?_
            refine zi_lcmp (pc := 1598) hX dL_law_1598 ?_
            refine zi_if_eq (pc := 1599) 1604 hX dL_law_1599 (by decide) (fun _ => ?_) (fun _ => ?_)
            · refine zi_goto (pc := 1604) 1631 hX dL_law_1604 (by decide) ?_
              refine zi_iinc4 (pc := 1631) hX dL_law_1631 (kn_6 _) rfl rfl ?_
              refine zi_goto (pc := 1634) 23 hX dL_law_1634 (by decide) ?_
              refine zi_drop (le_s (le_s (le_s (le_s (le_s (le_n (le_n le_nil))))))) ?_; exact hr _ (by have e0 : rm_La_known.cells = 2 := rfl; have e1 : rm_Mo_known.cells = 0 := rfl; have e2 : rm_Mo_thrown.cells = 0 := rfl; omega) g13
            · refine zi_iconst (pc := 1602) hX dL_law_1602 ki_0 ?_
              exact zi_ret (pc := 1603) hX dL_law_1603 et_z0 rfl (et_lc hu13) (et_ls hu13)
        · refine zi_goto (pc := 1604) 1631 hX dL_law_1604 (by decide) ?_
          refine zi_iinc4 (pc := 1631) hX dL_law_1631 (kn_6 _) rfl rfl ?_
          refine zi_goto (pc := 1634) 23 hX dL_law_1634 (by decide) ?_
          refine zi_drop (le_s (le_s (le_s (le_s (le_s (le_n (le_n le_nil))))))) ?_; exact hr _ (by have e0 : rm_La_known.cells = 2 := rfl; have e1 : rm_Mo_known.cells = 0 := rfl; have e2 : rm_Mo_thrown.cells = 0 := rfl; omega) g13
      · refine zi_iconst (pc := 1578) hX dL_law_1578 ki_0 ?_
        exact zi_ret (pc := 1579) hX dL_law_1579 et_z0 rfl (et_lc hu13) (et_ls hu13)
  · refine zi_iconst (pc := 1520) hX dL_law_1520 ki_1 ?_
    refine zi_goto (pc := 1521) 1525 hX dL_law_1521 (by decide) ?_
    refine zi_aload3 (pc := 1525) hX dL_law_1525 ?_
    refine zi_callI (zc_statW (pc := 1526) hX dL_law_1526 tm_1327 md_L_known st_L_known (ct_La_known hX.sane (xs (x4 + (1 : Int32)).toNatClampNeg) (xs (x4 + (2 : Int32)).toNatClampNeg) (xs (x4 + (3 : Int32)).toNatClampNeg) (1 : Int32) g) rfl rfl (et_rsL rfl hu)) (fun v17 g18 => ?_)
    have hu18 : u + rm_La_known.cells ≤ 20000 := by have e0 : rm_La_known.cells = 2 := rfl; omega
    refine zi_istore5 (pc := 1529) hX dL_law_1529 rfl rfl ?_
    refine zi_aload2 (pc := 1531) hX dL_law_1531 ?_
    refine zi_aload0 (pc := 1532) hX dL_law_1532 ?_
    refine zi_iload4 (pc := 1533) hX dL_law_1533 ?_
    refine zi_iconst (pc := 1535) hX dL_law_1535 ki_1 ?_
    refine zi_iadd (pc := 1536) hX dL_law_1536 ?_
    refine zi_scr (pc := 1537) hX hsc dL_law_1537 ?_
    refine zi_aload0 (pc := 1538) hX dL_law_1538 ?_
    refine zi_iload4 (pc := 1539) hX dL_law_1539 ?_
    refine zi_iconst (pc := 1541) hX dL_law_1541 ki_2 ?_
    refine zi_iadd (pc := 1542) hX dL_law_1542 ?_
    refine zi_scr (pc := 1543) hX hsc dL_law_1543 ?_
    refine zi_aload0 (pc := 1544) hX dL_law_1544 ?_
    refine zi_iload4 (pc := 1545) hX dL_law_1545 ?_
    refine zi_iconst (pc := 1547) hX dL_law_1547 ki_3 ?_
    refine zi_iadd (pc := 1548) hX dL_law_1548 ?_
    refine zi_scr (pc := 1549) hX hsc dL_law_1549 ?_
    refine zi_aload0 (pc := 1550) hX dL_law_1550 ?_
    refine zi_iload4 (pc := 1551) hX dL_law_1551 ?_
    refine zi_iconst (pc := 1553) hX dL_law_1553 ki_4 ?_
    refine zi_iadd (pc := 1554) hX dL_law_1554 ?_
    refine zi_scr (pc := 1555) hX hsc dL_law_1555 ?_
    refine zi_if_eq (pc := 1556) 1563 hX dL_law_1556 (by decide) (fun _ => ?_) (fun _ => ?_)
    · refine zi_iconst (pc := 1563) hX dL_law_1563 ki_0 ?_
      refine zi_callI (zc_virt (pc := 1564) hX dL_law_1564 tm_1894 md_X10_known mi_X10_known ly_61 (ct_Mo_known hX.sane (xs (x4 + (1 : Int32)).toNatClampNeg) (xs (x4 + (2 : Int32)).toNatClampNeg) (xs (x4 + (3 : Int32)).toNatClampNeg) (0 : Int32) g18) rfl rfl (et_rsL rfl hu18)) (fun v19 g20 => ?_)
      have hu20 : u + rm_La_known.cells + rm_Mo_known.cells ≤ 20000 := by have e0 : rm_La_known.cells = 2 := rfl; have e1 : rm_Mo_known.cells = 0 := rfl; omega
      refine zi_istore6 (pc := 1567) hX dL_law_1567 rfl rfl ?_
      refine zi_aload2 (pc := 1569) hX dL_law_1569 ?_
      refine zi_callI (zc_virt (pc := 1570) hX dL_law_1570 tm_1571 md_X10_thrown mi_X10_thrown ly_61 (ct_Mo_thrown hX.sane g20) rfl rfl (et_rsL rfl hu20)) (fun v21 g22 => ?_)
      have hu22 : u + rm_La_known.cells + rm_Mo_known.cells + rm_Mo_thrown.cells ≤ 20000 := by have e0 : rm_La_known.cells = 2 := rfl; have e1 : rm_Mo_known.cells = 0 := rfl; have e2 : rm_Mo_thrown.cells = 0 := rfl; omega
      refine zi_iload5 (pc := 1573) hX dL_law_1573 ?_
      refine zi_icmp_eq (pc := 1575) 1580 hX dL_law_1575 (by decide) (fun _ => ?_) (fun _ => ?_)
      · refine zi_iload5 (pc := 1580) hX dL_law_1580 ?_
        refine zi_if_ne (pc := 1582) 1604 hX dL_law_1582 (by decide) (fun _ => ?_) (fun _ => ?_)
        · refine zi_aload3 (pc := 1585) hX dL_law_1585 ?_
          refine zi_iconst (pc := 1586) hX dL_law_1586 ki_0 ?_
          refine zi_lald (pc := 1587) hX dL_law_1587 ly_96 ?_
          refine zi_iload6 (pc := 1588) hX dL_law_1588 ?_
          refine zi_if_eq (pc := 1590) 1597 hX dL_law_1590 (by decide) (fun _ => ?_) (fun _ => ?_)
          · refine zi_lconst (pc := 1597) hX dL_law_1597 kl_0 ?_
            refine zi_lcmp (pc := 1598) hX dL_law_1598 ?_
            refine zi_if_eq (pc := 1599) 1604 hX dL_law_1599 (by decide) (fun _ => ?_) (fun _ => ?_)
            · refine zi_goto (pc := 1604) 1631 hX dL_law_1604 (by decide) ?_
              refine zi_iinc4 (pc := 1631) hX dL_law_1631 (kn_6 _) rfl rfl ?_
              refine zi_goto (pc := 1634) 23 hX dL_law_1634 (by decide) ?_
              refine zi_drop (le_s (le_s (le_s (le_s (le_s (le_n (le_n le_nil))))))) ?_; exact hr _ (by have e0 : rm_La_known.cells = 2 := rfl; have e1 : rm_Mo_known.cells = 0 := rfl; have e2 : rm_Mo_thrown.cells = 0 := rfl; omega) g22
            · refine zi_iconst (pc := 1602) hX dL_law_1602 ki_0 ?_
              exact zi_ret (pc := 1603) hX dL_law_1603 et_z0 rfl (et_lc hu22) (et_ls hu22)
          · refine zi_lconst (pc := 1593) hX dL_law_1593 kl_1 ?_
            refine zi_goto (pc := 1594) 1598 hX dL_law_1594 (by decide) ?_
            refine zi_lcmp (pc := 1598) hX dL_law_1598 ?_
            refine zi_if_eq (pc := 1599) 1604 hX dL_law_1599 (by decide) (fun _ => ?_) (fun _ => ?_)
            · refine zi_goto (pc := 1604) 1631 hX dL_law_1604 (by decide) ?_
              refine zi_iinc4 (pc := 1631) hX dL_law_1631 (kn_6 _) rfl rfl ?_
              refine zi_goto (pc := 1634) 23 hX dL_law_1634 (by decide) ?_
              refine zi_drop (le_s (le_s (le_s (le_s (le_s (le_n (le_n le_nil))))))) ?_; exact hr _ (by have e0 : rm_La_known.cells = 2 := rfl; have e1 : rm_Mo_known.cells = 0 := rfl; have e2 : rm_Mo_thrown.cells = 0 := rfl; omega) g22
            · refine zi_iconst (pc := 1602) hX dL_law_1602 ki_0 ?_
              exact zi_ret (pc := 1603) hX dL_law_1603 et_z0 rfl (et_lc hu22) (et_ls hu22)
        · refine zi_goto (pc := 1604) 1631 hX dL_law_1604 (by decide) ?_
          refine zi_iinc4 (pc := 1631) hX dL_law_1631 (kn_6 _) rfl rfl ?_
          refine zi_goto (pc := 1634) 23 hX dL_law_1634 (by decide) ?_
          refine zi_drop (le_s (le_s (le_s (le_s (le_s (le_n (le_n le_nil))))))) ?_; exact hr _ (by have e0 : rm_La_known.cells = 2 := rfl; have e1 : rm_Mo_known.cells = 0 := rfl; have e2 : rm_Mo_thrown.cells = 0 := rfl; omega) g22
      · refine zi_iconst (pc := 1578) hX dL_law_1578 ki_0 ?_
        exact zi_ret (pc := 1579) hX dL_law_1579 et_z0 rfl (et_lc hu22) (et_ls hu22)
    · refine zi_iconst (pc := 1559) hX dL_law_1559 ki_1 ?_
      refine zi_goto (pc := 1560) 1564 hX dL_law_1560 (by decide) ?_
      refine zi_callI (zc_virt (pc := 1564) hX dL_law_1564 tm_1894 md_X10_known mi_X10_known ly_61 (ct_Mo_known hX.sane (xs (x4 + (1 : Int32)).toNatClampNeg) (xs (x4 + (2 : Int32)).toNatClampNeg) (xs (x4 + (3 : Int32)).toNatClampNeg) (1 : Int32) g18) rfl rfl (et_rsL rfl hu18)) (fun v26 g27 => ?_)
      have hu27 : u + rm_La_known.cells + rm_Mo_known.cells ≤ 20000 := by have e0 : rm_La_known.cells = 2 := rfl; have e1 : rm_Mo_known.cells = 0 := rfl; omega
      refine zi_istore6 (pc := 1567) hX dL_law_1567 rfl rfl ?_
      refine zi_aload2 (pc := 1569) hX dL_law_1569 ?_
      refine zi_callI (zc_virt (pc := 1570) hX dL_law_1570 tm_1571 md_X10_thrown mi_X10_thrown ly_61 (ct_Mo_thrown hX.sane g27) rfl rfl (et_rsL rfl hu27)) (fun v28 g29 => ?_)
      have hu29 : u + rm_La_known.cells + rm_Mo_known.cells + rm_Mo_thrown.cells ≤ 20000 := by have e0 : rm_La_known.cells = 2 := rfl; have e1 : rm_Mo_known.cells = 0 := rfl; have e2 : rm_Mo_thrown.cells = 0 := rfl; omega
      refine zi_iload5 (pc := 1573) hX dL_law_1573 ?_
      refine zi_icmp_eq (pc := 1575) 1580 hX dL_law_1575 (by decide) (fun _ => ?_) (fun _ => ?_)
      · refine zi_iload5 (pc := 1580) hX dL_law_1580 ?_
        refine zi_if_ne (pc := 1582) 1604 hX dL_law_1582 (by decide) (fun _ => ?_) (fun _ => ?_)
        · refine zi_aload3 (pc := 1585) hX dL_law_1585 ?_
          refine zi_iconst (pc := 1586) hX dL_law_1586 ki_0 ?_
          refine zi_lald (pc := 1587) hX dL_law_1587 ly_96 ?_
          refine zi_iload6 (pc := 1588) hX dL_law_1588 ?_
          refine zi_if_eq (pc := 1590) 1597 hX dL_law_1590 (by decide) (fun _ => ?_) (fun _ => ?_)
          · refine zi_lconst (pc := 1597) hX dL_law_1597 kl_0 ?_
            refine zi_lcmp (pc := 1598) hX dL_law_1598 ?_
            refine zi_if_eq (pc := 1599) 1604 hX dL_law_1599 (by decide) (fun _ => ?_) (fun _ => ?_)
            · refine zi_goto (pc := 1604) 1631 hX dL_law_1604 (by decide) ?_
              refine zi_iinc4 (pc := 1631) hX dL_law_1631 (kn_6 _) rfl rfl ?_
              refine zi_goto (pc := 1634) 23 hX dL_law_1634 (by decide) ?_
              refine zi_drop (le_s (le_s (le_s (le_s (le_s (le_n (le_n le_nil))))))) ?_; exact hr _ (by have e0 : rm_La_known.cells = 2 := rfl; have e1 : rm_Mo_known.cells = 0 := rfl; have e2 : rm_Mo_thrown.cells = 0 := rfl; omega) g29
            · refine zi_iconst (pc := 1602) hX dL_law_1602 ki_0 ?_
              exact zi_ret (pc := 1603) hX dL_law_1603 et_z0 rfl (et_lc hu29) (et_ls hu29)
          · refine zi_lconst (pc := 1593) hX dL_law_1593 kl_1 ?_
            refine zi_goto (pc := 1594) 1598 hX dL_law_1594 (by decide) ?_
            refine zi_lcmp (pc := 1598) hX dL_law_1598 ?_
            refine zi_if_eq (pc := 1599) 1604 hX dL_law_1599 (by decide) (fun _ => ?_) (fun _ => ?_)
            · refine zi_goto (pc := 1604) 1631 hX dL_law_1604 (by decide) ?_
              refine zi_iinc4 (pc := 1631) hX dL_law_1631 (kn_6 _) rfl rfl ?_
              refine zi_goto (pc := 1634) 23 hX dL_law_1634 (by decide) ?_
              refine zi_drop (le_s (le_s (le_s (le_s (le_s (le_n (le_n le_nil))))))) ?_; exact hr _ (by have e0 : rm_La_known.cells = 2 := rfl; have e1 : rm_Mo_known.cells = 0 := rfl; have e2 : rm_Mo_thrown.cells = 0 := rfl; omega) g29
            · refine zi_iconst (pc := 1602) hX dL_law_1602 ki_0 ?_
              exact zi_ret (pc := 1603) hX dL_law_1603 et_z0 rfl (et_lc hu29) (et_ls hu29)
        · refine zi_goto (pc := 1604) 1631 hX dL_law_1604 (by decide) ?_
          refine zi_iinc4 (pc := 1631) hX dL_law_1631 (kn_6 _) rfl rfl ?_
          refine zi_goto (pc := 1634) 23 hX dL_law_1634 (by decide) ?_
          refine zi_drop (le_s (le_s (le_s (le_s (le_s (le_n (le_n le_nil))))))) ?_; exact hr _ (by have e0 : rm_La_known.cells = 2 := rfl; have e1 : rm_Mo_known.cells = 0 := rfl; have e2 : rm_Mo_thrown.cells = 0 := rfl; omega) g29
      · refine zi_iconst (pc := 1578) hX dL_law_1578 ki_0 ?_
        exact zi_ret (pc := 1579) hX dL_law_1579 et_z0 rfl (et_lc hu29) (et_ls hu29)
def fn_La_law_22 (L : Nat) (xs : Nat → Int32) (r23 : Int32 → et_G → Option (Int32 × et_G)) (x4 : Int32) (g : et_G) : Option (Int32 × et_G) :=
  et_bd (fn_Et_image g) (fun _ g2 =>
  et_bd (fn_Mo_image g2) (fun _ g4 =>
  r23 (x4 + (6 : Int32)) g4))
theorem zl_22 {X : et_X} {w : et_W} {L : Nat} {xs : Nat → Int32} (hX : et_Gd X w code RL 7 (some .boolean) [] room_1) (hsc : et_Sc X w L xs) {u : Nat} (hu : u ≤ 20000 - 10) (r23 : Int32 → et_G → Option (Int32 × et_G)) (x4 : Int32) (hr : ∀ u2, u2 ≤ u + 3 → ∀ (g : et_G), et_Z X w u2 et_eI 23 [some (.ref (et_ad w 3000)), some (.ref (et_ad w 0)), some (.ref (et_ad w 61)), some (.ref (et_ad w 96)), some (.int (x4 + (6 : Int32))), none, none] [] g (r23 (x4 + (6 : Int32)) g)) (g : et_G) : et_Z X w u et_eI 1607 [some (.ref (et_ad w 3000)), some (.ref (et_ad w 0)), some (.ref (et_ad w 61)), some (.ref (et_ad w 96)), some (.int x4), none, none] [] g (fn_La_law_22 L xs r23 x4 g) := by
  have hu0 : u ≤ 19990 := hu
  have hu : u ≤ 20000 := by omega
  unfold fn_La_law_22
  refine zi_aload1 (pc := 1607) hX dL_law_1607 ?_
  refine zi_callU (zc_virt (pc := 1608) hX dL_law_1608 tm_680 md_X9_image mi_X9_image ly_0 (ct_Et_image hX.sane g) rfl rfl (et_rsL rfl hu)) (fun g2 => ?_)
  have hu2 : u + rm_Et_image.cells ≤ 20000 := by have e0 : rm_Et_image.cells = 0 := rfl; omega
  refine zi_aload2 (pc := 1611) hX dL_law_1611 ?_
  refine zi_callU (zc_virt (pc := 1612) hX dL_law_1612 tm_1898 md_X10_image mi_X10_image ly_61 (ct_Mo_image hX.sane g2) rfl rfl (et_rsL rfl hu2)) (fun g4 => ?_)
  have hu4 : u + rm_Et_image.cells + rm_Mo_image.cells ≤ 20000 := by have e0 : rm_Et_image.cells = 0 := rfl; have e1 : rm_Mo_image.cells = 0 := rfl; omega
  refine zi_goto (pc := 1615) 1631 hX dL_law_1615 (by decide) ?_
  refine zi_iinc4 (pc := 1631) hX dL_law_1631 (kn_6 _) rfl rfl ?_
  refine zi_goto (pc := 1634) 23 hX dL_law_1634 (by decide) ?_
  exact hr _ (by have e0 : rm_Et_image.cells = 0 := rfl; have e1 : rm_Mo_image.cells = 0 := rfl; omega) g4
def fn_La_law_23 (L : Nat) (xs : Nat → Int32) (r23 : Int32 → et_G → Option (Int32 × et_G)) (x4 : Int32) (g : et_G) : Option (Int32 × et_G) :=
  et_bd (fn_Et_restore g) (fun v1 g2 =>
  et_bd (fn_Mo_restore g2) (fun v3 g4 =>
  if v1 = v3 then
    r23 (x4 + (6 : Int32)) g4
  else
    some ((0 : Int32), g4)))
theorem zl_23 {X : et_X} {w : et_W} {L : Nat} {xs : Nat → Int32} (hX : et_Gd X w code RL 7 (some .boolean) [] room_1) (hsc : et_Sc X w L xs) {u : Nat} (hu : u ≤ 20000 - 10) (r23 : Int32 → et_G → Option (Int32 × et_G)) (x4 : Int32) (hr : ∀ u2, u2 ≤ u + 3 → ∀ (g : et_G), et_Z X w u2 et_eI 23 [some (.ref (et_ad w 3000)), some (.ref (et_ad w 0)), some (.ref (et_ad w 61)), some (.ref (et_ad w 96)), some (.int (x4 + (6 : Int32))), none, none] [] g (r23 (x4 + (6 : Int32)) g)) (g : et_G) : et_Z X w u et_eI 1618 [some (.ref (et_ad w 3000)), some (.ref (et_ad w 0)), some (.ref (et_ad w 61)), some (.ref (et_ad w 96)), some (.int x4), none, none] [] g (fn_La_law_23 L xs r23 x4 g) := by
  have hu0 : u ≤ 19990 := hu
  have hu : u ≤ 20000 := by omega
  unfold fn_La_law_23
  refine zi_aload1 (pc := 1618) hX dL_law_1618 ?_
  refine zi_callI (zc_virt (pc := 1619) hX dL_law_1619 tm_695 md_X9_restore mi_X9_restore ly_0 (ct_Et_restore hX.sane g) rfl rfl (et_rsL rfl hu)) (fun v1 g2 => ?_)
  have hu2 : u + rm_Et_restore.cells ≤ 20000 := by have e0 : rm_Et_restore.cells = 0 := rfl; omega
  refine zi_aload2 (pc := 1622) hX dL_law_1622 ?_
  refine zi_callI (zc_virt (pc := 1623) hX dL_law_1623 tm_1902 md_X10_restore mi_X10_restore ly_61 (ct_Mo_restore hX.sane g2) rfl rfl (et_rsL rfl hu2)) (fun v3 g4 => ?_)
  have hu4 : u + rm_Et_restore.cells + rm_Mo_restore.cells ≤ 20000 := by have e0 : rm_Et_restore.cells = 0 := rfl; have e1 : rm_Mo_restore.cells = 0 := rfl; omega
  refine zi_icmp_eq (pc := 1626) 1631 hX dL_law_1626 (by decide) (fun _ => ?_) (fun _ => ?_)
  · refine zi_iinc4 (pc := 1631) hX dL_law_1631 (kn_6 _) rfl rfl ?_
    refine zi_goto (pc := 1634) 23 hX dL_law_1634 (by decide) ?_
    exact hr _ (by have e0 : rm_Et_restore.cells = 0 := rfl; have e1 : rm_Mo_restore.cells = 0 := rfl; omega) g4
  · refine zi_iconst (pc := 1629) hX dL_law_1629 ki_0 ?_
    exact zi_ret (pc := 1630) hX dL_law_1630 et_z0 rfl (et_lc hu4) (et_ls hu4)
theorem et_out0_23 {x : Int32} (h0 : ¬ x = 0) (h1 : ¬ x = 1) (h2 : ¬ x = 2) (h3 : ¬ x = 3) (h4 : ¬ x = 4) (h5 : ¬ x = 5) (h6 : ¬ x = 6) (h7 : ¬ x = 7) (h8 : ¬ x = 8) (h9 : ¬ x = 9) (h10 : ¬ x = 10) (h11 : ¬ x = 11) (h12 : ¬ x = 12) (h13 : ¬ x = 13) (h14 : ¬ x = 14) (h15 : ¬ x = 15) (h16 : ¬ x = 16) (h17 : ¬ x = 17) (h18 : ¬ x = 18) (h19 : ¬ x = 19) (h20 : ¬ x = 20) (h21 : ¬ x = 21) (h22 : ¬ x = 22) (h23 : ¬ x = 23) : x.toInt < 0 ∨ 23 < x.toInt := by
  have e0 : ¬ x.toInt = 0 := fun e => h0 (Int32.toInt_inj.mp (by rw [e]; rfl))
  have e1 : ¬ x.toInt = 1 := fun e => h1 (Int32.toInt_inj.mp (by rw [e]; rfl))
  have e2 : ¬ x.toInt = 2 := fun e => h2 (Int32.toInt_inj.mp (by rw [e]; rfl))
  have e3 : ¬ x.toInt = 3 := fun e => h3 (Int32.toInt_inj.mp (by rw [e]; rfl))
  have e4 : ¬ x.toInt = 4 := fun e => h4 (Int32.toInt_inj.mp (by rw [e]; rfl))
  have e5 : ¬ x.toInt = 5 := fun e => h5 (Int32.toInt_inj.mp (by rw [e]; rfl))
  have e6 : ¬ x.toInt = 6 := fun e => h6 (Int32.toInt_inj.mp (by rw [e]; rfl))
  have e7 : ¬ x.toInt = 7 := fun e => h7 (Int32.toInt_inj.mp (by rw [e]; rfl))
  have e8 : ¬ x.toInt = 8 := fun e => h8 (Int32.toInt_inj.mp (by rw [e]; rfl))
  have e9 : ¬ x.toInt = 9 := fun e => h9 (Int32.toInt_inj.mp (by rw [e]; rfl))
  have e10 : ¬ x.toInt = 10 := fun e => h10 (Int32.toInt_inj.mp (by rw [e]; rfl))
  have e11 : ¬ x.toInt = 11 := fun e => h11 (Int32.toInt_inj.mp (by rw [e]; rfl))
  have e12 : ¬ x.toInt = 12 := fun e => h12 (Int32.toInt_inj.mp (by rw [e]; rfl))
  have e13 : ¬ x.toInt = 13 := fun e => h13 (Int32.toInt_inj.mp (by rw [e]; rfl))
  have e14 : ¬ x.toInt = 14 := fun e => h14 (Int32.toInt_inj.mp (by rw [e]; rfl))
  have e15 : ¬ x.toInt = 15 := fun e => h15 (Int32.toInt_inj.mp (by rw [e]; rfl))
  have e16 : ¬ x.toInt = 16 := fun e => h16 (Int32.toInt_inj.mp (by rw [e]; rfl))
  have e17 : ¬ x.toInt = 17 := fun e => h17 (Int32.toInt_inj.mp (by rw [e]; rfl))
  have e18 : ¬ x.toInt = 18 := fun e => h18 (Int32.toInt_inj.mp (by rw [e]; rfl))
  have e19 : ¬ x.toInt = 19 := fun e => h19 (Int32.toInt_inj.mp (by rw [e]; rfl))
  have e20 : ¬ x.toInt = 20 := fun e => h20 (Int32.toInt_inj.mp (by rw [e]; rfl))
  have e21 : ¬ x.toInt = 21 := fun e => h21 (Int32.toInt_inj.mp (by rw [e]; rfl))
  have e22 : ¬ x.toInt = 22 := fun e => h22 (Int32.toInt_inj.mp (by rw [e]; rfl))
  have e23 : ¬ x.toInt = 23 := fun e => h23 (Int32.toInt_inj.mp (by rw [e]; rfl))
  omega
def fn_La_law_L (L : Nat) (xs : Nat → Int32) : Nat → Int32 → et_G → Option (Int32 × et_G)
  | 0, _, _ => none
  | n + 1, x4, g =>
    if (Int32.ofNat L - (6 : Int32)) < x4 then
      some ((1 : Int32), g)
    else
      et_ck (et_ib x4 L) (
      if (xs x4.toNatClampNeg &&& (31 : Int32)) = 0 then fn_La_law_0 L xs (fn_La_law_L L xs n) x4 g else
      if (xs x4.toNatClampNeg &&& (31 : Int32)) = 1 then fn_La_law_1 L xs (fn_La_law_L L xs n) x4 g else
      if (xs x4.toNatClampNeg &&& (31 : Int32)) = 2 then fn_La_law_2 L xs (fn_La_law_L L xs n) x4 g else
      if (xs x4.toNatClampNeg &&& (31 : Int32)) = 3 then fn_La_law_3 L xs (fn_La_law_L L xs n) x4 g else
      if (xs x4.toNatClampNeg &&& (31 : Int32)) = 4 then fn_La_law_4 L xs (fn_La_law_L L xs n) x4 g else
      if (xs x4.toNatClampNeg &&& (31 : Int32)) = 5 then fn_La_law_5 L xs (fn_La_law_L L xs n) x4 g else
      if (xs x4.toNatClampNeg &&& (31 : Int32)) = 6 then fn_La_law_6 L xs (fn_La_law_L L xs n) x4 g else
      if (xs x4.toNatClampNeg &&& (31 : Int32)) = 7 then fn_La_law_7 L xs (fn_La_law_L L xs n) x4 g else
      if (xs x4.toNatClampNeg &&& (31 : Int32)) = 8 then fn_La_law_8 L xs (fn_La_law_L L xs n) x4 g else
      if (xs x4.toNatClampNeg &&& (31 : Int32)) = 9 then fn_La_law_9 L xs (fn_La_law_L L xs n) x4 g else
      if (xs x4.toNatClampNeg &&& (31 : Int32)) = 10 then fn_La_law_10 L xs (fn_La_law_L L xs n) x4 g else
      if (xs x4.toNatClampNeg &&& (31 : Int32)) = 11 then fn_La_law_11 L xs (fn_La_law_L L xs n) x4 g else
      if (xs x4.toNatClampNeg &&& (31 : Int32)) = 12 then fn_La_law_12 L xs (fn_La_law_L L xs n) x4 g else
      if (xs x4.toNatClampNeg &&& (31 : Int32)) = 13 then fn_La_law_13 L xs (fn_La_law_L L xs n) x4 g else
      if (xs x4.toNatClampNeg &&& (31 : Int32)) = 14 then fn_La_law_14 L xs (fn_La_law_L L xs n) x4 g else
      if (xs x4.toNatClampNeg &&& (31 : Int32)) = 15 then fn_La_law_15 L xs (fn_La_law_L L xs n) x4 g else
      if (xs x4.toNatClampNeg &&& (31 : Int32)) = 16 then fn_La_law_16 L xs (fn_La_law_L L xs n) x4 g else
      if (xs x4.toNatClampNeg &&& (31 : Int32)) = 17 then fn_La_law_17 L xs (fn_La_law_L L xs n) x4 g else
      if (xs x4.toNatClampNeg &&& (31 : Int32)) = 18 then fn_La_law_18 L xs (fn_La_law_L L xs n) x4 g else
      if (xs x4.toNatClampNeg &&& (31 : Int32)) = 19 then fn_La_law_19 L xs (fn_La_law_L L xs n) x4 g else
      if (xs x4.toNatClampNeg &&& (31 : Int32)) = 20 then fn_La_law_20 L xs (fn_La_law_L L xs n) x4 g else
      if (xs x4.toNatClampNeg &&& (31 : Int32)) = 21 then fn_La_law_21 L xs (fn_La_law_L L xs n) x4 g else
      if (xs x4.toNatClampNeg &&& (31 : Int32)) = 22 then fn_La_law_22 L xs (fn_La_law_L L xs n) x4 g else
      if (xs x4.toNatClampNeg &&& (31 : Int32)) = 23 then fn_La_law_23 L xs (fn_La_law_L L xs n) x4 g else
      fn_La_law_L L xs n (x4 + (6 : Int32)) g)
theorem zl_loop {X : et_X} {w : et_W} {L : Nat} {xs : Nat → Int32} (hX : et_Gd X w code RL 7 (some .boolean) [] room_1) (hsc : et_Sc X w L xs) (hL : L ≤ 3072) : ∀ (n j u : Nat) (x4 : Int32) (g : et_G), x4 = nI (6 * j) → u ≤ 2000 + 3 * j → j ≤ 512 → et_Z X w u et_eI 23 [some (.ref (et_ad w 3000)), some (.ref (et_ad w 0)), some (.ref (et_ad w 61)), some (.ref (et_ad w 96)), some (.int x4), none, none] [] g (fn_La_law_L L xs n x4 g) := by
  intro n
  induction n with
  | zero =>
    intro j u x4 g hx hu hj a g2 h
    cases h
  | succ n ih =>
    intro j u x4 g hx hu hj
    rw [fn_La_law_L]
    refine zi_iload4 (pc := 23) hX dL_law_23 ?_
    refine zi_aload0 (pc := 25) hX dL_law_25 ?_
    refine zi_scl (pc := 26) hX hsc dL_law_26 ?_
    refine zi_bipush (pc := 27) hX dL_law_27 kb_6 ?_
    refine zi_isub (pc := 29) hX dL_law_29 ?_
    refine zi_icmp_gt (pc := 30) 1637 hX dL_law_30 (by decide) (fun _ => ?_) (fun hc => ?_)
    · refine zi_iconst (pc := 1637) hX dL_law_1637 ki_1 ?_
      exact zi_ret (pc := 1638) hX dL_law_1638 et_z1 rfl (et_lc (by omega)) (et_ls (by omega))
    · have hj2 : j < 512 := by
        rcases Nat.lt_or_ge j 512 with h | h
        · exact h
        · exfalso
          apply hc
          have e6 : (6 : Int32) = nI 6 := rfl
          have eL : Int32.ofNat L = nI L := rfl
          rw [hx, e6, eL, Int32.lt_iff_toInt_lt, pk_sub_toInt (by omega) (by omega), nI_toInt (by omega)]
          omega
      have hx6 : x4 + (6 : Int32) = nI (6 * (j + 1)) := by
        rw [hx, show (6 : Int32) = nI 6 from rfl, nI_add]
        rfl
      have hr : ∀ u2, u2 ≤ u + 3 → ∀ (g : et_G), et_Z X w u2 et_eI 23 [some (.ref (et_ad w 3000)), some (.ref (et_ad w 0)), some (.ref (et_ad w 61)), some (.ref (et_ad w 96)), some (.int (x4 + (6 : Int32))), none, none] [] g (fn_La_law_L L xs n (x4 + (6 : Int32)) g) := fun u2 h g => ih (j + 1) u2 _ g hx6 (by omega) (by omega)
      have hu9 : u ≤ 20000 - 10 := by omega
      refine zi_aload0 (pc := 33) hX dL_law_33 ?_
      refine zi_iload4 (pc := 34) hX dL_law_34 ?_
      refine zi_scr (pc := 36) hX hsc dL_law_36 ?_
      refine zi_bipush (pc := 37) hX dL_law_37 kb_31 ?_
      refine zi_iand (pc := 39) hX dL_law_39 ?_
      refine zi_ite (fun h0 => ?_) (fun h0 => ?_)
      · refine zi_tabI (pc := 40) 152 hX dL_law_40 0 h0 (by decide) (by decide) rfl (by decide) ?_
        exact zl_0 hX hsc hu9 _ x4 hr g
      refine zi_ite (fun h1 => ?_) (fun h1 => ?_)
      · refine zi_tabI (pc := 40) 225 hX dL_law_40 1 h1 (by decide) (by decide) rfl (by decide) ?_
        exact zl_1 hX hsc hu9 _ x4 hr g
      refine zi_ite (fun h2 => ?_) (fun h2 => ?_)
      · refine zi_tabI (pc := 40) 281 hX dL_law_40 2 h2 (by decide) (by decide) rfl (by decide) ?_
        exact zl_2 hX hsc hu9 _ x4 hr g
      refine zi_ite (fun h3 => ?_) (fun h3 => ?_)
      · refine zi_tabI (pc := 40) 294 hX dL_law_40 3 h3 (by decide) (by decide) rfl (by decide) ?_
        exact zl_3 hX hsc hu9 _ x4 hr g
      refine zi_ite (fun h4 => ?_) (fun h4 => ?_)
      · refine zi_tabI (pc := 40) 350 hX dL_law_40 4 h4 (by decide) (by decide) rfl (by decide) ?_
        exact zl_4 hX hsc hu9 _ x4 hr g
      refine zi_ite (fun h5 => ?_) (fun h5 => ?_)
      · refine zi_tabI (pc := 40) 418 hX dL_law_40 5 h5 (by decide) (by decide) rfl (by decide) ?_
        exact zl_5 hX hsc hu9 _ x4 hr g
      refine zi_ite (fun h6 => ?_) (fun h6 => ?_)
      · refine zi_tabI (pc := 40) 486 hX dL_law_40 6 h6 (by decide) (by decide) rfl (by decide) ?_
        exact zl_6 hX hsc hu9 _ x4 hr g
      refine zi_ite (fun h7 => ?_) (fun h7 => ?_)
      · refine zi_tabI (pc := 40) 578 hX dL_law_40 7 h7 (by decide) (by decide) rfl (by decide) ?_
        exact zl_7 hX hsc hu9 _ x4 hr g
      refine zi_ite (fun h8 => ?_) (fun h8 => ?_)
      · refine zi_tabI (pc := 40) 634 hX dL_law_40 8 h8 (by decide) (by decide) rfl (by decide) ?_
        exact zl_8 hX hsc hu9 _ x4 hr g
      refine zi_ite (fun h9 => ?_) (fun h9 => ?_)
      · refine zi_tabI (pc := 40) 690 hX dL_law_40 9 h9 (by decide) (by decide) rfl (by decide) ?_
        exact zl_9 hX hsc hu9 _ x4 hr g
      refine zi_ite (fun h10 => ?_) (fun h10 => ?_)
      · refine zi_tabI (pc := 40) 810 hX dL_law_40 10 h10 (by decide) (by decide) rfl (by decide) ?_
        exact zl_10 hX hsc hu9 _ x4 hr g
      refine zi_ite (fun h11 => ?_) (fun h11 => ?_)
      · refine zi_tabI (pc := 40) 890 hX dL_law_40 11 h11 (by decide) (by decide) rfl (by decide) ?_
        exact zl_11 hX hsc hu9 _ x4 hr g
      refine zi_ite (fun h12 => ?_) (fun h12 => ?_)
      · refine zi_tabI (pc := 40) 903 hX dL_law_40 12 h12 (by decide) (by decide) rfl (by decide) ?_
        exact zl_12 hX hsc hu9 _ x4 hr g
      refine zi_ite (fun h13 => ?_) (fun h13 => ?_)
      · refine zi_tabI (pc := 40) 971 hX dL_law_40 13 h13 (by decide) (by decide) rfl (by decide) ?_
        exact zl_13 hX hsc hu9 _ x4 hr g
      refine zi_ite (fun h14 => ?_) (fun h14 => ?_)
      · refine zi_tabI (pc := 40) 1079 hX dL_law_40 14 h14 (by decide) (by decide) rfl (by decide) ?_
        exact zl_14 hX hsc hu9 _ x4 hr g
      refine zi_ite (fun h15 => ?_) (fun h15 => ?_)
      · refine zi_tabI (pc := 40) 1135 hX dL_law_40 15 h15 (by decide) (by decide) rfl (by decide) ?_
        exact zl_15 hX hsc hu9 _ x4 hr g
      refine zi_ite (fun h16 => ?_) (fun h16 => ?_)
      · refine zi_tabI (pc := 40) 1148 hX dL_law_40 16 h16 (by decide) (by decide) rfl (by decide) ?_
        exact zl_16 hX hsc hu9 _ x4 hr g
      refine zi_ite (fun h17 => ?_) (fun h17 => ?_)
      · refine zi_tabI (pc := 40) 1204 hX dL_law_40 17 h17 (by decide) (by decide) rfl (by decide) ?_
        exact zl_17 hX hsc hu9 _ x4 hr g
      refine zi_ite (fun h18 => ?_) (fun h18 => ?_)
      · refine zi_tabI (pc := 40) 1272 hX dL_law_40 18 h18 (by decide) (by decide) rfl (by decide) ?_
        exact zl_18 hX hsc hu9 _ x4 hr g
      refine zi_ite (fun h19 => ?_) (fun h19 => ?_)
      · refine zi_tabI (pc := 40) 1340 hX dL_law_40 19 h19 (by decide) (by decide) rfl (by decide) ?_
        exact zl_19 hX hsc hu9 _ x4 hr g
      refine zi_ite (fun h20 => ?_) (fun h20 => ?_)
      · refine zi_tabI (pc := 40) 1396 hX dL_law_40 20 h20 (by decide) (by decide) rfl (by decide) ?_
        exact zl_20 hX hsc hu9 _ x4 hr g
      refine zi_ite (fun h21 => ?_) (fun h21 => ?_)
      · refine zi_tabI (pc := 40) 1492 hX dL_law_40 21 h21 (by decide) (by decide) rfl (by decide) ?_
        exact zl_21 hX hsc hu9 _ x4 hr g
      refine zi_ite (fun h22 => ?_) (fun h22 => ?_)
      · refine zi_tabI (pc := 40) 1607 hX dL_law_40 22 h22 (by decide) (by decide) rfl (by decide) ?_
        exact zl_22 hX hsc hu9 _ x4 hr g
      refine zi_ite (fun h23 => ?_) (fun h23 => ?_)
      · refine zi_tabI (pc := 40) 1618 hX dL_law_40 23 h23 (by decide) (by decide) rfl (by decide) ?_
        exact zl_23 hX hsc hu9 _ x4 hr g
      refine zi_tabO (pc := 40) 1631 hX dL_law_40 (et_out0_23 h0 h1 h2 h3 h4 h5 h6 h7 h8 h9 h10 h11 h12 h13 h14 h15 h16 h17 h18 h19 h20 h21 h22 h23) (by decide) ?_
      refine zi_iinc4 (pc := 1631) hX dL_law_1631 (kn_6 _) rfl rfl ?_
      refine zi_goto (pc := 1634) 23 hX dL_law_1634 (by decide) ?_
      exact hr u (by omega) g
