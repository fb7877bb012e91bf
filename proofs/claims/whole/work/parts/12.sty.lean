/-! String's own methods on the reader's constants, and 'is' -/
def rm_J0 : Room := { frames := 0, cells := 0, slots := 0, locals := 0 }
def rm_J1 : Room := { frames := 1, cells := 0, slots := 0, locals := 20 }
def rm_J2 : Room := { frames := 1, cells := 0, slots := 0, locals := 22 }
def rm_J3 : Room := { frames := 2, cells := 0, slots := 0, locals := 43 }
def rm_J4 : Room := { frames := 3, cells := 0, slots := 0, locals := 64 }
section STY
variable {w : et_W} {i : Nat}
theorem ct_Js_coder (hi : i < 13) (hw : et_Sane w) (g : et_G) : et_C w yJ0_coder_7d493 (Cond.code yJ0_coder_7d493 cJ0_coder_7d493 1 (some .byte)) rm_J0 et_eI [.ref (et_ad w (1000 + i))] g (some (0, g)) := et_mk (lv0 := [some (.ref (et_ad w (1000 + i)))]) hw (by decide) rfl rfl (fun X hX => by
  refine zi_gcs (pc := 0) hX dJ0_coder_7d493_0 tw_822 ?_
  refine zi_if_eqF (pc := 3) 13 hX dJ0_coder_7d493_3 (by decide) (by decide) ?_
  refine zi_aload0 (pc := 6) hX dJ0_coder_7d493_6 ?_
  refine zi_sgc hi (pc := 7) hX dJ0_coder_7d493_7 tw_1924 ?_
  refine zi_goto (pc := 10) 14 hX dJ0_coder_7d493_10 (by decide) ?_
  exact zi_ret (pc := 14) hX dJ0_coder_7d493_14 (by decide) rfl rfl rfl)
theorem ct_Js_isLatin1 (hi : i < 13) (hw : et_Sane w) (g : et_G) : et_C w yJ0_isLatin1_aae02 (Cond.code yJ0_isLatin1_aae02 cJ0_isLatin1_aae02 1 (some .boolean)) rm_J0 et_eI [.ref (et_ad w (1000 + i))] g (some (1, g)) := et_mk (lv0 := [some (.ref (et_ad w (1000 + i)))]) hw (by decide) rfl rfl (fun X hX => by
  refine zi_gcs (pc := 0) hX dJ0_isLatin1_aae02_0 tw_822 ?_
  refine zi_if_eqF (pc := 3) 17 hX dJ0_isLatin1_aae02_3 (by decide) (by decide) ?_
  refine zi_aload0 (pc := 6) hX dJ0_isLatin1_aae02_6 ?_
  refine zi_sgc hi (pc := 7) hX dJ0_isLatin1_aae02_7 tw_1924 ?_
  refine zi_if_neF (pc := 10) 17 hX dJ0_isLatin1_aae02_10 (by decide) rfl ?_
  refine zi_iconst (pc := 13) (v := 1) hX dJ0_isLatin1_aae02_13 (by decide) ?_
  refine zi_goto (pc := 14) 18 hX dJ0_isLatin1_aae02_14 (by decide) ?_
  exact zi_ret (pc := 18) hX dJ0_isLatin1_aae02_18 et_z1 rfl rfl rfl)
def et_len (i : Nat) : Int32 := Int32.ofNat (et_sln.getD i 0) >>> ((0 : Int32) &&& 31)
theorem ct_Js_length (hi : i < 13) (hw : et_Sane w) (g : et_G) : et_C w yJ0_length_8abf5 (Cond.code yJ0_length_8abf5 cJ0_length_8abf5 1 (some .int)) rm_J1 et_eI [.ref (et_ad w (1000 + i))] g (some (et_len i, g)) := et_mk (lv0 := [some (.ref (et_ad w (1000 + i)))]) hw (by decide) rfl rfl (fun X hX => by
  refine zi_aload0 (pc := 0) hX dJ0_length_8abf5_0 ?_
  refine zi_sgv hi (pc := 1) hX dJ0_length_8abf5_1 tw_1923 ?_
  refine zi_sln hi (pc := 4) hX dJ0_length_8abf5_4 ?_
  refine zi_aload0 (pc := 5) hX dJ0_length_8abf5_5 ?_
  refine zi_callK (zc_vstr (As := []) hi (pc := 6) hX dJ0_length_8abf5_6 tw_818 mw_J0_coder_7d493 iw_J0_coder_7d493 (ct_Js_coder hi hw g) rfl rfl rfl) ?_
  refine zi_ishr (pc := 9) hX dJ0_length_8abf5_9 ?_
  exact zi_ret (pc := 10) hX dJ0_length_8abf5_10 rfl rfl rfl rfl)
def et_ix (p n : Int32) : Bool := decide (¬ p < 0 ∧ p < n)
theorem ct_Jp_checkIndex (hw : et_Sane w) (p0 p1 : Int32) (v : Value) (hv : v.category = 1) (g : et_G) : et_C w yJ3_checkIndex_8e157 (Cond.code yJ3_checkIndex_8e157 cJ3_checkIndex_8e157 3 (some .int)) rm_J0 et_eI [.int p0, .int p1, v] g (et_ck (et_ix p0 p1) (some (p0, g))) := et_mk (lv0 := [some (.int p0), some (.int p1), some v]) hw (by decide) (by cases v <;> first | rfl | cases hv) rfl (fun X hX => by
  refine zi_ck fun hc => ?_
  obtain ⟨h1, h2⟩ := of_decide_eq_true hc
  refine zi_iload0 (pc := 0) hX dJ3_checkIndex_8e157_0 ?_
  refine zi_if_ltF (pc := 1) 9 hX dJ3_checkIndex_8e157_1 (by decide) h1 ?_
  refine zi_iload0 (pc := 4) hX dJ3_checkIndex_8e157_4 ?_
  refine zi_iload1 (pc := 5) hX dJ3_checkIndex_8e157_5 ?_
  refine zi_icmp_ltT (pc := 6) 16 hX dJ3_checkIndex_8e157_6 (by decide) h2 ?_
  refine zi_iload0 (pc := 16) hX dJ3_checkIndex_8e157_16 ?_
  exact zi_ret (pc := 17) hX dJ3_checkIndex_8e157_17 rfl rfl rfl rfl)
theorem ct_Js_checkIndex (hw : et_Sane w) (p0 p1 : Int32) (g : et_G) : et_C w yJ0_checkIndex_df160 (Cond.code yJ0_checkIndex_df160 cJ0_checkIndex_df160 2 (none)) rm_J2 et_eU [.int p0, .int p1] g (et_bd (et_ck (et_ix p0 p1) (some (p0, g))) (fun _ g => some ((), g))) := et_mk (lv0 := [some (.int p0), some (.int p1)]) hw (by decide) rfl rfl (fun X hX => by
  refine zi_iload0 (pc := 0) hX dJ0_checkIndex_df160_0 ?_
  refine zi_iload1 (pc := 1) hX dJ0_checkIndex_df160_1 ?_
  refine zi_gsf (pc := 2) hX dJ0_checkIndex_df160_2 tw_838 (fun v hv => ?_)
  refine zi_callI (zc_stat (As := [.int p0, .int p1, v]) (pc := 5) hX dJ0_checkIndex_df160_5 tw_840 mw_J3_checkIndex_8e157 sw_J3_checkIndex_8e157 (ct_Jp_checkIndex hw p0 p1 v hv g) rfl rfl rfl) (fun x g1 => ?_)
  refine zi_pop (pc := 8) hX dJ0_checkIndex_df160_8 rfl ?_
  exact zi_vret (pc := 9) hX dJ0_checkIndex_df160_9 rfl rfl rfl)
def et_ch1 (i : Nat) (p : Int32) : Int32 := ((((et_sby.getD i []).getD p.toNatClampNeg 0 &&& (255 : Int32)).toUInt32 % 65536).toInt32)
def et_nc (x : Int32) : Int32 := x.toUInt32.toUInt16.toUInt32.toInt32
def fn_Jl_charAt (i : Nat) (p : Int32) (g : et_G) : Option (Int32 × et_G) := et_bd (et_bd (et_ck (et_ix p (Int32.ofNat (et_sln.getD i 0))) (some (p, g))) (fun _ g => some ((), g))) (fun _ g1 => et_ck (et_ib p (et_sln.getD i 0)) (some (et_nc (et_ch1 i p), g1)))
theorem ct_Jl_charAt (hi : i < 13) (hw : et_Sane w) (p : Int32) (g : et_G) : et_C w yJ1_charAt_3b067 (Cond.code yJ1_charAt_3b067 cJ1_charAt_3b067 2 (some .char)) rm_J3 et_eI [.ref (et_ad w (2000 + i)), .int p] g (fn_Jl_charAt i p g) := et_mk (lv0 := [some (.ref (et_ad w (2000 + i))), some (.int p)]) hw (by decide) rfl rfl (fun X hX => by
  unfold fn_Jl_charAt
  refine zi_iload1 (pc := 0) hX dJ1_charAt_3b067_0 ?_
  refine zi_aload0 (pc := 1) hX dJ1_charAt_3b067_1 ?_
  refine zi_sln hi (pc := 2) hX dJ1_charAt_3b067_2 ?_
  refine zi_callU (zc_stat (As := [.int p, .int (Int32.ofNat (et_sln.getD i 0))]) (pc := 3) hX dJ1_charAt_3b067_3 tw_835 mw_J0_checkIndex_df160 sw_J0_checkIndex_df160 (ct_Js_checkIndex hw p (Int32.ofNat (et_sln.getD i 0)) g) rfl rfl rfl) (fun g1 => ?_)
  refine zi_aload0 (pc := 6) hX dJ1_charAt_3b067_6 ?_
  refine zi_iload1 (pc := 7) hX dJ1_charAt_3b067_7 ?_
  refine zi_sba hi (pc := 8) hX dJ1_charAt_3b067_8 ?_
  refine zi_sipush (pc := 9) (v := 255) hX dJ1_charAt_3b067_9 (by decide) ?_
  refine zi_iand (pc := 12) hX dJ1_charAt_3b067_12 ?_
  refine zi_i2c (pc := 13) hX dJ1_charAt_3b067_13 ?_
  exact zi_ret (pc := 14) hX dJ1_charAt_3b067_14 rfl rfl rfl rfl)
def fn_Js_charAt (i : Nat) (p : Int32) (g : et_G) : Option (Int32 × et_G) := et_bd (fn_Jl_charAt i p g) (fun x g1 => some (et_nc x, g1))
theorem ct_Js_charAt (hi : i < 13) (hw : et_Sane w) (p : Int32) (g : et_G) : et_C w yJ0_charAt_5068e (Cond.code yJ0_charAt_5068e cJ0_charAt_5068e 2 (some .char)) rm_J4 et_eI [.ref (et_ad w (1000 + i)), .int p] g (fn_Js_charAt i p g) := et_mk (lv0 := [some (.ref (et_ad w (1000 + i))), some (.int p)]) hw (by decide) rfl rfl (fun X hX => by
  unfold fn_Js_charAt
  refine zi_aload0 (pc := 0) hX dJ0_charAt_5068e_0 ?_
  refine zi_callK (zc_vstr (As := []) hi (pc := 1) hX dJ0_charAt_5068e_1 tw_828 mw_J0_isLatin1_aae02 iw_J0_isLatin1_aae02 (ct_Js_isLatin1 hi hw g) rfl rfl rfl) ?_
  refine zi_if_eqF (pc := 4) 16 hX dJ0_charAt_5068e_4 (by decide) (by decide) ?_
  refine zi_aload0 (pc := 7) hX dJ0_charAt_5068e_7 ?_
  refine zi_sgv hi (pc := 8) hX dJ0_charAt_5068e_8 tw_1923 ?_
  refine zi_iload1 (pc := 11) hX dJ0_charAt_5068e_11 ?_
  refine zi_callI (zc_stat (As := [.ref (et_ad w (2000 + i)), .int p]) (pc := 12) hX dJ0_charAt_5068e_12 tw_832 mw_J1_charAt_3b067 sw_J1_charAt_3b067 (ct_Jl_charAt hi hw p g) rfl rfl rfl) (fun x g1 => ?_)
  exact zi_ret (pc := 15) hX dJ0_charAt_5068e_15 rfl rfl rfl rfl)
def rm_is : Room := { frames := 4, cells := 0, slots := 0, locals := 85 }
def fn_Re_is_23 (i : Nat) : Nat → Int32 → et_G → Option (Int32 × et_G)
  | 0, _, _ => none
  | n + 1, x2, g =>
    if et_len i ≤ x2 then
      some ((1 : Int32), g)
    else
      et_ck (et_ib ((g.1 28 4) + x2) 800) (
      et_bd (fn_Js_charAt i x2 g) (fun v3 g4 =>
      if (g.1 1 ((g.1 28 4) + x2).toNatClampNeg) = v3 then
        et_b (x2 + (1 : Int32)) (fun v5 =>
        fn_Re_is_23 i n v5 g4)
      else
        some ((0 : Int32), g4)))
def fn_Re_is (i : Nat) (g : et_G) : Option (Int32 × et_G) :=
  if (g.1 28 3) = (1 : Int32) then
    if (g.1 28 5) = et_len i then
      fn_Re_is_23 i 1000000 (0 : Int32) g
    else
      some ((0 : Int32), g)
  else
    some ((0 : Int32), g)
theorem kj_1 (x : Int32) : x + Int32.ofInt 1 = x + 1 := by rw [show Int32.ofInt 1 = 1 from by decide]
theorem zp_Re_is_23 (hi : i < 13) {X : et_X} (hX : et_Gd X w cX4_is RX4 3 (some .boolean) [] rm_is) : ∀ (n : Nat) (x2 : Int32) (g : et_G), et_Z X w 0 et_eI 23 [some (.ref (et_ad w 28)), some (.ref (et_ad w (1000 + i))), some (.int x2)] [] g (fn_Re_is_23 i n x2 g) := by
  intro n
  induction n with
  | zero =>
    intro x2 g a g2 h
    cases h
  | succ n ih =>
    intro x2 g
    rw [fn_Re_is_23]
    refine zi_iload2 (pc := 23) hX dX4_is_23 ?_
    refine zi_aload1 (pc := 24) hX dX4_is_24 ?_
    refine zi_callK (zc_vstr (As := []) hi (pc := 25) hX dX4_is_25 tw_814 mw_J0_length_8abf5 iw_J0_length_8abf5 (ct_Js_length hi hX.sane g) rfl rfl rfl) ?_
    refine zi_icmp_ge (pc := 28) 58 hX dX4_is_28 (by decide) (fun _ => ?_) (fun _ => ?_)
    · refine zi_iconst (pc := 58) (v := 1) hX dX4_is_58 (by decide) ?_
      exact zi_ret (pc := 59) hX dX4_is_59 et_z1 rfl rfl rfl
    · refine zi_aload0 (pc := 31) hX dX4_is_31 ?_
      refine zi_getr (q := 1) (pc := 32) hX dX4_is_32 fs_15 ly_28 rfl ?_
      refine zi_aload0 (pc := 35) hX dX4_is_35 ?_
      refine zi_geti (pc := 36) hX dX4_is_36 fs_59 ly_28 rfl ?_
      refine zi_iload2 (pc := 39) hX dX4_is_39 ?_
      refine zi_iadd (pc := 40) hX dX4_is_40 ?_
      refine zi_bald (pc := 41) hX dX4_is_41 ly_1 ?_
      refine zi_aload1 (pc := 42) hX dX4_is_42 ?_
      refine zi_iload2 (pc := 43) hX dX4_is_43 ?_
      refine zi_callI (zc_vstr (As := [.int x2]) hi (pc := 44) hX dX4_is_44 tw_824 mw_J0_charAt_5068e iw_J0_charAt_5068e (ct_Js_charAt hi hX.sane x2 g) rfl rfl rfl) (fun v3 g4 => ?_)
      refine zi_icmp_eq (pc := 47) 52 hX dX4_is_47 (by decide) (fun _ => ?_) (fun _ => ?_)
      · refine zi_iincb2 (pc := 52) hX dX4_is_52 (kj_1 _) rfl rfl (fun v5 => ?_)
        refine zi_goto (pc := 55) 23 hX dX4_is_55 (by decide) ?_
        exact ih v5 g4
      · refine zi_iconst (pc := 50) (v := 0) hX dX4_is_50 (by decide) ?_
        exact zi_ret (pc := 51) hX dX4_is_51 et_z0 rfl rfl rfl
theorem ct_Re_is (hi : i < 13) (hw : et_Sane w) (g : et_G) : et_C w yX4_is (Cond.code yX4_is cX4_is 3 (some .boolean)) rm_is et_eI [.ref (et_ad w 28), .ref (et_ad w (1000 + i))] g (fn_Re_is i g) := et_mk (lv0 := [some (.ref (et_ad w 28)), some (.ref (et_ad w (1000 + i))), none]) hw (by decide) rfl rfl (fun X hX => by
  unfold fn_Re_is
  refine zi_aload0 (pc := 0) hX dX4_is_0 ?_
  refine zi_geti (pc := 1) hX dX4_is_1 fs_49 ly_28 rfl ?_
  refine zi_iconst (pc := 4) (v := 1) hX dX4_is_4 (by decide) ?_
  refine zi_icmp_ne (pc := 5) 19 hX dX4_is_5 (by decide) (fun _ => ?_) (fun _ => ?_)
  · refine zi_aload0 (pc := 8) hX dX4_is_8 ?_
    refine zi_geti (pc := 9) hX dX4_is_9 fs_78 ly_28 rfl ?_
    refine zi_aload1 (pc := 12) hX dX4_is_12 ?_
    refine zi_callK (zc_vstr (As := []) hi (pc := 13) hX dX4_is_13 tw_814 mw_J0_length_8abf5 iw_J0_length_8abf5 (ct_Js_length hi hX.sane g) rfl rfl rfl) ?_
    refine zi_icmp_eq (pc := 16) 21 hX dX4_is_16 (by decide) (fun _ => ?_) (fun _ => ?_)
    · refine zi_iconst (pc := 21) (v := 0) hX dX4_is_21 (by decide) ?_
      refine zi_istore2 (pc := 22) hX dX4_is_22 rfl rfl ?_
      exact zp_Re_is_23 hi hX 1000000 0 g
    · refine zi_iconst (pc := 19) (v := 0) hX dX4_is_19 (by decide) ?_
      exact zi_ret (pc := 20) hX dX4_is_20 et_z0 rfl rfl rfl
  · refine zi_iconst (pc := 19) (v := 0) hX dX4_is_19 (by decide) ?_
    exact zi_ret (pc := 20) hX dX4_is_20 et_z0 rfl rfl rfl)
end STY
