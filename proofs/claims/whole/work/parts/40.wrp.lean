/-! a call whose exceptions are caught here -/
def et_bc {β γ : Type} (F : Option ((Nat ⊕ β) × et_G)) (f : β → et_G → Option γ) (h : Nat → et_G → Option γ) : Option γ := match F with
  | none => none
  | some (.inl k, g) => h k g
  | some (.inr x, g) => f x g
def et_Ht (own : String) (tb : List ExceptionTableEntry) (pc k hpc : Nat) : Prop := ∃ pre x suf, tb = pre ++ x :: suf ∧ covers x pc = true ∧ x.catchType ≠ 0 ∧ x.handlerPc = hpc ∧ Cond.classLink own x.catchType (et_xn k) ∈ et_tb ∧ Cond.castable (et_xn k) (et_xn k) ∈ et_tb ∧ ∀ z ∈ pre, covers z pc = false ∨ (k = 1 ∧ z.catchType ≠ 0 ∧ Cond.classLink own z.catchType (et_xn 0) ∈ et_tb)
section ZWR
variable {α β : Type} {X : et_X} {w : et_W} {u pc nL : Nat} {enc : α → et_O} {b : ByteArray} {own : String} {ret : Option FieldType} {tb : List ExceptionTableEntry} {rm : Room} {lv r : List (Option Value)} {st : List Value} {g : et_G} {o : Option (α × et_G)} {idx n : Nat}
theorem zi_callC {F : Option ((Nat ⊕ Int32) × et_G)} {f : Int32 → et_G → Option (α × et_G)} {h : Nat → et_G → Option (α × et_G)} {mc : Nat} {st0 : List Value} (hX : et_Gd X w b own nL ret tb rm) (hc : et_Call X w u pc mc lv st0 st g et_tI F)
    (hh : ∀ (k : Nat) (g1 : et_G), h k g1 = none ∨ ∃ hpc, et_Ht own tb pc k hpc ∧ ∀ q : Nat, et_Z X w (u + mc) enc hpc lv [.ref q] g1 (h k g1)) (kk : ∀ (x : Int32) (g1 : et_G), et_Z X w (u + mc) enc (pc + 3) lv (.int x :: st) g1 (f x g1)) : et_Z X w u enc pc lv st0 g (et_bc F f h) := by
  obtain ⟨p, l, e, R, s, m, args, below, meth, c⟩ := X
  intro a1 g2 ho H locs ls hP hS hlv
  cases hF : F with
  | none => rw [hF] at ho; cases ho
  | some q =>
    obtain ⟨x, g1⟩ := q
    rw [hF] at ho
    obtain ⟨a, hr⟩ := hc x g1 hF H locs ls hP hS hlv
    cases x with
    | inl k1 =>
      have ho : h k1 g1 = some (a1, g2) := ho
      rcases hh k1 g1 with h0 | ⟨hpc, ⟨pre, x, suf, hsp, hcov, hct, rfl, hlk, hcs, hpass⟩, hz⟩
      · rw [h0] at ho; cases ho
      · refine et_callE hr hS (fun v hv => by cases hv) (fun k hk H1 locs1 q9 ce hP1 hS1 hce hcv hcl => ?_)
        cases hk
        obtain ⟨hx, hb, hml, hown, hts, hr2, hlocks, hsane, hU, htb, hlt, -⟩ := hX
        refine et_catch hown pre x suf (by rw [htb]; exact hsp) (fun z hz => ?_) hcov hct (hts _ hlk) (hts _ hcs) hce hcv hcl (hz q9 a1 g2 ho H1 locs1 ls hP1 hS1 hlv)
        rcases hpass z hz with h1 | ⟨h1, h2, h3⟩
        · exact Or.inl h1
        · subst h1
          exact Or.inr ⟨h2, _, hts _ h3, va_Nc.moved hU.1.alike hsane.strs.2.2.2.2⟩
    | inr y => exact et_callE hr hS (fun v hv H1 locs1 hP1 hS1 => by cases hv; exact kk y g1 a1 g2 ho H1 locs1 ls hP1 hS1 hlv) (fun k hk => by cases hk)
theorem zi_hd1 {k0 hpc : Nat} {v : α} (ht : et_Ht own tb pc k0 hpc) (hz : ∀ (q : Nat) (g1 : et_G), et_Z X w u enc hpc lv [.ref q] g1 (some (v, g1))) : ∀ (k : Nat) (g1 : et_G), (if k = k0 then some (v, g1) else none) = none ∨ ∃ hpc, et_Ht own tb pc k hpc ∧ ∀ q : Nat, et_Z X w u enc hpc lv [.ref q] g1 (if k = k0 then some (v, g1) else none) := by
  intro k g1
  by_cases hk : k = k0
  · subst hk
    exact Or.inr ⟨hpc, ht, fun q => by rw [if_pos rfl]; exact hz q g1⟩
  · exact Or.inl (if_neg hk)
theorem zi_hd2 {h0 h1 : Nat} {v0 v1 : α} (ht0 : et_Ht own tb pc 0 h0) (ht1 : et_Ht own tb pc 1 h1) (hz0 : ∀ (q : Nat) (g1 : et_G), et_Z X w u enc h0 lv [.ref q] g1 (some (v0, g1))) (hz1 : ∀ (q : Nat) (g1 : et_G), et_Z X w u enc h1 lv [.ref q] g1 (some (v1, g1))) : ∀ (k : Nat) (g1 : et_G), (if k = 0 then some (v0, g1) else if k = 1 then some (v1, g1) else none) = none ∨ ∃ hpc, et_Ht own tb pc k hpc ∧ ∀ q : Nat, et_Z X w u enc hpc lv [.ref q] g1 (if k = 0 then some (v0, g1) else if k = 1 then some (v1, g1) else none) := by
  intro k g1
  by_cases hk : k = 0
  · subst hk
    exact Or.inr ⟨h0, ht0, fun q => by rw [if_pos rfl]; exact hz0 q g1⟩
  · by_cases hk1 : k = 1
    · subst hk1
      exact Or.inr ⟨h1, ht1, fun q => by rw [if_neg hk, if_pos rfl]; exact hz1 q g1⟩
    · exact Or.inl (by rw [if_neg hk, if_neg hk1])
/-- a contract of a method with a table -/
theorem et_mkH {y : MethodName} {avs : List Value} {lv0 : List (Option Value)} {hh : List (Nat × Nat × Nat × Nat)} (hw : et_Sane w) (hy : plainName y.cls = true) (hn : Nat.ble (lg_sl avs).length nL = true) (hlv : et_L lv0 = lv_args 0 avs)
    (body : ∀ X : et_X, et_Gd X w b y.cls nL ret (tableOf hh) rm → et_Z X w 0 enc 0 lv0 [] g o) : et_C w y (Cond.codeWith y b nL ret hh) rm enc avs g o := by
  intro l hl a g2 ho
  refine vx_ofWH (cc := b) (maxL := nL) (ret := ret) (hh := hh) (ws' := []) hy rfl ?_
  intro p e s m args below meth c s₁ B hml hv
  obtain ⟨rfl, hU, hP⟩ := hv
  have hlk := B.notSynchronized
  have htb : c.exceptionTable.toList = tableOf hh := vx_table (x := y) B (atoms_spec (ws := [Cond.codeWith y b nL ret hh]) B.pre _ List.mem_cons_self)
  have hgd : et_Gd (p, l, e, rm, s, m, avs.toArray, below, meth, c) w b y.cls nL ret (tableOf hh) rm :=
    ⟨B.exec, B.bytes, hml, findClass_of_methodNamed B.named, et_words hw hU _, B.returns, hlk, hw, hU, htb, hl, rfl⟩
  have h0 := lv_entry avs (n := nL) (Nat.le_of_ble_eq_true hn)
  rw [lg_entry_eq]
  rw [← hlv] at h0
  exact body _ hgd a g2 ho s.heap [] _ hP va_S.rf (by rw [hml]; exact h0)
end ZWR
theorem md_X9_village : et_MD yX9_village cX9_village 3 (some .int) 1 := ⟨et_mt 706 (by decide +kernel) rfl, et_mt 112 (by decide +kernel) rfl, ⟨by decide, by decide⟩, fun sig h => by have h2 : (parseMethodDescriptor (yX9_village).desc).map (fun d => d.parameters.length) = some 1 := (by decide +kernel); rw [h] at h2; exact (Option.some.inj h2).symm⟩
theorem mi_X9_village : et_MI yX9_village 9 := ⟨et_mt 704 (by decide +kernel) rfl, et_mt 705 (by decide +kernel) rfl, TX9, 18, rfl⟩
theorem md_X9_count : et_MD yX9_count cX9_count 2 (some .int) 1 := ⟨et_mt 1007 (by decide +kernel) rfl, et_mt 112 (by decide +kernel) rfl, ⟨by decide, by decide⟩, fun sig h => by have h2 : (parseMethodDescriptor (yX9_count).desc).map (fun d => d.parameters.length) = some 1 := (by decide +kernel); rw [h] at h2; exact (Option.some.inj h2).symm⟩
theorem mi_X9_count : et_MI yX9_count 9 := ⟨et_mt 1005 (by decide +kernel) rfl, et_mt 1006 (by decide +kernel) rfl, TX9, 18, rfl⟩
theorem md_X9_where : et_MD yX9_where cX9_where 3 (some .int) 2 := ⟨et_mt 1030 (by decide +kernel) rfl, et_mt 112 (by decide +kernel) rfl, ⟨by decide, by decide⟩, fun sig h => by have h2 : (parseMethodDescriptor (yX9_where).desc).map (fun d => d.parameters.length) = some 2 := (by decide +kernel); rw [h] at h2; exact (Option.some.inj h2).symm⟩
theorem mi_X9_where : et_MI yX9_where 9 := ⟨et_mt 1028 (by decide +kernel) rfl, et_mt 1029 (by decide +kernel) rfl, TX9, 18, rfl⟩
theorem md_X9_thing : et_MD yX9_thing cX9_thing 3 (some .int) 2 := ⟨et_mt 1053 (by decide +kernel) rfl, et_mt 112 (by decide +kernel) rfl, ⟨by decide, by decide⟩, fun sig h => by have h2 : (parseMethodDescriptor (yX9_thing).desc).map (fun d => d.parameters.length) = some 2 := (by decide +kernel); rw [h] at h2; exact (Option.some.inj h2).symm⟩
theorem mi_X9_thing : et_MI yX9_thing 9 := ⟨et_mt 1051 (by decide +kernel) rfl, et_mt 1052 (by decide +kernel) rfl, TX9, 18, rfl⟩
theorem md_X9_word : et_MD yX9_word cX9_word 7 (some .int) 4 := ⟨et_mt 1069 (by decide +kernel) rfl, et_mt 112 (by decide +kernel) rfl, ⟨by decide, by decide⟩, fun sig h => by have h2 : (parseMethodDescriptor (yX9_word).desc).map (fun d => d.parameters.length) = some 4 := (by decide +kernel); rw [h] at h2; exact (Option.some.inj h2).symm⟩
theorem mi_X9_word : et_MI yX9_word 9 := ⟨et_mt 1067 (by decide +kernel) rfl, et_mt 1068 (by decide +kernel) rfl, TX9, 18, rfl⟩
theorem md_X9_apart : et_MD yX9_apart cX9_apart 2 (some .int) 1 := ⟨et_mt 1100 (by decide +kernel) rfl, et_mt 112 (by decide +kernel) rfl, ⟨by decide, by decide⟩, fun sig h => by have h2 : (parseMethodDescriptor (yX9_apart).desc).map (fun d => d.parameters.length) = some 1 := (by decide +kernel); rw [h] at h2; exact (Option.some.inj h2).symm⟩
theorem mi_X9_apart : et_MI yX9_apart 9 := ⟨et_mt 1098 (by decide +kernel) rfl, et_mt 1099 (by decide +kernel) rfl, TX9, 18, rfl⟩
theorem md_X9_way : et_MD yX9_way cX9_way 2 (some .int) 1 := ⟨et_mt 1120 (by decide +kernel) rfl, et_mt 112 (by decide +kernel) rfl, ⟨by decide, by decide⟩, fun sig h => by have h2 : (parseMethodDescriptor (yX9_way).desc).map (fun d => d.parameters.length) = some 1 := (by decide +kernel); rw [h] at h2; exact (Option.some.inj h2).symm⟩
theorem mi_X9_way : et_MI yX9_way 9 := ⟨et_mt 1118 (by decide +kernel) rfl, et_mt 1119 (by decide +kernel) rfl, TX9, 18, rfl⟩
theorem md_X9_say : et_MD yX9_say cX9_say 6 (some .int) 5 := ⟨et_mt 1127 (by decide +kernel) rfl, et_mt 112 (by decide +kernel) rfl, ⟨by decide, by decide⟩, fun sig h => by have h2 : (parseMethodDescriptor (yX9_say).desc).map (fun d => d.parameters.length) = some 5 := (by decide +kernel); rw [h] at h2; exact (Option.some.inj h2).symm⟩
theorem mi_X9_say : et_MI yX9_say 9 := ⟨et_mt 1125 (by decide +kernel) rfl, et_mt 1126 (by decide +kernel) rfl, TX9, 18, rfl⟩
theorem md_X9_utter : et_MD yX9_utter cX9_utter 4 (some .int) 3 := ⟨et_mt 1138 (by decide +kernel) rfl, et_mt 112 (by decide +kernel) rfl, ⟨by decide, by decide⟩, fun sig h => by have h2 : (parseMethodDescriptor (yX9_utter).desc).map (fun d => d.parameters.length) = some 3 := (by decide +kernel); rw [h] at h2; exact (Option.some.inj h2).symm⟩
theorem mi_X9_utter : et_MI yX9_utter 9 := ⟨et_mt 1136 (by decide +kernel) rfl, et_mt 1137 (by decide +kernel) rfl, TX9, 18, rfl⟩
theorem md_X9_saying : et_MD yX9_saying cX9_saying 3 (some .int) 2 := ⟨et_mt 1171 (by decide +kernel) rfl, et_mt 112 (by decide +kernel) rfl, ⟨by decide, by decide⟩, fun sig h => by have h2 : (parseMethodDescriptor (yX9_saying).desc).map (fun d => d.parameters.length) = some 2 := (by decide +kernel); rw [h] at h2; exact (Option.some.inj h2).symm⟩
theorem mi_X9_saying : et_MI yX9_saying 9 := ⟨et_mt 1169 (by decide +kernel) rfl, et_mt 1170 (by decide +kernel) rfl, TX9, 18, rfl⟩
theorem md_X9_could : et_MD yX9_could cX9_could 5 (some .int) 4 := ⟨et_mt 1218 (by decide +kernel) rfl, et_mt 112 (by decide +kernel) rfl, ⟨by decide, by decide⟩, fun sig h => by have h2 : (parseMethodDescriptor (yX9_could).desc).map (fun d => d.parameters.length) = some 4 := (by decide +kernel); rw [h] at h2; exact (Option.some.inj h2).symm⟩
theorem mi_X9_could : et_MI yX9_could 9 := ⟨et_mt 1216 (by decide +kernel) rfl, et_mt 1217 (by decide +kernel) rfl, TX9, 18, rfl⟩
theorem md_X9_wrong : et_MD yX9_wrong cX9_wrong 2 (some .int) 1 := ⟨et_mt 1229 (by decide +kernel) rfl, et_mt 112 (by decide +kernel) rfl, ⟨by decide, by decide⟩, fun sig h => by have h2 : (parseMethodDescriptor (yX9_wrong).desc).map (fun d => d.parameters.length) = some 1 := (by decide +kernel); rw [h] at h2; exact (Option.some.inj h2).symm⟩
theorem mi_X9_wrong : et_MI yX9_wrong 9 := ⟨et_mt 1227 (by decide +kernel) rfl, et_mt 1228 (by decide +kernel) rfl, TX9, 18, rfl⟩
theorem md_X9_mended : et_MD yX9_mended cX9_mended 2 (some .int) 1 := ⟨et_mt 1245 (by decide +kernel) rfl, et_mt 112 (by decide +kernel) rfl, ⟨by decide, by decide⟩, fun sig h => by have h2 : (parseMethodDescriptor (yX9_mended).desc).map (fun d => d.parameters.length) = some 1 := (by decide +kernel); rw [h] at h2; exact (Option.some.inj h2).symm⟩
theorem mi_X9_mended : et_MI yX9_mended 9 := ⟨et_mt 1243 (by decide +kernel) rfl, et_mt 1244 (by decide +kernel) rfl, TX9, 18, rfl⟩
theorem md_X9_silence : et_MD yX9_silence cX9_silence 3 (some .int) 2 := ⟨et_mt 1252 (by decide +kernel) rfl, et_mt 112 (by decide +kernel) rfl, ⟨by decide, by decide⟩, fun sig h => by have h2 : (parseMethodDescriptor (yX9_silence).desc).map (fun d => d.parameters.length) = some 2 := (by decide +kernel); rw [h] at h2; exact (Option.some.inj h2).symm⟩
theorem mi_X9_silence : et_MI yX9_silence 9 := ⟨et_mt 1250 (by decide +kernel) rfl, et_mt 1251 (by decide +kernel) rfl, TX9, 18, rfl⟩
theorem md_X9_likely : et_MD yX9_likely cX9_likely 5 (some .int) 2 := ⟨et_mt 1269 (by decide +kernel) rfl, et_mt 112 (by decide +kernel) rfl, ⟨by decide, by decide⟩, fun sig h => by have h2 : (parseMethodDescriptor (yX9_likely).desc).map (fun d => d.parameters.length) = some 2 := (by decide +kernel); rw [h] at h2; exact (Option.some.inj h2).symm⟩
theorem mi_X9_likely : et_MI yX9_likely 9 := ⟨et_mt 1267 (by decide +kernel) rfl, et_mt 1268 (by decide +kernel) rfl, TX9, 18, rfl⟩
theorem md_X9_worlds : et_MD yX9_worlds cX9_worlds 3 (some .int) 1 := ⟨et_mt 1284 (by decide +kernel) rfl, et_mt 112 (by decide +kernel) rfl, ⟨by decide, by decide⟩, fun sig h => by have h2 : (parseMethodDescriptor (yX9_worlds).desc).map (fun d => d.parameters.length) = some 1 := (by decide +kernel); rw [h] at h2; exact (Option.some.inj h2).symm⟩
theorem mi_X9_worlds : et_MI yX9_worlds 9 := ⟨et_mt 1282 (by decide +kernel) rfl, et_mt 1283 (by decide +kernel) rfl, TX9, 18, rfl⟩
theorem md_X9_tell : et_MD yX9_tell cX9_tell 4 (some .int) 3 := ⟨et_mt 1296 (by decide +kernel) rfl, et_mt 112 (by decide +kernel) rfl, ⟨by decide, by decide⟩, fun sig h => by have h2 : (parseMethodDescriptor (yX9_tell).desc).map (fun d => d.parameters.length) = some 3 := (by decide +kernel); rw [h] at h2; exact (Option.some.inj h2).symm⟩
theorem mi_X9_tell : et_MI yX9_tell 9 := ⟨et_mt 1294 (by decide +kernel) rfl, et_mt 1295 (by decide +kernel) rfl, TX9, 18, rfl⟩
theorem md_X9_known : et_MD yX9_known cX9_known 6 (some .boolean) 4 := ⟨et_mt 1333 (by decide +kernel) rfl, et_mt 112 (by decide +kernel) rfl, ⟨by decide, by decide⟩, fun sig h => by have h2 : (parseMethodDescriptor (yX9_known).desc).map (fun d => d.parameters.length) = some 4 := (by decide +kernel); rw [h] at h2; exact (Option.some.inj h2).symm⟩
theorem mi_X9_known : et_MI yX9_known 9 := ⟨et_mt 1331 (by decide +kernel) rfl, et_mt 1332 (by decide +kernel) rfl, TX9, 18, rfl⟩
theorem tk_0 : Cond.castable (et_xn 0) (et_xn 0) ∈ et_tb := et_mt 1011 (by decide +kernel) rfl
theorem tk_1 : Cond.castable (et_xn 1) (et_xn 1) ∈ et_tb := et_mt 713 (by decide +kernel) rfl
theorem tl_18 : Cond.classLink RL 18 (et_xn 0) ∈ et_tb := et_mt 1003 (by decide +kernel) rfl
theorem tl_13 : Cond.classLink RL 13 (et_xn 1) ∈ et_tb := et_mt 702 (by decide +kernel) rfl
theorem tm_703 : Cond.methodLink RL 7 yX9_village ∈ et_tb := et_mt 703 (by decide +kernel) rfl
theorem dL_village_0 : decode cL_village 0 = .ok (.aload_n 2, 1) := by decide +kernel
theorem dL_village_1 : decode cL_village 1 = .ok (.iconst 0, 1) := by decide +kernel
theorem dL_village_2 : decode cL_village 2 = .ok (.aload_n 0, 1) := by decide +kernel
theorem dL_village_3 : decode cL_village 3 = .ok (.iload_n 1, 1) := by decide +kernel
theorem dL_village_4 : decode cL_village 4 = .ok (.invokevirtual 7, 3) := by decide +kernel
theorem dL_village_7 : decode cL_village 7 = .ok (.i2l, 1) := by decide +kernel
theorem dL_village_8 : decode cL_village 8 = .ok (.lastore, 1) := by decide +kernel
theorem dL_village_9 : decode cL_village 9 = .ok (.goto 6, 3) := by decide +kernel
theorem dL_village_12 : decode cL_village 12 = .ok (.astore_n 3, 1) := by decide +kernel
theorem dL_village_13 : decode cL_village 13 = .ok (.iconst 1, 1) := by decide +kernel
theorem dL_village_14 : decode cL_village 14 = .ok (.ireturn, 1) := by decide +kernel
theorem dL_village_15 : decode cL_village 15 = .ok (.iconst 0, 1) := by decide +kernel
theorem dL_village_16 : decode cL_village 16 = .ok (.ireturn, 1) := by decide +kernel
def rm_La_village : Room := { frames := 10, cells := 1, slots := 6, locals := 218 }
def fn_La_village (p1 : Int32) (g : et_G) : Option (Int32 × et_G) := et_bc (fn_Et_village p1 g) (fun x g1 => et_ck (et_ib (0 : Int32) 1) (et_b (et_sl g1 96 (0 : Int32).toNatClampNeg x.toInt64) (fun g2 => some ((0 : Int32), g2)))) (fun k g3 => if k = 1 then some ((1 : Int32), g3) else none)
theorem ht_La_village_1 : et_Ht RL (tableOf [(0, 9, 12, 13)]) 4 1 12 := ⟨[], ⟨0, 9, 12, 13⟩, [], rfl, by decide, by decide, rfl, tl_13, tk_1, fun z hz => by cases hz⟩
theorem ct_La_village {w : et_W} (hw : et_Sane w) (p1 : Int32) (g : et_G) : et_C w yL_village (Cond.codeWith yL_village cL_village 4 (some .int) [(0, 9, 12, 13)]) rm_La_village et_eI [.ref (et_ad w 0), .int p1, .ref (et_ad w 96)] g (fn_La_village p1 g) := et_mkH (lv0 := [some (.ref (et_ad w 0)), some (.int p1), some (.ref (et_ad w 96)), none]) hw (by decide) rfl rfl (fun X hX => by
  unfold fn_La_village
  refine zi_aload2 (pc := 0) hX dL_village_0 ?_
  refine zi_iconst (pc := 1) (v := 0) hX dL_village_1 (by decide) ?_
  refine zi_aload0 (pc := 2) hX dL_village_2 ?_
  refine zi_iload1 (pc := 3) hX dL_village_3 ?_
  refine zi_callC hX (zc_virt (As := [.int p1]) (pc := 4) hX dL_village_4 tm_703 md_X9_village mi_X9_village ly_0 (ct_Et_village hX.sane p1 g) rfl rfl rfl) (zi_hd1 ht_La_village_1 (fun q g3 => by
    refine zi_astore3 (pc := 12) hX dL_village_12 rfl rfl ?_
    refine zi_iconst (pc := 13) (v := 1) hX dL_village_13 (by decide) ?_
    exact zi_ret (pc := 14) hX dL_village_14 rfl rfl rfl rfl)) (fun x g1 => ?_)
  refine zi_i2l (pc := 7) hX dL_village_7 ?_
  refine zi_last (pc := 8) hX dL_village_8 ly_96 (zi_bg (fun g2 => ?_))
  refine zi_goto (pc := 9) 15 hX dL_village_9 (by decide) ?_
  refine zi_iconst (pc := 15) (v := 0) hX dL_village_15 (by decide) ?_
  exact zi_ret (pc := 16) hX dL_village_16 rfl rfl rfl rfl)
theorem tm_1004 : Cond.methodLink RL 15 yX9_count ∈ et_tb := et_mt 1004 (by decide +kernel) rfl
theorem dL_count_0 : decode cL_count 0 = .ok (.aload_n 2, 1) := by decide +kernel
theorem dL_count_1 : decode cL_count 1 = .ok (.iconst 0, 1) := by decide +kernel
theorem dL_count_2 : decode cL_count 2 = .ok (.aload_n 0, 1) := by decide +kernel
theorem dL_count_3 : decode cL_count 3 = .ok (.iload_n 1, 1) := by decide +kernel
theorem dL_count_4 : decode cL_count 4 = .ok (.invokevirtual 15, 3) := by decide +kernel
theorem dL_count_7 : decode cL_count 7 = .ok (.i2l, 1) := by decide +kernel
theorem dL_count_8 : decode cL_count 8 = .ok (.lastore, 1) := by decide +kernel
theorem dL_count_9 : decode cL_count 9 = .ok (.goto 6, 3) := by decide +kernel
theorem dL_count_12 : decode cL_count 12 = .ok (.astore_n 3, 1) := by decide +kernel
theorem dL_count_13 : decode cL_count 13 = .ok (.iconst 1, 1) := by decide +kernel
theorem dL_count_14 : decode cL_count 14 = .ok (.ireturn, 1) := by decide +kernel
theorem dL_count_15 : decode cL_count 15 = .ok (.iconst 0, 1) := by decide +kernel
theorem dL_count_16 : decode cL_count 16 = .ok (.ireturn, 1) := by decide +kernel
def rm_La_count : Room := { frames := 7, cells := 1, slots := 6, locals := 102 }
def fn_La_count (p1 : Int32) (g : et_G) : Option (Int32 × et_G) := et_bc (fn_Et_count p1 g) (fun x g1 => et_ck (et_ib (0 : Int32) 1) (et_b (et_sl g1 96 (0 : Int32).toNatClampNeg x.toInt64) (fun g2 => some ((0 : Int32), g2)))) (fun k g3 => if k = 0 then some ((1 : Int32), g3) else none)
theorem ht_La_count_0 : et_Ht RL (tableOf [(0, 9, 12, 18)]) 4 0 12 := ⟨[], ⟨0, 9, 12, 18⟩, [], rfl, by decide, by decide, rfl, tl_18, tk_0, fun z hz => by cases hz⟩
theorem ct_La_count {w : et_W} (hw : et_Sane w) (p1 : Int32) (g : et_G) : et_C w yL_count (Cond.codeWith yL_count cL_count 4 (some .int) [(0, 9, 12, 18)]) rm_La_count et_eI [.ref (et_ad w 0), .int p1, .ref (et_ad w 96)] g (fn_La_count p1 g) := et_mkH (lv0 := [some (.ref (et_ad w 0)), some (.int p1), some (.ref (et_ad w 96)), none]) hw (by decide) rfl rfl (fun X hX => by
  unfold fn_La_count
  refine zi_aload2 (pc := 0) hX dL_count_0 ?_
  refine zi_iconst (pc := 1) (v := 0) hX dL_count_1 (by decide) ?_
  refine zi_aload0 (pc := 2) hX dL_count_2 ?_
  refine zi_iload1 (pc := 3) hX dL_count_3 ?_
  refine zi_callC hX (zc_virt (As := [.int p1]) (pc := 4) hX dL_count_4 tm_1004 md_X9_count mi_X9_count ly_0 (ct_Et_count hX.sane p1 g) rfl rfl rfl) (zi_hd1 ht_La_count_0 (fun q g3 => by
    refine zi_astore3 (pc := 12) hX dL_count_12 rfl rfl ?_
    refine zi_iconst (pc := 13) (v := 1) hX dL_count_13 (by decide) ?_
    exact zi_ret (pc := 14) hX dL_count_14 rfl rfl rfl rfl)) (fun x g1 => ?_)
  refine zi_i2l (pc := 7) hX dL_count_7 ?_
  refine zi_last (pc := 8) hX dL_count_8 ly_96 (zi_bg (fun g2 => ?_))
  refine zi_goto (pc := 9) 15 hX dL_count_9 (by decide) ?_
  refine zi_iconst (pc := 15) (v := 0) hX dL_count_15 (by decide) ?_
  exact zi_ret (pc := 16) hX dL_count_16 rfl rfl rfl rfl)
theorem tm_1027 : Cond.methodLink RL 20 yX9_where ∈ et_tb := et_mt 1027 (by decide +kernel) rfl
theorem dL_where_0 : decode cL_where 0 = .ok (.aload_n 3, 1) := by decide +kernel
theorem dL_where_1 : decode cL_where 1 = .ok (.iconst 0, 1) := by decide +kernel
theorem dL_where_2 : decode cL_where 2 = .ok (.aload_n 0, 1) := by decide +kernel
theorem dL_where_3 : decode cL_where 3 = .ok (.iload_n 1, 1) := by decide +kernel
theorem dL_where_4 : decode cL_where 4 = .ok (.iload_n 2, 1) := by decide +kernel
theorem dL_where_5 : decode cL_where 5 = .ok (.invokevirtual 20, 3) := by decide +kernel
theorem dL_where_8 : decode cL_where 8 = .ok (.i2l, 1) := by decide +kernel
theorem dL_where_9 : decode cL_where 9 = .ok (.lastore, 1) := by decide +kernel
theorem dL_where_10 : decode cL_where 10 = .ok (.goto 7, 3) := by decide +kernel
theorem dL_where_13 : decode cL_where 13 = .ok (.astore 4, 2) := by decide +kernel
theorem dL_where_15 : decode cL_where 15 = .ok (.iconst 1, 1) := by decide +kernel
theorem dL_where_16 : decode cL_where 16 = .ok (.ireturn, 1) := by decide +kernel
theorem dL_where_17 : decode cL_where 17 = .ok (.iconst 0, 1) := by decide +kernel
theorem dL_where_18 : decode cL_where 18 = .ok (.ireturn, 1) := by decide +kernel
def rm_La_where : Room := { frames := 8, cells := 2, slots := 12, locals := 124 }
def fn_La_where (p1 : Int32) (p2 : Int32) (g : et_G) : Option (Int32 × et_G) := et_bc (fn_Et_where p1 p2 g) (fun x g1 => et_ck (et_ib (0 : Int32) 1) (et_b (et_sl g1 96 (0 : Int32).toNatClampNeg x.toInt64) (fun g2 => some ((0 : Int32), g2)))) (fun k g3 => if k = 0 then some ((1 : Int32), g3) else none)
theorem ht_La_where_0 : et_Ht RL (tableOf [(0, 10, 13, 18)]) 5 0 13 := ⟨[], ⟨0, 10, 13, 18⟩, [], rfl, by decide, by decide, rfl, tl_18, tk_0, fun z hz => by cases hz⟩
theorem ct_La_where {w : et_W} (hw : et_Sane w) (p1 : Int32) (p2 : Int32) (g : et_G) : et_C w yL_where (Cond.codeWith yL_where cL_where 5 (some .int) [(0, 10, 13, 18)]) rm_La_where et_eI [.ref (et_ad w 0), .int p1, .int p2, .ref (et_ad w 96)] g (fn_La_where p1 p2 g) := et_mkH (lv0 := [some (.ref (et_ad w 0)), some (.int p1), some (.int p2), some (.ref (et_ad w 96)), none]) hw (by decide) rfl rfl (fun X hX => by
  unfold fn_La_where
  refine zi_aload3 (pc := 0) hX dL_where_0 ?_
  refine zi_iconst (pc := 1) (v := 0) hX dL_where_1 (by decide) ?_
  refine zi_aload0 (pc := 2) hX dL_where_2 ?_
  refine zi_iload1 (pc := 3) hX dL_where_3 ?_
  refine zi_iload2 (pc := 4) hX dL_where_4 ?_
  refine zi_callC hX (zc_virt (As := [.int p1, .int p2]) (pc := 5) hX dL_where_5 tm_1027 md_X9_where mi_X9_where ly_0 (ct_Et_where hX.sane p1 p2 g) rfl rfl rfl) (zi_hd1 ht_La_where_0 (fun q g3 => by
    refine zi_astore4 (pc := 13) hX dL_where_13 rfl rfl ?_
    refine zi_iconst (pc := 15) (v := 1) hX dL_where_15 (by decide) ?_
    exact zi_ret (pc := 16) hX dL_where_16 rfl rfl rfl rfl)) (fun x g1 => ?_)
  refine zi_i2l (pc := 8) hX dL_where_8 ?_
  refine zi_last (pc := 9) hX dL_where_9 ly_96 (zi_bg (fun g2 => ?_))
  refine zi_goto (pc := 10) 17 hX dL_where_10 (by decide) ?_
  refine zi_iconst (pc := 17) (v := 0) hX dL_where_17 (by decide) ?_
  exact zi_ret (pc := 18) hX dL_where_18 rfl rfl rfl rfl)
theorem tm_1050 : Cond.methodLink RL 24 yX9_thing ∈ et_tb := et_mt 1050 (by decide +kernel) rfl
theorem dL_thing_0 : decode cL_thing 0 = .ok (.aload_n 3, 1) := by decide +kernel
theorem dL_thing_1 : decode cL_thing 1 = .ok (.iconst 0, 1) := by decide +kernel
theorem dL_thing_2 : decode cL_thing 2 = .ok (.aload_n 0, 1) := by decide +kernel
theorem dL_thing_3 : decode cL_thing 3 = .ok (.iload_n 1, 1) := by decide +kernel
theorem dL_thing_4 : decode cL_thing 4 = .ok (.iload_n 2, 1) := by decide +kernel
theorem dL_thing_5 : decode cL_thing 5 = .ok (.invokevirtual 24, 3) := by decide +kernel
theorem dL_thing_8 : decode cL_thing 8 = .ok (.i2l, 1) := by decide +kernel
theorem dL_thing_9 : decode cL_thing 9 = .ok (.lastore, 1) := by decide +kernel
theorem dL_thing_10 : decode cL_thing 10 = .ok (.goto 7, 3) := by decide +kernel
theorem dL_thing_13 : decode cL_thing 13 = .ok (.astore 4, 2) := by decide +kernel
theorem dL_thing_15 : decode cL_thing 15 = .ok (.iconst 1, 1) := by decide +kernel
theorem dL_thing_16 : decode cL_thing 16 = .ok (.ireturn, 1) := by decide +kernel
theorem dL_thing_17 : decode cL_thing 17 = .ok (.iconst 0, 1) := by decide +kernel
theorem dL_thing_18 : decode cL_thing 18 = .ok (.ireturn, 1) := by decide +kernel
def rm_La_thing : Room := { frames := 8, cells := 2, slots := 12, locals := 124 }
def fn_La_thing (p1 : Int32) (p2 : Int32) (g : et_G) : Option (Int32 × et_G) := et_bc (fn_Et_thing p1 p2 g) (fun x g1 => et_ck (et_ib (0 : Int32) 1) (et_b (et_sl g1 96 (0 : Int32).toNatClampNeg x.toInt64) (fun g2 => some ((0 : Int32), g2)))) (fun k g3 => if k = 0 then some ((1 : Int32), g3) else none)
theorem ht_La_thing_0 : et_Ht RL (tableOf [(0, 10, 13, 18)]) 5 0 13 := ⟨[], ⟨0, 10, 13, 18⟩, [], rfl, by decide, by decide, rfl, tl_18, tk_0, fun z hz => by cases hz⟩
theorem ct_La_thing {w : et_W} (hw : et_Sane w) (p1 : Int32) (p2 : Int32) (g : et_G) : et_C w yL_thing (Cond.codeWith yL_thing cL_thing 5 (some .int) [(0, 10, 13, 18)]) rm_La_thing et_eI [.ref (et_ad w 0), .int p1, .int p2, .ref (et_ad w 96)] g (fn_La_thing p1 p2 g) := et_mkH (lv0 := [some (.ref (et_ad w 0)), some (.int p1), some (.int p2), some (.ref (et_ad w 96)), none]) hw (by decide) rfl rfl (fun X hX => by
  unfold fn_La_thing
  refine zi_aload3 (pc := 0) hX dL_thing_0 ?_
  refine zi_iconst (pc := 1) (v := 0) hX dL_thing_1 (by decide) ?_
  refine zi_aload0 (pc := 2) hX dL_thing_2 ?_
  refine zi_iload1 (pc := 3) hX dL_thing_3 ?_
  refine zi_iload2 (pc := 4) hX dL_thing_4 ?_
  refine zi_callC hX (zc_virt (As := [.int p1, .int p2]) (pc := 5) hX dL_thing_5 tm_1050 md_X9_thing mi_X9_thing ly_0 (ct_Et_thing hX.sane p1 p2 g) rfl rfl rfl) (zi_hd1 ht_La_thing_0 (fun q g3 => by
    refine zi_astore4 (pc := 13) hX dL_thing_13 rfl rfl ?_
    refine zi_iconst (pc := 15) (v := 1) hX dL_thing_15 (by decide) ?_
    exact zi_ret (pc := 16) hX dL_thing_16 rfl rfl rfl rfl)) (fun x g1 => ?_)
  refine zi_i2l (pc := 8) hX dL_thing_8 ?_
  refine zi_last (pc := 9) hX dL_thing_9 ly_96 (zi_bg (fun g2 => ?_))
  refine zi_goto (pc := 10) 17 hX dL_thing_10 (by decide) ?_
  refine zi_iconst (pc := 17) (v := 0) hX dL_thing_17 (by decide) ?_
  exact zi_ret (pc := 18) hX dL_thing_18 rfl rfl rfl rfl)
theorem tm_1066 : Cond.methodLink RL 27 yX9_word ∈ et_tb := et_mt 1066 (by decide +kernel) rfl
theorem dL_word_0 : decode cL_word 0 = .ok (.aload 5, 2) := by decide +kernel
theorem dL_word_2 : decode cL_word 2 = .ok (.iconst 0, 1) := by decide +kernel
theorem dL_word_3 : decode cL_word 3 = .ok (.aload_n 0, 1) := by decide +kernel
theorem dL_word_4 : decode cL_word 4 = .ok (.iload_n 1, 1) := by decide +kernel
theorem dL_word_5 : decode cL_word 5 = .ok (.iload_n 2, 1) := by decide +kernel
theorem dL_word_6 : decode cL_word 6 = .ok (.iload_n 3, 1) := by decide +kernel
theorem dL_word_7 : decode cL_word 7 = .ok (.iload 4, 2) := by decide +kernel
theorem dL_word_9 : decode cL_word 9 = .ok (.invokevirtual 27, 3) := by decide +kernel
theorem dL_word_12 : decode cL_word 12 = .ok (.i2l, 1) := by decide +kernel
theorem dL_word_13 : decode cL_word 13 = .ok (.lastore, 1) := by decide +kernel
theorem dL_word_14 : decode cL_word 14 = .ok (.goto 7, 3) := by decide +kernel
theorem dL_word_17 : decode cL_word 17 = .ok (.astore 6, 2) := by decide +kernel
theorem dL_word_19 : decode cL_word 19 = .ok (.iconst 1, 1) := by decide +kernel
theorem dL_word_20 : decode cL_word 20 = .ok (.ireturn, 1) := by decide +kernel
theorem dL_word_21 : decode cL_word 21 = .ok (.iconst 0, 1) := by decide +kernel
theorem dL_word_22 : decode cL_word 22 = .ok (.ireturn, 1) := by decide +kernel
def rm_La_word : Room := { frames := 7, cells := 1, slots := 6, locals := 124 }
def fn_La_word (p1 : Int32) (p2 : Int32) (p3 : Int32) (p4 : Int32) (g : et_G) : Option (Int32 × et_G) := et_bc (fn_Et_word p1 p2 p3 p4 g) (fun x g1 => et_ck (et_ib (0 : Int32) 1) (et_b (et_sl g1 96 (0 : Int32).toNatClampNeg x.toInt64) (fun g2 => some ((0 : Int32), g2)))) (fun k g3 => if k = 0 then some ((1 : Int32), g3) else none)
theorem ht_La_word_0 : et_Ht RL (tableOf [(0, 14, 17, 18)]) 9 0 17 := ⟨[], ⟨0, 14, 17, 18⟩, [], rfl, by decide, by decide, rfl, tl_18, tk_0, fun z hz => by cases hz⟩
theorem ct_La_word {w : et_W} (hw : et_Sane w) (p1 : Int32) (p2 : Int32) (p3 : Int32) (p4 : Int32) (g : et_G) : et_C w yL_word (Cond.codeWith yL_word cL_word 7 (some .int) [(0, 14, 17, 18)]) rm_La_word et_eI [.ref (et_ad w 0), .int p1, .int p2, .int p3, .int p4, .ref (et_ad w 96)] g (fn_La_word p1 p2 p3 p4 g) := et_mkH (lv0 := [some (.ref (et_ad w 0)), some (.int p1), some (.int p2), some (.int p3), some (.int p4), some (.ref (et_ad w 96)), none]) hw (by decide) rfl rfl (fun X hX => by
  unfold fn_La_word
  refine zi_aload5 (pc := 0) hX dL_word_0 ?_
  refine zi_iconst (pc := 2) (v := 0) hX dL_word_2 (by decide) ?_
  refine zi_aload0 (pc := 3) hX dL_word_3 ?_
  refine zi_iload1 (pc := 4) hX dL_word_4 ?_
  refine zi_iload2 (pc := 5) hX dL_word_5 ?_
  refine zi_iload3 (pc := 6) hX dL_word_6 ?_
  refine zi_iload4 (pc := 7) hX dL_word_7 ?_
  refine zi_callC hX (zc_virt (As := [.int p1, .int p2, .int p3, .int p4]) (pc := 9) hX dL_word_9 tm_1066 md_X9_word mi_X9_word ly_0 (ct_Et_word hX.sane p1 p2 p3 p4 g) rfl rfl rfl) (zi_hd1 ht_La_word_0 (fun q g3 => by
    refine zi_astore6 (pc := 17) hX dL_word_17 rfl rfl ?_
    refine zi_iconst (pc := 19) (v := 1) hX dL_word_19 (by decide) ?_
    exact zi_ret (pc := 20) hX dL_word_20 rfl rfl rfl rfl)) (fun x g1 => ?_)
  refine zi_i2l (pc := 12) hX dL_word_12 ?_
  refine zi_last (pc := 13) hX dL_word_13 ly_96 (zi_bg (fun g2 => ?_))
  refine zi_goto (pc := 14) 21 hX dL_word_14 (by decide) ?_
  refine zi_iconst (pc := 21) (v := 0) hX dL_word_21 (by decide) ?_
  exact zi_ret (pc := 22) hX dL_word_22 rfl rfl rfl rfl)
theorem tm_1097 : Cond.methodLink RL 31 yX9_apart ∈ et_tb := et_mt 1097 (by decide +kernel) rfl
theorem dL_apart_0 : decode cL_apart 0 = .ok (.aload_n 2, 1) := by decide +kernel
theorem dL_apart_1 : decode cL_apart 1 = .ok (.iconst 0, 1) := by decide +kernel
theorem dL_apart_2 : decode cL_apart 2 = .ok (.aload_n 0, 1) := by decide +kernel
theorem dL_apart_3 : decode cL_apart 3 = .ok (.iload_n 1, 1) := by decide +kernel
theorem dL_apart_4 : decode cL_apart 4 = .ok (.invokevirtual 31, 3) := by decide +kernel
theorem dL_apart_7 : decode cL_apart 7 = .ok (.i2l, 1) := by decide +kernel
theorem dL_apart_8 : decode cL_apart 8 = .ok (.lastore, 1) := by decide +kernel
theorem dL_apart_9 : decode cL_apart 9 = .ok (.goto 6, 3) := by decide +kernel
theorem dL_apart_12 : decode cL_apart 12 = .ok (.astore_n 3, 1) := by decide +kernel
theorem dL_apart_13 : decode cL_apart 13 = .ok (.iconst 1, 1) := by decide +kernel
theorem dL_apart_14 : decode cL_apart 14 = .ok (.ireturn, 1) := by decide +kernel
theorem dL_apart_15 : decode cL_apart 15 = .ok (.iconst 0, 1) := by decide +kernel
theorem dL_apart_16 : decode cL_apart 16 = .ok (.ireturn, 1) := by decide +kernel
def rm_La_apart : Room := { frames := 8, cells := 1, slots := 6, locals := 146 }
def fn_La_apart (p1 : Int32) (g : et_G) : Option (Int32 × et_G) := et_bc (fn_Et_apart p1 g) (fun x g1 => et_ck (et_ib (0 : Int32) 1) (et_b (et_sl g1 96 (0 : Int32).toNatClampNeg x.toInt64) (fun g2 => some ((0 : Int32), g2)))) (fun k g3 => if k = 1 then some ((1 : Int32), g3) else none)
theorem ht_La_apart_1 : et_Ht RL (tableOf [(0, 9, 12, 13)]) 4 1 12 := ⟨[], ⟨0, 9, 12, 13⟩, [], rfl, by decide, by decide, rfl, tl_13, tk_1, fun z hz => by cases hz⟩
theorem ct_La_apart {w : et_W} (hw : et_Sane w) (p1 : Int32) (g : et_G) : et_C w yL_apart (Cond.codeWith yL_apart cL_apart 4 (some .int) [(0, 9, 12, 13)]) rm_La_apart et_eI [.ref (et_ad w 0), .int p1, .ref (et_ad w 96)] g (fn_La_apart p1 g) := et_mkH (lv0 := [some (.ref (et_ad w 0)), some (.int p1), some (.ref (et_ad w 96)), none]) hw (by decide) rfl rfl (fun X hX => by
  unfold fn_La_apart
  refine zi_aload2 (pc := 0) hX dL_apart_0 ?_
  refine zi_iconst (pc := 1) (v := 0) hX dL_apart_1 (by decide) ?_
  refine zi_aload0 (pc := 2) hX dL_apart_2 ?_
  refine zi_iload1 (pc := 3) hX dL_apart_3 ?_
  refine zi_callC hX (zc_virt (As := [.int p1]) (pc := 4) hX dL_apart_4 tm_1097 md_X9_apart mi_X9_apart ly_0 (ct_Et_apart hX.sane p1 g) rfl rfl rfl) (zi_hd1 ht_La_apart_1 (fun q g3 => by
    refine zi_astore3 (pc := 12) hX dL_apart_12 rfl rfl ?_
    refine zi_iconst (pc := 13) (v := 1) hX dL_apart_13 (by decide) ?_
    exact zi_ret (pc := 14) hX dL_apart_14 rfl rfl rfl rfl)) (fun x g1 => ?_)
  refine zi_i2l (pc := 7) hX dL_apart_7 ?_
  refine zi_last (pc := 8) hX dL_apart_8 ly_96 (zi_bg (fun g2 => ?_))
  refine zi_goto (pc := 9) 15 hX dL_apart_9 (by decide) ?_
  refine zi_iconst (pc := 15) (v := 0) hX dL_apart_15 (by decide) ?_
  exact zi_ret (pc := 16) hX dL_apart_16 rfl rfl rfl rfl)
theorem tm_1117 : Cond.methodLink RL 34 yX9_way ∈ et_tb := et_mt 1117 (by decide +kernel) rfl
theorem dL_way_0 : decode cL_way 0 = .ok (.aload_n 2, 1) := by decide +kernel
theorem dL_way_1 : decode cL_way 1 = .ok (.iconst 0, 1) := by decide +kernel
theorem dL_way_2 : decode cL_way 2 = .ok (.aload_n 0, 1) := by decide +kernel
theorem dL_way_3 : decode cL_way 3 = .ok (.iload_n 1, 1) := by decide +kernel
theorem dL_way_4 : decode cL_way 4 = .ok (.invokevirtual 34, 3) := by decide +kernel
theorem dL_way_7 : decode cL_way 7 = .ok (.i2l, 1) := by decide +kernel
theorem dL_way_8 : decode cL_way 8 = .ok (.lastore, 1) := by decide +kernel
theorem dL_way_9 : decode cL_way 9 = .ok (.goto 6, 3) := by decide +kernel
theorem dL_way_12 : decode cL_way 12 = .ok (.astore_n 3, 1) := by decide +kernel
theorem dL_way_13 : decode cL_way 13 = .ok (.iconst 1, 1) := by decide +kernel
theorem dL_way_14 : decode cL_way 14 = .ok (.ireturn, 1) := by decide +kernel
theorem dL_way_15 : decode cL_way 15 = .ok (.iconst 0, 1) := by decide +kernel
theorem dL_way_16 : decode cL_way 16 = .ok (.ireturn, 1) := by decide +kernel
def rm_La_way : Room := { frames := 7, cells := 1, slots := 6, locals := 102 }
def fn_La_way (p1 : Int32) (g : et_G) : Option (Int32 × et_G) := et_bc (fn_Et_way p1 g) (fun x g1 => et_ck (et_ib (0 : Int32) 1) (et_b (et_sl g1 96 (0 : Int32).toNatClampNeg x.toInt64) (fun g2 => some ((0 : Int32), g2)))) (fun k g3 => if k = 0 then some ((1 : Int32), g3) else none)
theorem ht_La_way_0 : et_Ht RL (tableOf [(0, 9, 12, 18)]) 4 0 12 := ⟨[], ⟨0, 9, 12, 18⟩, [], rfl, by decide, by decide, rfl, tl_18, tk_0, fun z hz => by cases hz⟩
theorem ct_La_way {w : et_W} (hw : et_Sane w) (p1 : Int32) (g : et_G) : et_C w yL_way (Cond.codeWith yL_way cL_way 4 (some .int) [(0, 9, 12, 18)]) rm_La_way et_eI [.ref (et_ad w 0), .int p1, .ref (et_ad w 96)] g (fn_La_way p1 g) := et_mkH (lv0 := [some (.ref (et_ad w 0)), some (.int p1), some (.ref (et_ad w 96)), none]) hw (by decide) rfl rfl (fun X hX => by
  unfold fn_La_way
  refine zi_aload2 (pc := 0) hX dL_way_0 ?_
  refine zi_iconst (pc := 1) (v := 0) hX dL_way_1 (by decide) ?_
  refine zi_aload0 (pc := 2) hX dL_way_2 ?_
  refine zi_iload1 (pc := 3) hX dL_way_3 ?_
  refine zi_callC hX (zc_virt (As := [.int p1]) (pc := 4) hX dL_way_4 tm_1117 md_X9_way mi_X9_way ly_0 (ct_Et_way hX.sane p1 g) rfl rfl rfl) (zi_hd1 ht_La_way_0 (fun q g3 => by
    refine zi_astore3 (pc := 12) hX dL_way_12 rfl rfl ?_
    refine zi_iconst (pc := 13) (v := 1) hX dL_way_13 (by decide) ?_
    exact zi_ret (pc := 14) hX dL_way_14 rfl rfl rfl rfl)) (fun x g1 => ?_)
  refine zi_i2l (pc := 7) hX dL_way_7 ?_
  refine zi_last (pc := 8) hX dL_way_8 ly_96 (zi_bg (fun g2 => ?_))
  refine zi_goto (pc := 9) 15 hX dL_way_9 (by decide) ?_
  refine zi_iconst (pc := 15) (v := 0) hX dL_way_15 (by decide) ?_
  exact zi_ret (pc := 16) hX dL_way_16 rfl rfl rfl rfl)
theorem tm_1124 : Cond.methodLink RL 37 yX9_say ∈ et_tb := et_mt 1124 (by decide +kernel) rfl
theorem dL_say_0 : decode cL_say 0 = .ok (.aload 6, 2) := by decide +kernel
theorem dL_say_2 : decode cL_say 2 = .ok (.iconst 0, 1) := by decide +kernel
theorem dL_say_3 : decode cL_say 3 = .ok (.aload_n 0, 1) := by decide +kernel
theorem dL_say_4 : decode cL_say 4 = .ok (.iload_n 1, 1) := by decide +kernel
theorem dL_say_5 : decode cL_say 5 = .ok (.iload_n 2, 1) := by decide +kernel
theorem dL_say_6 : decode cL_say 6 = .ok (.iload_n 3, 1) := by decide +kernel
theorem dL_say_7 : decode cL_say 7 = .ok (.iload 4, 2) := by decide +kernel
theorem dL_say_9 : decode cL_say 9 = .ok (.iload 5, 2) := by decide +kernel
theorem dL_say_11 : decode cL_say 11 = .ok (.invokevirtual 37, 3) := by decide +kernel
theorem dL_say_14 : decode cL_say 14 = .ok (.i2l, 1) := by decide +kernel
theorem dL_say_15 : decode cL_say 15 = .ok (.lastore, 1) := by decide +kernel
theorem dL_say_16 : decode cL_say 16 = .ok (.goto 7, 3) := by decide +kernel
theorem dL_say_19 : decode cL_say 19 = .ok (.astore 7, 2) := by decide +kernel
theorem dL_say_21 : decode cL_say 21 = .ok (.iconst 1, 1) := by decide +kernel
theorem dL_say_22 : decode cL_say 22 = .ok (.ireturn, 1) := by decide +kernel
theorem dL_say_23 : decode cL_say 23 = .ok (.iconst 0, 1) := by decide +kernel
theorem dL_say_24 : decode cL_say 24 = .ok (.ireturn, 1) := by decide +kernel
def rm_La_say : Room := { frames := 8, cells := 3, slots := 18, locals := 127 }
def fn_La_say (p1 : Int32) (p2 : Int32) (p3 : Int32) (p4 : Int32) (p5 : Int32) (g : et_G) : Option (Int32 × et_G) := et_bc (fn_Et_say p1 p2 p3 p4 p5 g) (fun x g1 => et_ck (et_ib (0 : Int32) 1) (et_b (et_sl g1 96 (0 : Int32).toNatClampNeg x.toInt64) (fun g2 => some ((0 : Int32), g2)))) (fun k g3 => if k = 0 then some ((1 : Int32), g3) else none)
theorem ht_La_say_0 : et_Ht RL (tableOf [(0, 16, 19, 18)]) 11 0 19 := ⟨[], ⟨0, 16, 19, 18⟩, [], rfl, by decide, by decide, rfl, tl_18, tk_0, fun z hz => by cases hz⟩
theorem ct_La_say {w : et_W} (hw : et_Sane w) (p1 : Int32) (p2 : Int32) (p3 : Int32) (p4 : Int32) (p5 : Int32) (g : et_G) : et_C w yL_say (Cond.codeWith yL_say cL_say 8 (some .int) [(0, 16, 19, 18)]) rm_La_say et_eI [.ref (et_ad w 0), .int p1, .int p2, .int p3, .int p4, .int p5, .ref (et_ad w 96)] g (fn_La_say p1 p2 p3 p4 p5 g) := et_mkH (lv0 := [some (.ref (et_ad w 0)), some (.int p1), some (.int p2), some (.int p3), some (.int p4), some (.int p5), some (.ref (et_ad w 96)), none]) hw (by decide) rfl rfl (fun X hX => by
  unfold fn_La_say
  refine zi_aload6 (pc := 0) hX dL_say_0 ?_
  refine zi_iconst (pc := 2) (v := 0) hX dL_say_2 (by decide) ?_
  refine zi_aload0 (pc := 3) hX dL_say_3 ?_
  refine zi_iload1 (pc := 4) hX dL_say_4 ?_
  refine zi_iload2 (pc := 5) hX dL_say_5 ?_
  refine zi_iload3 (pc := 6) hX dL_say_6 ?_
  refine zi_iload4 (pc := 7) hX dL_say_7 ?_
  refine zi_iload5 (pc := 9) hX dL_say_9 ?_
  refine zi_callC hX (zc_virt (As := [.int p1, .int p2, .int p3, .int p4, .int p5]) (pc := 11) hX dL_say_11 tm_1124 md_X9_say mi_X9_say ly_0 (ct_Et_say hX.sane p1 p2 p3 p4 p5 g) rfl rfl rfl) (zi_hd1 ht_La_say_0 (fun q g3 => by
    refine zi_astore7 (pc := 19) hX dL_say_19 rfl rfl ?_
    refine zi_iconst (pc := 21) (v := 1) hX dL_say_21 (by decide) ?_
    exact zi_ret (pc := 22) hX dL_say_22 rfl rfl rfl rfl)) (fun x g1 => ?_)
  refine zi_i2l (pc := 14) hX dL_say_14 ?_
  refine zi_last (pc := 15) hX dL_say_15 ly_96 (zi_bg (fun g2 => ?_))
  refine zi_goto (pc := 16) 23 hX dL_say_16 (by decide) ?_
  refine zi_iconst (pc := 23) (v := 0) hX dL_say_23 (by decide) ?_
  exact zi_ret (pc := 24) hX dL_say_24 rfl rfl rfl rfl)
theorem tm_1135 : Cond.methodLink RL 41 yX9_utter ∈ et_tb := et_mt 1135 (by decide +kernel) rfl
theorem dL_utter_0 : decode cL_utter 0 = .ok (.aload 4, 2) := by decide +kernel
theorem dL_utter_2 : decode cL_utter 2 = .ok (.iconst 0, 1) := by decide +kernel
theorem dL_utter_3 : decode cL_utter 3 = .ok (.aload_n 0, 1) := by decide +kernel
theorem dL_utter_4 : decode cL_utter 4 = .ok (.iload_n 1, 1) := by decide +kernel
theorem dL_utter_5 : decode cL_utter 5 = .ok (.iload_n 2, 1) := by decide +kernel
theorem dL_utter_6 : decode cL_utter 6 = .ok (.iload_n 3, 1) := by decide +kernel
theorem dL_utter_7 : decode cL_utter 7 = .ok (.invokevirtual 41, 3) := by decide +kernel
theorem dL_utter_10 : decode cL_utter 10 = .ok (.i2l, 1) := by decide +kernel
theorem dL_utter_11 : decode cL_utter 11 = .ok (.lastore, 1) := by decide +kernel
theorem dL_utter_12 : decode cL_utter 12 = .ok (.goto 11, 3) := by decide +kernel
theorem dL_utter_15 : decode cL_utter 15 = .ok (.astore 5, 2) := by decide +kernel
theorem dL_utter_17 : decode cL_utter 17 = .ok (.iconst 1, 1) := by decide +kernel
theorem dL_utter_18 : decode cL_utter 18 = .ok (.ireturn, 1) := by decide +kernel
theorem dL_utter_19 : decode cL_utter 19 = .ok (.astore 5, 2) := by decide +kernel
theorem dL_utter_21 : decode cL_utter 21 = .ok (.iconst 2, 1) := by decide +kernel
theorem dL_utter_22 : decode cL_utter 22 = .ok (.ireturn, 1) := by decide +kernel
theorem dL_utter_23 : decode cL_utter 23 = .ok (.iconst 0, 1) := by decide +kernel
theorem dL_utter_24 : decode cL_utter 24 = .ok (.ireturn, 1) := by decide +kernel
def rm_La_utter : Room := { frames := 8, cells := 3, slots := 18, locals := 172 }
def fn_La_utter (p1 : Int32) (p2 : Int32) (p3 : Int32) (g : et_G) : Option (Int32 × et_G) := et_bc (fn_Et_utter p1 p2 p3 g) (fun x g1 => et_ck (et_ib (0 : Int32) 1) (et_b (et_sl g1 96 (0 : Int32).toNatClampNeg x.toInt64) (fun g2 => some ((0 : Int32), g2)))) (fun k g3 => if k = 0 then some ((1 : Int32), g3) else if k = 1 then some ((2 : Int32), g3) else none)
theorem ht_La_utter_0 : et_Ht RL (tableOf [(0, 12, 15, 18), (0, 12, 19, 13)]) 7 0 15 := ⟨[], ⟨0, 12, 15, 18⟩, [⟨0, 12, 19, 13⟩], rfl, by decide, by decide, rfl, tl_18, tk_0, fun z hz => by cases hz⟩
theorem ht_La_utter_1 : et_Ht RL (tableOf [(0, 12, 15, 18), (0, 12, 19, 13)]) 7 1 19 := ⟨[⟨0, 12, 15, 18⟩], ⟨0, 12, 19, 13⟩, [], rfl, by decide, by decide, rfl, tl_13, tk_1, fun z hz => by rw [List.mem_singleton.mp hz]; exact Or.inr ⟨rfl, by decide, tl_18⟩⟩
theorem ct_La_utter {w : et_W} (hw : et_Sane w) (p1 : Int32) (p2 : Int32) (p3 : Int32) (g : et_G) : et_C w yL_utter (Cond.codeWith yL_utter cL_utter 6 (some .int) [(0, 12, 15, 18), (0, 12, 19, 13)]) rm_La_utter et_eI [.ref (et_ad w 0), .int p1, .int p2, .int p3, .ref (et_ad w 96)] g (fn_La_utter p1 p2 p3 g) := et_mkH (lv0 := [some (.ref (et_ad w 0)), some (.int p1), some (.int p2), some (.int p3), some (.ref (et_ad w 96)), none]) hw (by decide) rfl rfl (fun X hX => by
  unfold fn_La_utter
  refine zi_aload4 (pc := 0) hX dL_utter_0 ?_
  refine zi_iconst (pc := 2) (v := 0) hX dL_utter_2 (by decide) ?_
  refine zi_aload0 (pc := 3) hX dL_utter_3 ?_
  refine zi_iload1 (pc := 4) hX dL_utter_4 ?_
  refine zi_iload2 (pc := 5) hX dL_utter_5 ?_
  refine zi_iload3 (pc := 6) hX dL_utter_6 ?_
  refine zi_callC hX (zc_virt (As := [.int p1, .int p2, .int p3]) (pc := 7) hX dL_utter_7 tm_1135 md_X9_utter mi_X9_utter ly_0 (ct_Et_utter hX.sane p1 p2 p3 g) rfl rfl rfl) (zi_hd2 ht_La_utter_0 ht_La_utter_1 (fun q g3 => by
    refine zi_astore5 (pc := 15) hX dL_utter_15 rfl rfl ?_
    refine zi_iconst (pc := 17) (v := 1) hX dL_utter_17 (by decide) ?_
    exact zi_ret (pc := 18) hX dL_utter_18 rfl rfl rfl rfl) (fun q g3 => by
    refine zi_astore5 (pc := 19) hX dL_utter_19 rfl rfl ?_
    refine zi_iconst (pc := 21) (v := 2) hX dL_utter_21 (by decide) ?_
    exact zi_ret (pc := 22) hX dL_utter_22 rfl rfl rfl rfl)) (fun x g1 => ?_)
  refine zi_i2l (pc := 10) hX dL_utter_10 ?_
  refine zi_last (pc := 11) hX dL_utter_11 ly_96 (zi_bg (fun g2 => ?_))
  refine zi_goto (pc := 12) 23 hX dL_utter_12 (by decide) ?_
  refine zi_iconst (pc := 23) (v := 0) hX dL_utter_23 (by decide) ?_
  exact zi_ret (pc := 24) hX dL_utter_24 rfl rfl rfl rfl)
theorem tm_1168 : Cond.methodLink RL 45 yX9_saying ∈ et_tb := et_mt 1168 (by decide +kernel) rfl
theorem dL_saying_0 : decode cL_saying 0 = .ok (.aload_n 3, 1) := by decide +kernel
theorem dL_saying_1 : decode cL_saying 1 = .ok (.iconst 0, 1) := by decide +kernel
theorem dL_saying_2 : decode cL_saying 2 = .ok (.aload_n 0, 1) := by decide +kernel
theorem dL_saying_3 : decode cL_saying 3 = .ok (.iload_n 1, 1) := by decide +kernel
theorem dL_saying_4 : decode cL_saying 4 = .ok (.iload_n 2, 1) := by decide +kernel
theorem dL_saying_5 : decode cL_saying 5 = .ok (.invokevirtual 45, 3) := by decide +kernel
theorem dL_saying_8 : decode cL_saying 8 = .ok (.i2l, 1) := by decide +kernel
theorem dL_saying_9 : decode cL_saying 9 = .ok (.lastore, 1) := by decide +kernel
theorem dL_saying_10 : decode cL_saying 10 = .ok (.goto 7, 3) := by decide +kernel
theorem dL_saying_13 : decode cL_saying 13 = .ok (.astore 4, 2) := by decide +kernel
theorem dL_saying_15 : decode cL_saying 15 = .ok (.iconst 1, 1) := by decide +kernel
theorem dL_saying_16 : decode cL_saying 16 = .ok (.ireturn, 1) := by decide +kernel
theorem dL_saying_17 : decode cL_saying 17 = .ok (.iconst 0, 1) := by decide +kernel
theorem dL_saying_18 : decode cL_saying 18 = .ok (.ireturn, 1) := by decide +kernel
def rm_La_saying : Room := { frames := 8, cells := 1, slots := 6, locals := 186 }
def fn_La_saying (p1 : Int32) (p2 : Int32) (g : et_G) : Option (Int32 × et_G) := et_bc (fn_Et_saying p1 p2 g) (fun x g1 => et_ck (et_ib (0 : Int32) 1) (et_b (et_sl g1 96 (0 : Int32).toNatClampNeg x.toInt64) (fun g2 => some ((0 : Int32), g2)))) (fun k g3 => if k = 0 then some ((1 : Int32), g3) else none)
theorem ht_La_saying_0 : et_Ht RL (tableOf [(0, 10, 13, 18)]) 5 0 13 := ⟨[], ⟨0, 10, 13, 18⟩, [], rfl, by decide, by decide, rfl, tl_18, tk_0, fun z hz => by cases hz⟩
theorem ct_La_saying {w : et_W} (hw : et_Sane w) (p1 : Int32) (p2 : Int32) (g : et_G) : et_C w yL_saying (Cond.codeWith yL_saying cL_saying 5 (some .int) [(0, 10, 13, 18)]) rm_La_saying et_eI [.ref (et_ad w 0), .int p1, .int p2, .ref (et_ad w 96)] g (fn_La_saying p1 p2 g) := et_mkH (lv0 := [some (.ref (et_ad w 0)), some (.int p1), some (.int p2), some (.ref (et_ad w 96)), none]) hw (by decide) rfl rfl (fun X hX => by
  unfold fn_La_saying
  refine zi_aload3 (pc := 0) hX dL_saying_0 ?_
  refine zi_iconst (pc := 1) (v := 0) hX dL_saying_1 (by decide) ?_
  refine zi_aload0 (pc := 2) hX dL_saying_2 ?_
  refine zi_iload1 (pc := 3) hX dL_saying_3 ?_
  refine zi_iload2 (pc := 4) hX dL_saying_4 ?_
  refine zi_callC hX (zc_virt (As := [.int p1, .int p2]) (pc := 5) hX dL_saying_5 tm_1168 md_X9_saying mi_X9_saying ly_0 (ct_Et_saying hX.sane p1 p2 g) rfl rfl rfl) (zi_hd1 ht_La_saying_0 (fun q g3 => by
    refine zi_astore4 (pc := 13) hX dL_saying_13 rfl rfl ?_
    refine zi_iconst (pc := 15) (v := 1) hX dL_saying_15 (by decide) ?_
    exact zi_ret (pc := 16) hX dL_saying_16 rfl rfl rfl rfl)) (fun x g1 => ?_)
  refine zi_i2l (pc := 8) hX dL_saying_8 ?_
  refine zi_last (pc := 9) hX dL_saying_9 ly_96 (zi_bg (fun g2 => ?_))
  refine zi_goto (pc := 10) 17 hX dL_saying_10 (by decide) ?_
  refine zi_iconst (pc := 17) (v := 0) hX dL_saying_17 (by decide) ?_
  exact zi_ret (pc := 18) hX dL_saying_18 rfl rfl rfl rfl)
theorem tm_1215 : Cond.methodLink RL 48 yX9_could ∈ et_tb := et_mt 1215 (by decide +kernel) rfl
theorem dL_could_0 : decode cL_could 0 = .ok (.aload 5, 2) := by decide +kernel
theorem dL_could_2 : decode cL_could 2 = .ok (.iconst 0, 1) := by decide +kernel
theorem dL_could_3 : decode cL_could 3 = .ok (.aload_n 0, 1) := by decide +kernel
theorem dL_could_4 : decode cL_could 4 = .ok (.iload_n 1, 1) := by decide +kernel
theorem dL_could_5 : decode cL_could 5 = .ok (.iload_n 2, 1) := by decide +kernel
theorem dL_could_6 : decode cL_could 6 = .ok (.iload_n 3, 1) := by decide +kernel
theorem dL_could_7 : decode cL_could 7 = .ok (.iload 4, 2) := by decide +kernel
theorem dL_could_9 : decode cL_could 9 = .ok (.invokevirtual 48, 3) := by decide +kernel
theorem dL_could_12 : decode cL_could 12 = .ok (.i2l, 1) := by decide +kernel
theorem dL_could_13 : decode cL_could 13 = .ok (.lastore, 1) := by decide +kernel
theorem dL_could_14 : decode cL_could 14 = .ok (.goto 7, 3) := by decide +kernel
theorem dL_could_17 : decode cL_could 17 = .ok (.astore 6, 2) := by decide +kernel
theorem dL_could_19 : decode cL_could 19 = .ok (.iconst 1, 1) := by decide +kernel
theorem dL_could_20 : decode cL_could 20 = .ok (.ireturn, 1) := by decide +kernel
theorem dL_could_21 : decode cL_could 21 = .ok (.iconst 0, 1) := by decide +kernel
theorem dL_could_22 : decode cL_could 22 = .ok (.ireturn, 1) := by decide +kernel
def rm_La_could : Room := { frames := 8, cells := 3, slots := 18, locals := 193 }
def fn_La_could (p1 : Int32) (p2 : Int32) (p3 : Int32) (p4 : Int32) (g : et_G) : Option (Int32 × et_G) := et_bc (fn_Et_could p1 p2 p3 p4 g) (fun x g1 => et_ck (et_ib (0 : Int32) 1) (et_b (et_sl g1 96 (0 : Int32).toNatClampNeg x.toInt64) (fun g2 => some ((0 : Int32), g2)))) (fun k g3 => if k = 0 then some ((1 : Int32), g3) else none)
theorem ht_La_could_0 : et_Ht RL (tableOf [(0, 14, 17, 18)]) 9 0 17 := ⟨[], ⟨0, 14, 17, 18⟩, [], rfl, by decide, by decide, rfl, tl_18, tk_0, fun z hz => by cases hz⟩
theorem ct_La_could {w : et_W} (hw : et_Sane w) (p1 : Int32) (p2 : Int32) (p3 : Int32) (p4 : Int32) (g : et_G) : et_C w yL_could (Cond.codeWith yL_could cL_could 7 (some .int) [(0, 14, 17, 18)]) rm_La_could et_eI [.ref (et_ad w 0), .int p1, .int p2, .int p3, .int p4, .ref (et_ad w 96)] g (fn_La_could p1 p2 p3 p4 g) := et_mkH (lv0 := [some (.ref (et_ad w 0)), some (.int p1), some (.int p2), some (.int p3), some (.int p4), some (.ref (et_ad w 96)), none]) hw (by decide) rfl rfl (fun X hX => by
  unfold fn_La_could
  refine zi_aload5 (pc := 0) hX dL_could_0 ?_
  refine zi_iconst (pc := 2) (v := 0) hX dL_could_2 (by decide) ?_
  refine zi_aload0 (pc := 3) hX dL_could_3 ?_
  refine zi_iload1 (pc := 4) hX dL_could_4 ?_
  refine zi_iload2 (pc := 5) hX dL_could_5 ?_
  refine zi_iload3 (pc := 6) hX dL_could_6 ?_
  refine zi_iload4 (pc := 7) hX dL_could_7 ?_
  refine zi_callC hX (zc_virt (As := [.int p1, .int p2, .int p3, .int p4]) (pc := 9) hX dL_could_9 tm_1215 md_X9_could mi_X9_could ly_0 (ct_Et_could hX.sane p1 p2 p3 p4 g) rfl rfl rfl) (zi_hd1 ht_La_could_0 (fun q g3 => by
    refine zi_astore6 (pc := 17) hX dL_could_17 rfl rfl ?_
    refine zi_iconst (pc := 19) (v := 1) hX dL_could_19 (by decide) ?_
    exact zi_ret (pc := 20) hX dL_could_20 rfl rfl rfl rfl)) (fun x g1 => ?_)
  refine zi_i2l (pc := 12) hX dL_could_12 ?_
  refine zi_last (pc := 13) hX dL_could_13 ly_96 (zi_bg (fun g2 => ?_))
  refine zi_goto (pc := 14) 21 hX dL_could_14 (by decide) ?_
  refine zi_iconst (pc := 21) (v := 0) hX dL_could_21 (by decide) ?_
  exact zi_ret (pc := 22) hX dL_could_22 rfl rfl rfl rfl)
theorem tm_1226 : Cond.methodLink RL 52 yX9_wrong ∈ et_tb := et_mt 1226 (by decide +kernel) rfl
theorem dL_wrong_0 : decode cL_wrong 0 = .ok (.aload_n 2, 1) := by decide +kernel
theorem dL_wrong_1 : decode cL_wrong 1 = .ok (.iconst 0, 1) := by decide +kernel
theorem dL_wrong_2 : decode cL_wrong 2 = .ok (.aload_n 0, 1) := by decide +kernel
theorem dL_wrong_3 : decode cL_wrong 3 = .ok (.iload_n 1, 1) := by decide +kernel
theorem dL_wrong_4 : decode cL_wrong 4 = .ok (.invokevirtual 52, 3) := by decide +kernel
theorem dL_wrong_7 : decode cL_wrong 7 = .ok (.i2l, 1) := by decide +kernel
theorem dL_wrong_8 : decode cL_wrong 8 = .ok (.lastore, 1) := by decide +kernel
theorem dL_wrong_9 : decode cL_wrong 9 = .ok (.goto 6, 3) := by decide +kernel
theorem dL_wrong_12 : decode cL_wrong 12 = .ok (.astore_n 3, 1) := by decide +kernel
theorem dL_wrong_13 : decode cL_wrong 13 = .ok (.iconst 1, 1) := by decide +kernel
theorem dL_wrong_14 : decode cL_wrong 14 = .ok (.ireturn, 1) := by decide +kernel
theorem dL_wrong_15 : decode cL_wrong 15 = .ok (.iconst 0, 1) := by decide +kernel
theorem dL_wrong_16 : decode cL_wrong 16 = .ok (.ireturn, 1) := by decide +kernel
def rm_La_wrong : Room := { frames := 8, cells := 1, slots := 6, locals := 186 }
def fn_La_wrong (p1 : Int32) (g : et_G) : Option (Int32 × et_G) := et_bc (fn_Et_wrong p1 g) (fun x g1 => et_ck (et_ib (0 : Int32) 1) (et_b (et_sl g1 96 (0 : Int32).toNatClampNeg x.toInt64) (fun g2 => some ((0 : Int32), g2)))) (fun k g3 => if k = 0 then some ((1 : Int32), g3) else none)
theorem ht_La_wrong_0 : et_Ht RL (tableOf [(0, 9, 12, 18)]) 4 0 12 := ⟨[], ⟨0, 9, 12, 18⟩, [], rfl, by decide, by decide, rfl, tl_18, tk_0, fun z hz => by cases hz⟩
theorem ct_La_wrong {w : et_W} (hw : et_Sane w) (p1 : Int32) (g : et_G) : et_C w yL_wrong (Cond.codeWith yL_wrong cL_wrong 4 (some .int) [(0, 9, 12, 18)]) rm_La_wrong et_eI [.ref (et_ad w 0), .int p1, .ref (et_ad w 96)] g (fn_La_wrong p1 g) := et_mkH (lv0 := [some (.ref (et_ad w 0)), some (.int p1), some (.ref (et_ad w 96)), none]) hw (by decide) rfl rfl (fun X hX => by
  unfold fn_La_wrong
  refine zi_aload2 (pc := 0) hX dL_wrong_0 ?_
  refine zi_iconst (pc := 1) (v := 0) hX dL_wrong_1 (by decide) ?_
  refine zi_aload0 (pc := 2) hX dL_wrong_2 ?_
  refine zi_iload1 (pc := 3) hX dL_wrong_3 ?_
  refine zi_callC hX (zc_virt (As := [.int p1]) (pc := 4) hX dL_wrong_4 tm_1226 md_X9_wrong mi_X9_wrong ly_0 (ct_Et_wrong hX.sane p1 g) rfl rfl rfl) (zi_hd1 ht_La_wrong_0 (fun q g3 => by
    refine zi_astore3 (pc := 12) hX dL_wrong_12 rfl rfl ?_
    refine zi_iconst (pc := 13) (v := 1) hX dL_wrong_13 (by decide) ?_
    exact zi_ret (pc := 14) hX dL_wrong_14 rfl rfl rfl rfl)) (fun x g1 => ?_)
  refine zi_i2l (pc := 7) hX dL_wrong_7 ?_
  refine zi_last (pc := 8) hX dL_wrong_8 ly_96 (zi_bg (fun g2 => ?_))
  refine zi_goto (pc := 9) 15 hX dL_wrong_9 (by decide) ?_
  refine zi_iconst (pc := 15) (v := 0) hX dL_wrong_15 (by decide) ?_
  exact zi_ret (pc := 16) hX dL_wrong_16 rfl rfl rfl rfl)
theorem tm_1242 : Cond.methodLink RL 55 yX9_mended ∈ et_tb := et_mt 1242 (by decide +kernel) rfl
theorem dL_mended_0 : decode cL_mended 0 = .ok (.aload_n 2, 1) := by decide +kernel
theorem dL_mended_1 : decode cL_mended 1 = .ok (.iconst 0, 1) := by decide +kernel
theorem dL_mended_2 : decode cL_mended 2 = .ok (.aload_n 0, 1) := by decide +kernel
theorem dL_mended_3 : decode cL_mended 3 = .ok (.iload_n 1, 1) := by decide +kernel
theorem dL_mended_4 : decode cL_mended 4 = .ok (.invokevirtual 55, 3) := by decide +kernel
theorem dL_mended_7 : decode cL_mended 7 = .ok (.i2l, 1) := by decide +kernel
theorem dL_mended_8 : decode cL_mended 8 = .ok (.lastore, 1) := by decide +kernel
theorem dL_mended_9 : decode cL_mended 9 = .ok (.goto 6, 3) := by decide +kernel
theorem dL_mended_12 : decode cL_mended 12 = .ok (.astore_n 3, 1) := by decide +kernel
theorem dL_mended_13 : decode cL_mended 13 = .ok (.iconst 1, 1) := by decide +kernel
theorem dL_mended_14 : decode cL_mended 14 = .ok (.ireturn, 1) := by decide +kernel
theorem dL_mended_15 : decode cL_mended 15 = .ok (.iconst 0, 1) := by decide +kernel
theorem dL_mended_16 : decode cL_mended 16 = .ok (.ireturn, 1) := by decide +kernel
def rm_La_mended : Room := { frames := 7, cells := 1, slots := 6, locals := 102 }
def fn_La_mended (p1 : Int32) (g : et_G) : Option (Int32 × et_G) := et_bc (fn_Et_mended p1 g) (fun x g1 => et_ck (et_ib (0 : Int32) 1) (et_b (et_sl g1 96 (0 : Int32).toNatClampNeg x.toInt64) (fun g2 => some ((0 : Int32), g2)))) (fun k g3 => if k = 0 then some ((1 : Int32), g3) else none)
theorem ht_La_mended_0 : et_Ht RL (tableOf [(0, 9, 12, 18)]) 4 0 12 := ⟨[], ⟨0, 9, 12, 18⟩, [], rfl, by decide, by decide, rfl, tl_18, tk_0, fun z hz => by cases hz⟩
theorem ct_La_mended {w : et_W} (hw : et_Sane w) (p1 : Int32) (g : et_G) : et_C w yL_mended (Cond.codeWith yL_mended cL_mended 4 (some .int) [(0, 9, 12, 18)]) rm_La_mended et_eI [.ref (et_ad w 0), .int p1, .ref (et_ad w 96)] g (fn_La_mended p1 g) := et_mkH (lv0 := [some (.ref (et_ad w 0)), some (.int p1), some (.ref (et_ad w 96)), none]) hw (by decide) rfl rfl (fun X hX => by
  unfold fn_La_mended
  refine zi_aload2 (pc := 0) hX dL_mended_0 ?_
  refine zi_iconst (pc := 1) (v := 0) hX dL_mended_1 (by decide) ?_
  refine zi_aload0 (pc := 2) hX dL_mended_2 ?_
  refine zi_iload1 (pc := 3) hX dL_mended_3 ?_
  refine zi_callC hX (zc_virt (As := [.int p1]) (pc := 4) hX dL_mended_4 tm_1242 md_X9_mended mi_X9_mended ly_0 (ct_Et_mended hX.sane p1 g) rfl rfl rfl) (zi_hd1 ht_La_mended_0 (fun q g3 => by
    refine zi_astore3 (pc := 12) hX dL_mended_12 rfl rfl ?_
    refine zi_iconst (pc := 13) (v := 1) hX dL_mended_13 (by decide) ?_
    exact zi_ret (pc := 14) hX dL_mended_14 rfl rfl rfl rfl)) (fun x g1 => ?_)
  refine zi_i2l (pc := 7) hX dL_mended_7 ?_
  refine zi_last (pc := 8) hX dL_mended_8 ly_96 (zi_bg (fun g2 => ?_))
  refine zi_goto (pc := 9) 15 hX dL_mended_9 (by decide) ?_
  refine zi_iconst (pc := 15) (v := 0) hX dL_mended_15 (by decide) ?_
  exact zi_ret (pc := 16) hX dL_mended_16 rfl rfl rfl rfl)
theorem tm_1249 : Cond.methodLink RL 58 yX9_silence ∈ et_tb := et_mt 1249 (by decide +kernel) rfl
theorem dL_silence_0 : decode cL_silence 0 = .ok (.aload_n 3, 1) := by decide +kernel
theorem dL_silence_1 : decode cL_silence 1 = .ok (.iconst 0, 1) := by decide +kernel
theorem dL_silence_2 : decode cL_silence 2 = .ok (.aload_n 0, 1) := by decide +kernel
theorem dL_silence_3 : decode cL_silence 3 = .ok (.iload_n 1, 1) := by decide +kernel
theorem dL_silence_4 : decode cL_silence 4 = .ok (.iload_n 2, 1) := by decide +kernel
theorem dL_silence_5 : decode cL_silence 5 = .ok (.invokevirtual 58, 3) := by decide +kernel
theorem dL_silence_8 : decode cL_silence 8 = .ok (.i2l, 1) := by decide +kernel
theorem dL_silence_9 : decode cL_silence 9 = .ok (.lastore, 1) := by decide +kernel
theorem dL_silence_10 : decode cL_silence 10 = .ok (.goto 7, 3) := by decide +kernel
theorem dL_silence_13 : decode cL_silence 13 = .ok (.astore 4, 2) := by decide +kernel
theorem dL_silence_15 : decode cL_silence 15 = .ok (.iconst 1, 1) := by decide +kernel
theorem dL_silence_16 : decode cL_silence 16 = .ok (.ireturn, 1) := by decide +kernel
theorem dL_silence_17 : decode cL_silence 17 = .ok (.iconst 0, 1) := by decide +kernel
theorem dL_silence_18 : decode cL_silence 18 = .ok (.ireturn, 1) := by decide +kernel
def rm_La_silence : Room := { frames := 8, cells := 2, slots := 12, locals := 197 }
def fn_La_silence (p1 : Int32) (p2 : Int32) (g : et_G) : Option (Int32 × et_G) := et_bc (fn_Et_silence p1 p2 g) (fun x g1 => et_ck (et_ib (0 : Int32) 1) (et_b (et_sl g1 96 (0 : Int32).toNatClampNeg x.toInt64) (fun g2 => some ((0 : Int32), g2)))) (fun k g3 => if k = 0 then some ((1 : Int32), g3) else none)
theorem ht_La_silence_0 : et_Ht RL (tableOf [(0, 10, 13, 18)]) 5 0 13 := ⟨[], ⟨0, 10, 13, 18⟩, [], rfl, by decide, by decide, rfl, tl_18, tk_0, fun z hz => by cases hz⟩
theorem ct_La_silence {w : et_W} (hw : et_Sane w) (p1 : Int32) (p2 : Int32) (g : et_G) : et_C w yL_silence (Cond.codeWith yL_silence cL_silence 5 (some .int) [(0, 10, 13, 18)]) rm_La_silence et_eI [.ref (et_ad w 0), .int p1, .int p2, .ref (et_ad w 96)] g (fn_La_silence p1 p2 g) := et_mkH (lv0 := [some (.ref (et_ad w 0)), some (.int p1), some (.int p2), some (.ref (et_ad w 96)), none]) hw (by decide) rfl rfl (fun X hX => by
  unfold fn_La_silence
  refine zi_aload3 (pc := 0) hX dL_silence_0 ?_
  refine zi_iconst (pc := 1) (v := 0) hX dL_silence_1 (by decide) ?_
  refine zi_aload0 (pc := 2) hX dL_silence_2 ?_
  refine zi_iload1 (pc := 3) hX dL_silence_3 ?_
  refine zi_iload2 (pc := 4) hX dL_silence_4 ?_
  refine zi_callC hX (zc_virt (As := [.int p1, .int p2]) (pc := 5) hX dL_silence_5 tm_1249 md_X9_silence mi_X9_silence ly_0 (ct_Et_silence hX.sane p1 p2 g) rfl rfl rfl) (zi_hd1 ht_La_silence_0 (fun q g3 => by
    refine zi_astore4 (pc := 13) hX dL_silence_13 rfl rfl ?_
    refine zi_iconst (pc := 15) (v := 1) hX dL_silence_15 (by decide) ?_
    exact zi_ret (pc := 16) hX dL_silence_16 rfl rfl rfl rfl)) (fun x g1 => ?_)
  refine zi_i2l (pc := 8) hX dL_silence_8 ?_
  refine zi_last (pc := 9) hX dL_silence_9 ly_96 (zi_bg (fun g2 => ?_))
  refine zi_goto (pc := 10) 17 hX dL_silence_10 (by decide) ?_
  refine zi_iconst (pc := 17) (v := 0) hX dL_silence_17 (by decide) ?_
  exact zi_ret (pc := 18) hX dL_silence_18 rfl rfl rfl rfl)
theorem tm_1266 : Cond.methodLink RL 61 yX9_likely ∈ et_tb := et_mt 1266 (by decide +kernel) rfl
theorem dL_likely_0 : decode cL_likely 0 = .ok (.aload_n 3, 1) := by decide +kernel
theorem dL_likely_1 : decode cL_likely 1 = .ok (.iconst 0, 1) := by decide +kernel
theorem dL_likely_2 : decode cL_likely 2 = .ok (.aload_n 0, 1) := by decide +kernel
theorem dL_likely_3 : decode cL_likely 3 = .ok (.iload_n 1, 1) := by decide +kernel
theorem dL_likely_4 : decode cL_likely 4 = .ok (.iload_n 2, 1) := by decide +kernel
theorem dL_likely_5 : decode cL_likely 5 = .ok (.invokevirtual 61, 3) := by decide +kernel
theorem dL_likely_8 : decode cL_likely 8 = .ok (.i2l, 1) := by decide +kernel
theorem dL_likely_9 : decode cL_likely 9 = .ok (.lastore, 1) := by decide +kernel
theorem dL_likely_10 : decode cL_likely 10 = .ok (.goto 7, 3) := by decide +kernel
theorem dL_likely_13 : decode cL_likely 13 = .ok (.astore 4, 2) := by decide +kernel
theorem dL_likely_15 : decode cL_likely 15 = .ok (.iconst 1, 1) := by decide +kernel
theorem dL_likely_16 : decode cL_likely 16 = .ok (.ireturn, 1) := by decide +kernel
theorem dL_likely_17 : decode cL_likely 17 = .ok (.iconst 0, 1) := by decide +kernel
theorem dL_likely_18 : decode cL_likely 18 = .ok (.ireturn, 1) := by decide +kernel
def rm_La_likely : Room := { frames := 8, cells := 2, slots := 12, locals := 126 }
def fn_La_likely (p1 : Int32) (p2 : Int32) (g : et_G) : Option (Int32 × et_G) := et_bc (fn_Et_likely p1 p2 g) (fun x g1 => et_ck (et_ib (0 : Int32) 1) (et_b (et_sl g1 96 (0 : Int32).toNatClampNeg x.toInt64) (fun g2 => some ((0 : Int32), g2)))) (fun k g3 => if k = 0 then some ((1 : Int32), g3) else none)
theorem ht_La_likely_0 : et_Ht RL (tableOf [(0, 10, 13, 18)]) 5 0 13 := ⟨[], ⟨0, 10, 13, 18⟩, [], rfl, by decide, by decide, rfl, tl_18, tk_0, fun z hz => by cases hz⟩
theorem ct_La_likely {w : et_W} (hw : et_Sane w) (p1 : Int32) (p2 : Int32) (g : et_G) : et_C w yL_likely (Cond.codeWith yL_likely cL_likely 5 (some .int) [(0, 10, 13, 18)]) rm_La_likely et_eI [.ref (et_ad w 0), .int p1, .int p2, .ref (et_ad w 96)] g (fn_La_likely p1 p2 g) := et_mkH (lv0 := [some (.ref (et_ad w 0)), some (.int p1), some (.int p2), some (.ref (et_ad w 96)), none]) hw (by decide) rfl rfl (fun X hX => by
  unfold fn_La_likely
  refine zi_aload3 (pc := 0) hX dL_likely_0 ?_
  refine zi_iconst (pc := 1) (v := 0) hX dL_likely_1 (by decide) ?_
  refine zi_aload0 (pc := 2) hX dL_likely_2 ?_
  refine zi_iload1 (pc := 3) hX dL_likely_3 ?_
  refine zi_iload2 (pc := 4) hX dL_likely_4 ?_
  refine zi_callC hX (zc_virt (As := [.int p1, .int p2]) (pc := 5) hX dL_likely_5 tm_1266 md_X9_likely mi_X9_likely ly_0 (ct_Et_likely hX.sane p1 p2 g) rfl rfl rfl) (zi_hd1 ht_La_likely_0 (fun q g3 => by
    refine zi_astore4 (pc := 13) hX dL_likely_13 rfl rfl ?_
    refine zi_iconst (pc := 15) (v := 1) hX dL_likely_15 (by decide) ?_
    exact zi_ret (pc := 16) hX dL_likely_16 rfl rfl rfl rfl)) (fun x g1 => ?_)
  refine zi_i2l (pc := 8) hX dL_likely_8 ?_
  refine zi_last (pc := 9) hX dL_likely_9 ly_96 (zi_bg (fun g2 => ?_))
  refine zi_goto (pc := 10) 17 hX dL_likely_10 (by decide) ?_
  refine zi_iconst (pc := 17) (v := 0) hX dL_likely_17 (by decide) ?_
  exact zi_ret (pc := 18) hX dL_likely_18 rfl rfl rfl rfl)
theorem tm_1281 : Cond.methodLink RL 64 yX9_worlds ∈ et_tb := et_mt 1281 (by decide +kernel) rfl
theorem dL_worlds_0 : decode cL_worlds 0 = .ok (.aload_n 2, 1) := by decide +kernel
theorem dL_worlds_1 : decode cL_worlds 1 = .ok (.iconst 0, 1) := by decide +kernel
theorem dL_worlds_2 : decode cL_worlds 2 = .ok (.aload_n 0, 1) := by decide +kernel
theorem dL_worlds_3 : decode cL_worlds 3 = .ok (.iload_n 1, 1) := by decide +kernel
theorem dL_worlds_4 : decode cL_worlds 4 = .ok (.invokevirtual 64, 3) := by decide +kernel
theorem dL_worlds_7 : decode cL_worlds 7 = .ok (.i2l, 1) := by decide +kernel
theorem dL_worlds_8 : decode cL_worlds 8 = .ok (.lastore, 1) := by decide +kernel
theorem dL_worlds_9 : decode cL_worlds 9 = .ok (.goto 6, 3) := by decide +kernel
theorem dL_worlds_12 : decode cL_worlds 12 = .ok (.astore_n 3, 1) := by decide +kernel
theorem dL_worlds_13 : decode cL_worlds 13 = .ok (.iconst 1, 1) := by decide +kernel
theorem dL_worlds_14 : decode cL_worlds 14 = .ok (.ireturn, 1) := by decide +kernel
theorem dL_worlds_15 : decode cL_worlds 15 = .ok (.iconst 0, 1) := by decide +kernel
theorem dL_worlds_16 : decode cL_worlds 16 = .ok (.ireturn, 1) := by decide +kernel
def rm_La_worlds : Room := { frames := 7, cells := 1, slots := 6, locals := 103 }
def fn_La_worlds (p1 : Int32) (g : et_G) : Option (Int32 × et_G) := et_bc (fn_Et_worlds p1 g) (fun x g1 => et_ck (et_ib (0 : Int32) 1) (et_b (et_sl g1 96 (0 : Int32).toNatClampNeg x.toInt64) (fun g2 => some ((0 : Int32), g2)))) (fun k g3 => if k = 1 then some ((1 : Int32), g3) else none)
theorem ht_La_worlds_1 : et_Ht RL (tableOf [(0, 9, 12, 13)]) 4 1 12 := ⟨[], ⟨0, 9, 12, 13⟩, [], rfl, by decide, by decide, rfl, tl_13, tk_1, fun z hz => by cases hz⟩
theorem ct_La_worlds {w : et_W} (hw : et_Sane w) (p1 : Int32) (g : et_G) : et_C w yL_worlds (Cond.codeWith yL_worlds cL_worlds 4 (some .int) [(0, 9, 12, 13)]) rm_La_worlds et_eI [.ref (et_ad w 0), .int p1, .ref (et_ad w 96)] g (fn_La_worlds p1 g) := et_mkH (lv0 := [some (.ref (et_ad w 0)), some (.int p1), some (.ref (et_ad w 96)), none]) hw (by decide) rfl rfl (fun X hX => by
  unfold fn_La_worlds
  refine zi_aload2 (pc := 0) hX dL_worlds_0 ?_
  refine zi_iconst (pc := 1) (v := 0) hX dL_worlds_1 (by decide) ?_
  refine zi_aload0 (pc := 2) hX dL_worlds_2 ?_
  refine zi_iload1 (pc := 3) hX dL_worlds_3 ?_
  refine zi_callC hX (zc_virt (As := [.int p1]) (pc := 4) hX dL_worlds_4 tm_1281 md_X9_worlds mi_X9_worlds ly_0 (ct_Et_worlds hX.sane p1 g) rfl rfl rfl) (zi_hd1 ht_La_worlds_1 (fun q g3 => by
    refine zi_astore3 (pc := 12) hX dL_worlds_12 rfl rfl ?_
    refine zi_iconst (pc := 13) (v := 1) hX dL_worlds_13 (by decide) ?_
    exact zi_ret (pc := 14) hX dL_worlds_14 rfl rfl rfl rfl)) (fun x g1 => ?_)
  refine zi_i2l (pc := 7) hX dL_worlds_7 ?_
  refine zi_last (pc := 8) hX dL_worlds_8 ly_96 (zi_bg (fun g2 => ?_))
  refine zi_goto (pc := 9) 15 hX dL_worlds_9 (by decide) ?_
  refine zi_iconst (pc := 15) (v := 0) hX dL_worlds_15 (by decide) ?_
  exact zi_ret (pc := 16) hX dL_worlds_16 rfl rfl rfl rfl)
theorem tm_1293 : Cond.methodLink RL 67 yX9_tell ∈ et_tb := et_mt 1293 (by decide +kernel) rfl
theorem dL_tell_0 : decode cL_tell 0 = .ok (.aload 4, 2) := by decide +kernel
theorem dL_tell_2 : decode cL_tell 2 = .ok (.iconst 0, 1) := by decide +kernel
theorem dL_tell_3 : decode cL_tell 3 = .ok (.aload_n 0, 1) := by decide +kernel
theorem dL_tell_4 : decode cL_tell 4 = .ok (.iload_n 1, 1) := by decide +kernel
theorem dL_tell_5 : decode cL_tell 5 = .ok (.iload_n 2, 1) := by decide +kernel
theorem dL_tell_6 : decode cL_tell 6 = .ok (.iload_n 3, 1) := by decide +kernel
theorem dL_tell_7 : decode cL_tell 7 = .ok (.invokevirtual 67, 3) := by decide +kernel
theorem dL_tell_10 : decode cL_tell 10 = .ok (.i2l, 1) := by decide +kernel
theorem dL_tell_11 : decode cL_tell 11 = .ok (.lastore, 1) := by decide +kernel
theorem dL_tell_12 : decode cL_tell 12 = .ok (.goto 7, 3) := by decide +kernel
theorem dL_tell_15 : decode cL_tell 15 = .ok (.astore 5, 2) := by decide +kernel
theorem dL_tell_17 : decode cL_tell 17 = .ok (.iconst 1, 1) := by decide +kernel
theorem dL_tell_18 : decode cL_tell 18 = .ok (.ireturn, 1) := by decide +kernel
theorem dL_tell_19 : decode cL_tell 19 = .ok (.iconst 0, 1) := by decide +kernel
theorem dL_tell_20 : decode cL_tell 20 = .ok (.ireturn, 1) := by decide +kernel
def rm_La_tell : Room := { frames := 8, cells := 2, slots := 12, locals := 139 }
def fn_La_tell (p1 : Int32) (p2 : Int32) (p3 : Int32) (g : et_G) : Option (Int32 × et_G) := et_bc (fn_Et_tell p1 p2 p3 g) (fun x g1 => et_ck (et_ib (0 : Int32) 1) (et_b (et_sl g1 96 (0 : Int32).toNatClampNeg x.toInt64) (fun g2 => some ((0 : Int32), g2)))) (fun k g3 => if k = 0 then some ((1 : Int32), g3) else none)
theorem ht_La_tell_0 : et_Ht RL (tableOf [(0, 12, 15, 18)]) 7 0 15 := ⟨[], ⟨0, 12, 15, 18⟩, [], rfl, by decide, by decide, rfl, tl_18, tk_0, fun z hz => by cases hz⟩
theorem ct_La_tell {w : et_W} (hw : et_Sane w) (p1 : Int32) (p2 : Int32) (p3 : Int32) (g : et_G) : et_C w yL_tell (Cond.codeWith yL_tell cL_tell 6 (some .int) [(0, 12, 15, 18)]) rm_La_tell et_eI [.ref (et_ad w 0), .int p1, .int p2, .int p3, .ref (et_ad w 96)] g (fn_La_tell p1 p2 p3 g) := et_mkH (lv0 := [some (.ref (et_ad w 0)), some (.int p1), some (.int p2), some (.int p3), some (.ref (et_ad w 96)), none]) hw (by decide) rfl rfl (fun X hX => by
  unfold fn_La_tell
  refine zi_aload4 (pc := 0) hX dL_tell_0 ?_
  refine zi_iconst (pc := 2) (v := 0) hX dL_tell_2 (by decide) ?_
  refine zi_aload0 (pc := 3) hX dL_tell_3 ?_
  refine zi_iload1 (pc := 4) hX dL_tell_4 ?_
  refine zi_iload2 (pc := 5) hX dL_tell_5 ?_
  refine zi_iload3 (pc := 6) hX dL_tell_6 ?_
  refine zi_callC hX (zc_virt (As := [.int p1, .int p2, .int p3]) (pc := 7) hX dL_tell_7 tm_1293 md_X9_tell mi_X9_tell ly_0 (ct_Et_tell hX.sane p1 p2 p3 g) rfl rfl rfl) (zi_hd1 ht_La_tell_0 (fun q g3 => by
    refine zi_astore5 (pc := 15) hX dL_tell_15 rfl rfl ?_
    refine zi_iconst (pc := 17) (v := 1) hX dL_tell_17 (by decide) ?_
    exact zi_ret (pc := 18) hX dL_tell_18 rfl rfl rfl rfl)) (fun x g1 => ?_)
  refine zi_i2l (pc := 10) hX dL_tell_10 ?_
  refine zi_last (pc := 11) hX dL_tell_11 ly_96 (zi_bg (fun g2 => ?_))
  refine zi_goto (pc := 12) 19 hX dL_tell_12 (by decide) ?_
  refine zi_iconst (pc := 19) (v := 0) hX dL_tell_19 (by decide) ?_
  exact zi_ret (pc := 20) hX dL_tell_20 rfl rfl rfl rfl)
theorem tm_1330 : Cond.methodLink RL 71 yX9_known ∈ et_tb := et_mt 1330 (by decide +kernel) rfl
theorem dL_known_0 : decode cL_known 0 = .ok (.aload 5, 2) := by decide +kernel
theorem dL_known_2 : decode cL_known 2 = .ok (.iconst 0, 1) := by decide +kernel
theorem dL_known_3 : decode cL_known 3 = .ok (.aload_n 0, 1) := by decide +kernel
theorem dL_known_4 : decode cL_known 4 = .ok (.iload_n 1, 1) := by decide +kernel
theorem dL_known_5 : decode cL_known 5 = .ok (.iload_n 2, 1) := by decide +kernel
theorem dL_known_6 : decode cL_known 6 = .ok (.iload_n 3, 1) := by decide +kernel
theorem dL_known_7 : decode cL_known 7 = .ok (.iload 4, 2) := by decide +kernel
theorem dL_known_9 : decode cL_known 9 = .ok (.invokevirtual 71, 3) := by decide +kernel
theorem dL_known_12 : decode cL_known 12 = .ok (.ifCond .eq 7, 3) := by decide +kernel
theorem dL_known_15 : decode cL_known 15 = .ok (.lconst 1, 1) := by decide +kernel
theorem dL_known_16 : decode cL_known 16 = .ok (.goto 4, 3) := by decide +kernel
theorem dL_known_19 : decode cL_known 19 = .ok (.lconst 0, 1) := by decide +kernel
theorem dL_known_20 : decode cL_known 20 = .ok (.lastore, 1) := by decide +kernel
theorem dL_known_21 : decode cL_known 21 = .ok (.goto 11, 3) := by decide +kernel
theorem dL_known_24 : decode cL_known 24 = .ok (.astore 6, 2) := by decide +kernel
theorem dL_known_26 : decode cL_known 26 = .ok (.iconst 1, 1) := by decide +kernel
theorem dL_known_27 : decode cL_known 27 = .ok (.ireturn, 1) := by decide +kernel
theorem dL_known_28 : decode cL_known 28 = .ok (.astore 6, 2) := by decide +kernel
theorem dL_known_30 : decode cL_known 30 = .ok (.iconst 2, 1) := by decide +kernel
theorem dL_known_31 : decode cL_known 31 = .ok (.ireturn, 1) := by decide +kernel
theorem dL_known_32 : decode cL_known 32 = .ok (.iconst 0, 1) := by decide +kernel
theorem dL_known_33 : decode cL_known 33 = .ok (.ireturn, 1) := by decide +kernel
def rm_La_known : Room := { frames := 8, cells := 2, slots := 12, locals := 143 }
def fn_La_known (p1 : Int32) (p2 : Int32) (p3 : Int32) (p4 : Int32) (g : et_G) : Option (Int32 × et_G) := et_bc (fn_Et_known p1 p2 p3 p4 g) (fun x g1 => if x = 0 then et_ck (et_ib (0 : Int32) 1) (et_b (et_sl g1 96 (0 : Int32).toNatClampNeg (0 : Int64)) (fun g2 => some ((0 : Int32), g2))) else et_ck (et_ib (0 : Int32) 1) (et_b (et_sl g1 96 (0 : Int32).toNatClampNeg (1 : Int64)) (fun g2 => some ((0 : Int32), g2)))) (fun k g3 => if k = 0 then some ((1 : Int32), g3) else if k = 1 then some ((2 : Int32), g3) else none)
theorem ht_La_known_0 : et_Ht RL (tableOf [(0, 21, 24, 18), (0, 21, 28, 13)]) 9 0 24 := ⟨[], ⟨0, 21, 24, 18⟩, [⟨0, 21, 28, 13⟩], rfl, by decide, by decide, rfl, tl_18, tk_0, fun z hz => by cases hz⟩
theorem ht_La_known_1 : et_Ht RL (tableOf [(0, 21, 24, 18), (0, 21, 28, 13)]) 9 1 28 := ⟨[⟨0, 21, 24, 18⟩], ⟨0, 21, 28, 13⟩, [], rfl, by decide, by decide, rfl, tl_13, tk_1, fun z hz => by rw [List.mem_singleton.mp hz]; exact Or.inr ⟨rfl, by decide, tl_18⟩⟩
theorem ct_La_known {w : et_W} (hw : et_Sane w) (p1 : Int32) (p2 : Int32) (p3 : Int32) (p4 : Int32) (g : et_G) : et_C w yL_known (Cond.codeWith yL_known cL_known 7 (some .int) [(0, 21, 24, 18), (0, 21, 28, 13)]) rm_La_known et_eI [.ref (et_ad w 0), .int p1, .int p2, .int p3, .int p4, .ref (et_ad w 96)] g (fn_La_known p1 p2 p3 p4 g) := et_mkH (lv0 := [some (.ref (et_ad w 0)), some (.int p1), some (.int p2), some (.int p3), some (.int p4), some (.ref (et_ad w 96)), none]) hw (by decide) rfl rfl (fun X hX => by
  unfold fn_La_known
  refine zi_aload5 (pc := 0) hX dL_known_0 ?_
  refine zi_iconst (pc := 2) (v := 0) hX dL_known_2 (by decide) ?_
  refine zi_aload0 (pc := 3) hX dL_known_3 ?_
  refine zi_iload1 (pc := 4) hX dL_known_4 ?_
  refine zi_iload2 (pc := 5) hX dL_known_5 ?_
  refine zi_iload3 (pc := 6) hX dL_known_6 ?_
  refine zi_iload4 (pc := 7) hX dL_known_7 ?_
  refine zi_callC hX (zc_virt (As := [.int p1, .int p2, .int p3, .int p4]) (pc := 9) hX dL_known_9 tm_1330 md_X9_known mi_X9_known ly_0 (ct_Et_known hX.sane p1 p2 p3 p4 g) rfl rfl rfl) (zi_hd2 ht_La_known_0 ht_La_known_1 (fun q g3 => by
    refine zi_astore6 (pc := 24) hX dL_known_24 rfl rfl ?_
    refine zi_iconst (pc := 26) (v := 1) hX dL_known_26 (by decide) ?_
    exact zi_ret (pc := 27) hX dL_known_27 rfl rfl rfl rfl) (fun q g3 => by
    refine zi_astore6 (pc := 28) hX dL_known_28 rfl rfl ?_
    refine zi_iconst (pc := 30) (v := 2) hX dL_known_30 (by decide) ?_
    exact zi_ret (pc := 31) hX dL_known_31 rfl rfl rfl rfl)) (fun x g1 => ?_)
  refine zi_if_eq (pc := 12) 19 hX dL_known_12 (by decide) (fun _ => ?_) (fun _ => ?_)
  · refine zi_lconst (pc := 19) (v := 0) hX dL_known_19 (by decide) ?_
    refine zi_last (pc := 20) hX dL_known_20 ly_96 (zi_bg (fun g2 => ?_))
    refine zi_goto (pc := 21) 32 hX dL_known_21 (by decide) ?_
    refine zi_iconst (pc := 32) (v := 0) hX dL_known_32 (by decide) ?_
    exact zi_ret (pc := 33) hX dL_known_33 rfl rfl rfl rfl
  · refine zi_lconst (pc := 15) (v := 1) hX dL_known_15 (by decide) ?_
    refine zi_goto (pc := 16) 20 hX dL_known_16 (by decide) ?_
    refine zi_last (pc := 20) hX dL_known_20 ly_96 (zi_bg (fun g2 => ?_))
    refine zi_goto (pc := 21) 32 hX dL_known_21 (by decide) ?_
    refine zi_iconst (pc := 32) (v := 0) hX dL_known_32 (by decide) ?_
    exact zi_ret (pc := 33) hX dL_known_33 rfl rfl rfl rfl)
