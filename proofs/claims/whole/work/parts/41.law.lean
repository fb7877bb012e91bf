/-! the law: its script, its calls of methods with a table, its cases, its loop -/
def et_Sc (X : et_X) (w : et_W) (L : Nat) (xs : Nat → Int32) : Prop := match X with
  | (p, l, e, R, s, m, args, below, meth, c) => va_X (et_ad w 3000) L xs s s.heap ∧ et_ad w 3000 < s.heap.size ∧ ¬ et_A w (et_ad w 3000)
theorem et_rsL {rm1 : Room} {nL1 u : Nat} (h : (Nat.ble (rm1.frames + 1) 14 && (Nat.ble (8 + (nL1 + 11) + rm1.locals) 526 && (Nat.ble rm1.cells 10 && Nat.beq rm1.slots (6 * rm1.cells)))) = true) (hu : u ≤ 20000) : et_rs room_1 rm1 nL1 u = true := by
  simp only [Bool.and_eq_true] at h
  obtain ⟨h1, h2, h3, h4⟩ := h
  have e1 := Nat.le_of_ble_eq_true h1
  have e2 := Nat.le_of_ble_eq_true h2
  have e3 := Nat.le_of_ble_eq_true h3
  simp only [et_rs, Bool.and_eq_true, h4, and_true]
  exact ⟨Nat.ble_eq_true_of_le e1, Nat.ble_eq_true_of_le e2, Nat.ble_eq_true_of_le (show u + rm1.cells ≤ 601024 by omega), Nat.ble_eq_true_of_le (show 6 * u + 6 * rm1.cells ≤ 7293034 by omega)⟩
theorem et_lc {u : Nat} (h : u ≤ 20000) : Nat.ble u room_1.cells = true := Nat.ble_eq_true_of_le (show u ≤ 601024 by omega)
theorem et_ls {u : Nat} (h : u ≤ 20000) : Nat.ble (6 * u) room_1.slots = true := Nat.ble_eq_true_of_le (show 6 * u ≤ 7293034 by omega)
section ZL
variable {α β : Type} {X : et_X} {w : et_W} {u pc nL : Nat} {enc : α → et_O} {b : ByteArray} {own : String} {ret : Option FieldType} {tb : List ExceptionTableEntry} {rm : Room} {lv r : List (Option Value)} {st : List Value} {g : et_G} {o : Option (α × et_G)} {idx n L : Nat} {xs : Nat → Int32}
theorem zi_scr {i : Int32} (hX : et_Gd X w b own nL ret tb rm) (hsc : et_Sc X w L xs) (hd : decode b pc = .ok (.iaload, 1)) (kk : et_Z X w u enc (pc + 1) lv (.int (xs i.toNatClampNeg) :: st) g o) : et_Z X w u enc pc lv (.int i :: .ref (et_ad w 3000) :: st) g (et_ck (et_ib i L) o) := by
  refine zi_ck fun hin => ?_
  obtain ⟨p, l, e, R, s, m, args, below, meth, c⟩ := X
  intro a1 g1 ho H locs ls hP hS hlv
  exact va_sld hX.1 hX.2.1 hsc.1 hsc.2.1 hsc.2.2 hS (et_ib_in hin) hd (kk a1 g1 ho H locs ls hP hS hlv)
theorem zi_scl (hX : et_Gd X w b own nL ret tb rm) (hsc : et_Sc X w L xs) (hd : decode b pc = .ok (.arraylength, 1)) (kk : et_Z X w u enc (pc + 1) lv (.int (Int32.ofNat L) :: st) g o) : et_Z X w u enc pc lv (.ref (et_ad w 3000) :: st) g o := by
  obtain ⟨p, l, e, R, s, m, args, below, meth, c⟩ := X
  intro a1 g1 ho H locs ls hP hS hlv
  exact va_slen hX.1 hX.2.1 hsc.1 hsc.2.1 hsc.2.2 hS hd (kk a1 g1 ho H locs ls hP hS hlv)
def et_MW (y : MethodName) (b : ByteArray) (nL : Nat) (ret : Option FieldType) (hh : List (Nat × Nat × Nat × Nat)) (n : Nat) : Prop := Cond.codeWith y b nL ret hh ∈ et_tb ∧ Cond.initialized y.cls ∈ et_tb ∧ (y.cls ≠ "java/lang/invoke/MethodHandle" ∧ y.cls ≠ "java/lang/invoke/VarHandle") ∧ (∀ sig, parseMethodDescriptor y.desc = some sig → n = sig.parameters.length)
theorem zc_statW {encC : β → et_O} {y : MethodName} {b1 : ByteArray} {nL1 : Nat} {ret1 : Option FieldType} {hh : List (Nat × Nat × Nat × Nat)} {rm1 : Room} {As : List Value} {F : Option (β × et_G)} (hX : et_Gd X w b own nL ret tb rm) (hd : decode b pc = .ok (.invokestatic idx, 3)) (hl : Cond.methodLink own idx y ∈ et_tb) (hm : et_MW y b1 nL1 ret1 hh n) (hi : Cond.static y ∈ et_tb)
    (hC : et_C w y (Cond.codeWith y b1 nL1 ret1 hh) rm1 encC As g F) (hn : As.length = n) (hst : Nat.ble ((st.map fun v => v.category).sum) 8 = true) (hrs : et_rs rm rm1 nL1 u = true) : et_Call X w u pc rm1.cells lv (As.reverse ++ st) st g encC F := by
  obtain ⟨p, l, e, R, s, m, args, below, meth, c⟩ := X
  intro x g1 hF H locs ls hP hS hlv
  obtain ⟨hx, hb, hml, hown, hts, hr, hlocks, hsane, hU, htb, hlt, rfl⟩ := hX
  obtain ⟨r1, r2, r3, r4⟩ := et_rs_ok hrs
  have hpre := et_pre (w := w) (g := g) (avs := As) hU hS hP
  have hM := hC l hlt x g1 hF
  rw [r4] at hM
  obtain ⟨m1, m2, m3, m4⟩ := hm
  exact ⟨_, vx_runSX (n := n) (nL := c.maxLocals) (Ts := et_tb) ⟨hx, hb, rfl, hown, hts⟩ hM ⟨⟨rfl, r4, r1.1, r1.2, fun q hq a U hW => by rw [List.mem_singleton.mp hq]; exact word_at hW (Or.inl rfl) (hts _ m1), List.mem_cons_self⟩, hts _ m1, hts _ m2, m3, m4, hts _ hl, hts _ hi⟩ hpre rfl hn hlv.1 rfl (by simpa using Nat.le_of_ble_eq_true hst) hd ⟨r2, r3⟩⟩
end ZL
theorem ds_0 : cL_law = code := rfl
theorem tm_546 : Cond.methodLink RL 79 yX9_feed ∈ et_tb := et_mt 546 (by decide +kernel) rfl
theorem tm_554 : Cond.methodLink RL 94 yX9_fault ∈ et_tb := et_mt 554 (by decide +kernel) rfl
theorem tm_558 : Cond.methodLink RL 126 yX9_unsay ∈ et_tb := et_mt 558 (by decide +kernel) rfl
theorem tm_566 : Cond.methodLink RL 140 yX9_mend ∈ et_tb := et_mt 566 (by decide +kernel) rfl
theorem tm_680 : Cond.methodLink RL 163 yX9_image ∈ et_tb := et_mt 680 (by decide +kernel) rfl
theorem tm_695 : Cond.methodLink RL 167 yX9_restore ∈ et_tb := et_mt 695 (by decide +kernel) rfl
theorem tm_699 : Cond.methodLink RL 84 yL_village ∈ et_tb := et_mt 699 (by decide +kernel) rfl
theorem tm_1000 : Cond.methodLink RL 98 yL_count ∈ et_tb := et_mt 1000 (by decide +kernel) rfl
theorem tm_1024 : Cond.methodLink RL 101 yL_where ∈ et_tb := et_mt 1024 (by decide +kernel) rfl
theorem tm_1047 : Cond.methodLink RL 105 yL_thing ∈ et_tb := et_mt 1047 (by decide +kernel) rfl
theorem tm_1063 : Cond.methodLink RL 108 yL_word ∈ et_tb := et_mt 1063 (by decide +kernel) rfl
theorem tm_1094 : Cond.methodLink RL 112 yL_apart ∈ et_tb := et_mt 1094 (by decide +kernel) rfl
theorem tm_1114 : Cond.methodLink RL 115 yL_way ∈ et_tb := et_mt 1114 (by decide +kernel) rfl
theorem tm_1121 : Cond.methodLink RL 118 yL_say ∈ et_tb := et_mt 1121 (by decide +kernel) rfl
theorem tm_1132 : Cond.methodLink RL 122 yL_utter ∈ et_tb := et_mt 1132 (by decide +kernel) rfl
theorem tm_1165 : Cond.methodLink RL 130 yL_saying ∈ et_tb := et_mt 1165 (by decide +kernel) rfl
theorem tm_1212 : Cond.methodLink RL 133 yL_could ∈ et_tb := et_mt 1212 (by decide +kernel) rfl
theorem tm_1223 : Cond.methodLink RL 137 yL_wrong ∈ et_tb := et_mt 1223 (by decide +kernel) rfl
theorem tm_1239 : Cond.methodLink RL 144 yL_mended ∈ et_tb := et_mt 1239 (by decide +kernel) rfl
theorem tm_1246 : Cond.methodLink RL 147 yL_silence ∈ et_tb := et_mt 1246 (by decide +kernel) rfl
theorem tm_1263 : Cond.methodLink RL 150 yL_likely ∈ et_tb := et_mt 1263 (by decide +kernel) rfl
theorem tm_1278 : Cond.methodLink RL 153 yL_worlds ∈ et_tb := et_mt 1278 (by decide +kernel) rfl
theorem tm_1290 : Cond.methodLink RL 156 yL_tell ∈ et_tb := et_mt 1290 (by decide +kernel) rfl
theorem tm_1327 : Cond.methodLink RL 160 yL_known ∈ et_tb := et_mt 1327 (by decide +kernel) rfl
theorem tm_1571 : Cond.methodLink RL 90 yX10_thrown ∈ et_tb := et_mt 1571 (by decide +kernel) rfl
theorem tm_1575 : Cond.methodLink RL 83 yX10_feed ∈ et_tb := et_mt 1575 (by decide +kernel) rfl
theorem tm_1583 : Cond.methodLink RL 89 yX10_village ∈ et_tb := et_mt 1583 (by decide +kernel) rfl
theorem tm_1675 : Cond.methodLink RL 97 yX10_fault ∈ et_tb := et_mt 1675 (by decide +kernel) rfl
theorem tm_1679 : Cond.methodLink RL 100 yX10_count ∈ et_tb := et_mt 1679 (by decide +kernel) rfl
theorem tm_1689 : Cond.methodLink RL 104 yX10_where ∈ et_tb := et_mt 1689 (by decide +kernel) rfl
theorem tm_1697 : Cond.methodLink RL 107 yX10_thing ∈ et_tb := et_mt 1697 (by decide +kernel) rfl
theorem tm_1705 : Cond.methodLink RL 111 yX10_word ∈ et_tb := et_mt 1705 (by decide +kernel) rfl
theorem tm_1725 : Cond.methodLink RL 114 yX10_apart ∈ et_tb := et_mt 1725 (by decide +kernel) rfl
theorem tm_1733 : Cond.methodLink RL 117 yX10_way ∈ et_tb := et_mt 1733 (by decide +kernel) rfl
theorem tm_1737 : Cond.methodLink RL 121 yX10_say ∈ et_tb := et_mt 1737 (by decide +kernel) rfl
theorem tm_1749 : Cond.methodLink RL 125 yX10_utter ∈ et_tb := et_mt 1749 (by decide +kernel) rfl
theorem tm_1765 : Cond.methodLink RL 129 yX10_unsay ∈ et_tb := et_mt 1765 (by decide +kernel) rfl
theorem tm_1769 : Cond.methodLink RL 132 yX10_saying ∈ et_tb := et_mt 1769 (by decide +kernel) rfl
theorem tm_1833 : Cond.methodLink RL 136 yX10_could ∈ et_tb := et_mt 1833 (by decide +kernel) rfl
theorem tm_1837 : Cond.methodLink RL 139 yX10_wrong ∈ et_tb := et_mt 1837 (by decide +kernel) rfl
theorem tm_1845 : Cond.methodLink RL 143 yX10_mend ∈ et_tb := et_mt 1845 (by decide +kernel) rfl
theorem tm_1849 : Cond.methodLink RL 146 yX10_mended ∈ et_tb := et_mt 1849 (by decide +kernel) rfl
theorem tm_1853 : Cond.methodLink RL 149 yX10_silence ∈ et_tb := et_mt 1853 (by decide +kernel) rfl
theorem tm_1857 : Cond.methodLink RL 152 yX10_likely ∈ et_tb := et_mt 1857 (by decide +kernel) rfl
theorem tm_1863 : Cond.methodLink RL 155 yX10_worlds ∈ et_tb := et_mt 1863 (by decide +kernel) rfl
theorem tm_1867 : Cond.methodLink RL 159 yX10_tell ∈ et_tb := et_mt 1867 (by decide +kernel) rfl
theorem tm_1894 : Cond.methodLink RL 162 yX10_known ∈ et_tb := et_mt 1894 (by decide +kernel) rfl
theorem tm_1898 : Cond.methodLink RL 166 yX10_image ∈ et_tb := et_mt 1898 (by decide +kernel) rfl
theorem tm_1902 : Cond.methodLink RL 171 yX10_restore ∈ et_tb := et_mt 1902 (by decide +kernel) rfl
theorem md_L_apart : et_MW yL_apart cL_apart 4 (some .int) [(0, 9, 12, 13)] 3 := ⟨et_mt 1096 (by decide +kernel) rfl, et_mt 111 (by decide +kernel) rfl, ⟨by decide, by decide⟩, fun sig h => by have h2 : (parseMethodDescriptor (yL_apart).desc).map (fun d => d.parameters.length) = some 3 := (by decide +kernel); rw [h] at h2; exact (Option.some.inj h2).symm⟩
theorem md_L_could : et_MW yL_could cL_could 7 (some .int) [(0, 14, 17, 18)] 6 := ⟨et_mt 1214 (by decide +kernel) rfl, et_mt 111 (by decide +kernel) rfl, ⟨by decide, by decide⟩, fun sig h => by have h2 : (parseMethodDescriptor (yL_could).desc).map (fun d => d.parameters.length) = some 6 := (by decide +kernel); rw [h] at h2; exact (Option.some.inj h2).symm⟩
theorem md_L_count : et_MW yL_count cL_count 4 (some .int) [(0, 9, 12, 18)] 3 := ⟨et_mt 1002 (by decide +kernel) rfl, et_mt 111 (by decide +kernel) rfl, ⟨by decide, by decide⟩, fun sig h => by have h2 : (parseMethodDescriptor (yL_count).desc).map (fun d => d.parameters.length) = some 3 := (by decide +kernel); rw [h] at h2; exact (Option.some.inj h2).symm⟩
theorem md_L_known : et_MW yL_known cL_known 7 (some .int) [(0, 21, 24, 18), (0, 21, 28, 13)] 6 := ⟨et_mt 1329 (by decide +kernel) rfl, et_mt 111 (by decide +kernel) rfl, ⟨by decide, by decide⟩, fun sig h => by have h2 : (parseMethodDescriptor (yL_known).desc).map (fun d => d.parameters.length) = some 6 := (by decide +kernel); rw [h] at h2; exact (Option.some.inj h2).symm⟩
theorem md_L_likely : et_MW yL_likely cL_likely 5 (some .int) [(0, 10, 13, 18)] 4 := ⟨et_mt 1265 (by decide +kernel) rfl, et_mt 111 (by decide +kernel) rfl, ⟨by decide, by decide⟩, fun sig h => by have h2 : (parseMethodDescriptor (yL_likely).desc).map (fun d => d.parameters.length) = some 4 := (by decide +kernel); rw [h] at h2; exact (Option.some.inj h2).symm⟩
theorem md_L_mended : et_MW yL_mended cL_mended 4 (some .int) [(0, 9, 12, 18)] 3 := ⟨et_mt 1241 (by decide +kernel) rfl, et_mt 111 (by decide +kernel) rfl, ⟨by decide, by decide⟩, fun sig h => by have h2 : (parseMethodDescriptor (yL_mended).desc).map (fun d => d.parameters.length) = some 3 := (by decide +kernel); rw [h] at h2; exact (Option.some.inj h2).symm⟩
theorem md_L_say : et_MW yL_say cL_say 8 (some .int) [(0, 16, 19, 18)] 7 := ⟨et_mt 1123 (by decide +kernel) rfl, et_mt 111 (by decide +kernel) rfl, ⟨by decide, by decide⟩, fun sig h => by have h2 : (parseMethodDescriptor (yL_say).desc).map (fun d => d.parameters.length) = some 7 := (by decide +kernel); rw [h] at h2; exact (Option.some.inj h2).symm⟩
theorem md_L_saying : et_MW yL_saying cL_saying 5 (some .int) [(0, 10, 13, 18)] 4 := ⟨et_mt 1167 (by decide +kernel) rfl, et_mt 111 (by decide +kernel) rfl, ⟨by decide, by decide⟩, fun sig h => by have h2 : (parseMethodDescriptor (yL_saying).desc).map (fun d => d.parameters.length) = some 4 := (by decide +kernel); rw [h] at h2; exact (Option.some.inj h2).symm⟩
theorem md_L_silence : et_MW yL_silence cL_silence 5 (some .int) [(0, 10, 13, 18)] 4 := ⟨et_mt 1248 (by decide +kernel) rfl, et_mt 111 (by decide +kernel) rfl, ⟨by decide, by decide⟩, fun sig h => by have h2 : (parseMethodDescriptor (yL_silence).desc).map (fun d => d.parameters.length) = some 4 := (by decide +kernel); rw [h] at h2; exact (Option.some.inj h2).symm⟩
theorem md_L_tell : et_MW yL_tell cL_tell 6 (some .int) [(0, 12, 15, 18)] 5 := ⟨et_mt 1292 (by decide +kernel) rfl, et_mt 111 (by decide +kernel) rfl, ⟨by decide, by decide⟩, fun sig h => by have h2 : (parseMethodDescriptor (yL_tell).desc).map (fun d => d.parameters.length) = some 5 := (by decide +kernel); rw [h] at h2; exact (Option.some.inj h2).symm⟩
theorem md_L_thing : et_MW yL_thing cL_thing 5 (some .int) [(0, 10, 13, 18)] 4 := ⟨et_mt 1049 (by decide +kernel) rfl, et_mt 111 (by decide +kernel) rfl, ⟨by decide, by decide⟩, fun sig h => by have h2 : (parseMethodDescriptor (yL_thing).desc).map (fun d => d.parameters.length) = some 4 := (by decide +kernel); rw [h] at h2; exact (Option.some.inj h2).symm⟩
theorem md_L_utter : et_MW yL_utter cL_utter 6 (some .int) [(0, 12, 15, 18), (0, 12, 19, 13)] 5 := ⟨et_mt 1134 (by decide +kernel) rfl, et_mt 111 (by decide +kernel) rfl, ⟨by decide, by decide⟩, fun sig h => by have h2 : (parseMethodDescriptor (yL_utter).desc).map (fun d => d.parameters.length) = some 5 := (by decide +kernel); rw [h] at h2; exact (Option.some.inj h2).symm⟩
theorem md_L_village : et_MW yL_village cL_village 4 (some .int) [(0, 9, 12, 13)] 3 := ⟨et_mt 701 (by decide +kernel) rfl, et_mt 111 (by decide +kernel) rfl, ⟨by decide, by decide⟩, fun sig h => by have h2 : (parseMethodDescriptor (yL_village).desc).map (fun d => d.parameters.length) = some 3 := (by decide +kernel); rw [h] at h2; exact (Option.some.inj h2).symm⟩
theorem md_L_way : et_MW yL_way cL_way 4 (some .int) [(0, 9, 12, 18)] 3 := ⟨et_mt 1116 (by decide +kernel) rfl, et_mt 111 (by decide +kernel) rfl, ⟨by decide, by decide⟩, fun sig h => by have h2 : (parseMethodDescriptor (yL_way).desc).map (fun d => d.parameters.length) = some 3 := (by decide +kernel); rw [h] at h2; exact (Option.some.inj h2).symm⟩
theorem md_L_where : et_MW yL_where cL_where 5 (some .int) [(0, 10, 13, 18)] 4 := ⟨et_mt 1026 (by decide +kernel) rfl, et_mt 111 (by decide +kernel) rfl, ⟨by decide, by decide⟩, fun sig h => by have h2 : (parseMethodDescriptor (yL_where).desc).map (fun d => d.parameters.length) = some 4 := (by decide +kernel); rw [h] at h2; exact (Option.some.inj h2).symm⟩
theorem md_L_word : et_MW yL_word cL_word 7 (some .int) [(0, 14, 17, 18)] 6 := ⟨et_mt 1065 (by decide +kernel) rfl, et_mt 111 (by decide +kernel) rfl, ⟨by decide, by decide⟩, fun sig h => by have h2 : (parseMethodDescriptor (yL_word).desc).map (fun d => d.parameters.length) = some 6 := (by decide +kernel); rw [h] at h2; exact (Option.some.inj h2).symm⟩
theorem md_L_worlds : et_MW yL_worlds cL_worlds 4 (some .int) [(0, 9, 12, 13)] 3 := ⟨et_mt 1280 (by decide +kernel) rfl, et_mt 111 (by decide +kernel) rfl, ⟨by decide, by decide⟩, fun sig h => by have h2 : (parseMethodDescriptor (yL_worlds).desc).map (fun d => d.parameters.length) = some 3 := (by decide +kernel); rw [h] at h2; exact (Option.some.inj h2).symm⟩
theorem md_L_wrong : et_MW yL_wrong cL_wrong 4 (some .int) [(0, 9, 12, 18)] 3 := ⟨et_mt 1225 (by decide +kernel) rfl, et_mt 111 (by decide +kernel) rfl, ⟨by decide, by decide⟩, fun sig h => by have h2 : (parseMethodDescriptor (yL_wrong).desc).map (fun d => d.parameters.length) = some 3 := (by decide +kernel); rw [h] at h2; exact (Option.some.inj h2).symm⟩
theorem md_X10_apart : et_MD yX10_apart cX10_apart 2 (some .int) 1 := ⟨et_mt 1728 (by decide +kernel) rfl, et_mt 122 (by decide +kernel) rfl, ⟨by decide, by decide⟩, fun sig h => by have h2 : (parseMethodDescriptor (yX10_apart).desc).map (fun d => d.parameters.length) = some 1 := (by decide +kernel); rw [h] at h2; exact (Option.some.inj h2).symm⟩
theorem md_X10_could : et_MD yX10_could cX10_could 8 (some .int) 4 := ⟨et_mt 1836 (by decide +kernel) rfl, et_mt 122 (by decide +kernel) rfl, ⟨by decide, by decide⟩, fun sig h => by have h2 : (parseMethodDescriptor (yX10_could).desc).map (fun d => d.parameters.length) = some 4 := (by decide +kernel); rw [h] at h2; exact (Option.some.inj h2).symm⟩
theorem md_X10_count : et_MD yX10_count cX10_count 2 (some .int) 1 := ⟨et_mt 1682 (by decide +kernel) rfl, et_mt 122 (by decide +kernel) rfl, ⟨by decide, by decide⟩, fun sig h => by have h2 : (parseMethodDescriptor (yX10_count).desc).map (fun d => d.parameters.length) = some 1 := (by decide +kernel); rw [h] at h2; exact (Option.some.inj h2).symm⟩
theorem md_X10_fault : et_MD yX10_fault cX10_fault 1 (some .int) 0 := ⟨et_mt 1678 (by decide +kernel) rfl, et_mt 122 (by decide +kernel) rfl, ⟨by decide, by decide⟩, fun sig h => by have h2 : (parseMethodDescriptor (yX10_fault).desc).map (fun d => d.parameters.length) = some 0 := (by decide +kernel); rw [h] at h2; exact (Option.some.inj h2).symm⟩
theorem md_X10_feed : et_MD yX10_feed cX10_feed 6 (some .int) 5 := ⟨et_mt 1578 (by decide +kernel) rfl, et_mt 122 (by decide +kernel) rfl, ⟨by decide, by decide⟩, fun sig h => by have h2 : (parseMethodDescriptor (yX10_feed).desc).map (fun d => d.parameters.length) = some 5 := (by decide +kernel); rw [h] at h2; exact (Option.some.inj h2).symm⟩
theorem md_X10_image : et_MD yX10_image cX10_image 1 (none) 0 := ⟨et_mt 1901 (by decide +kernel) rfl, et_mt 122 (by decide +kernel) rfl, ⟨by decide, by decide⟩, fun sig h => by have h2 : (parseMethodDescriptor (yX10_image).desc).map (fun d => d.parameters.length) = some 0 := (by decide +kernel); rw [h] at h2; exact (Option.some.inj h2).symm⟩
theorem md_X10_known : et_MD yX10_known cX10_known 7 (some .boolean) 4 := ⟨et_mt 1897 (by decide +kernel) rfl, et_mt 122 (by decide +kernel) rfl, ⟨by decide, by decide⟩, fun sig h => by have h2 : (parseMethodDescriptor (yX10_known).desc).map (fun d => d.parameters.length) = some 4 := (by decide +kernel); rw [h] at h2; exact (Option.some.inj h2).symm⟩
theorem md_X10_likely : et_MD yX10_likely cX10_likely 13 (some .int) 2 := ⟨et_mt 1860 (by decide +kernel) rfl, et_mt 122 (by decide +kernel) rfl, ⟨by decide, by decide⟩, fun sig h => by have h2 : (parseMethodDescriptor (yX10_likely).desc).map (fun d => d.parameters.length) = some 2 := (by decide +kernel); rw [h] at h2; exact (Option.some.inj h2).symm⟩
theorem md_X10_mend : et_MD yX10_mend cX10_mend 5 (some .int) 0 := ⟨et_mt 1848 (by decide +kernel) rfl, et_mt 122 (by decide +kernel) rfl, ⟨by decide, by decide⟩, fun sig h => by have h2 : (parseMethodDescriptor (yX10_mend).desc).map (fun d => d.parameters.length) = some 0 := (by decide +kernel); rw [h] at h2; exact (Option.some.inj h2).symm⟩
theorem md_X10_mended : et_MD yX10_mended cX10_mended 2 (some .int) 1 := ⟨et_mt 1852 (by decide +kernel) rfl, et_mt 122 (by decide +kernel) rfl, ⟨by decide, by decide⟩, fun sig h => by have h2 : (parseMethodDescriptor (yX10_mended).desc).map (fun d => d.parameters.length) = some 1 := (by decide +kernel); rw [h] at h2; exact (Option.some.inj h2).symm⟩
theorem md_X10_restore : et_MD yX10_restore cX10_restore 1 (some .boolean) 0 := ⟨et_mt 1905 (by decide +kernel) rfl, et_mt 122 (by decide +kernel) rfl, ⟨by decide, by decide⟩, fun sig h => by have h2 : (parseMethodDescriptor (yX10_restore).desc).map (fun d => d.parameters.length) = some 0 := (by decide +kernel); rw [h] at h2; exact (Option.some.inj h2).symm⟩
theorem md_X10_say : et_MD yX10_say cX10_say 6 (some .int) 5 := ⟨et_mt 1740 (by decide +kernel) rfl, et_mt 122 (by decide +kernel) rfl, ⟨by decide, by decide⟩, fun sig h => by have h2 : (parseMethodDescriptor (yX10_say).desc).map (fun d => d.parameters.length) = some 5 := (by decide +kernel); rw [h] at h2; exact (Option.some.inj h2).symm⟩
theorem md_X10_saying : et_MD yX10_saying cX10_saying 3 (some .int) 2 := ⟨et_mt 1772 (by decide +kernel) rfl, et_mt 122 (by decide +kernel) rfl, ⟨by decide, by decide⟩, fun sig h => by have h2 : (parseMethodDescriptor (yX10_saying).desc).map (fun d => d.parameters.length) = some 2 := (by decide +kernel); rw [h] at h2; exact (Option.some.inj h2).symm⟩
theorem md_X10_silence : et_MD yX10_silence cX10_silence 7 (some .int) 2 := ⟨et_mt 1856 (by decide +kernel) rfl, et_mt 122 (by decide +kernel) rfl, ⟨by decide, by decide⟩, fun sig h => by have h2 : (parseMethodDescriptor (yX10_silence).desc).map (fun d => d.parameters.length) = some 2 := (by decide +kernel); rw [h] at h2; exact (Option.some.inj h2).symm⟩
theorem md_X10_tell : et_MD yX10_tell cX10_tell 5 (some .int) 3 := ⟨et_mt 1870 (by decide +kernel) rfl, et_mt 122 (by decide +kernel) rfl, ⟨by decide, by decide⟩, fun sig h => by have h2 : (parseMethodDescriptor (yX10_tell).desc).map (fun d => d.parameters.length) = some 3 := (by decide +kernel); rw [h] at h2; exact (Option.some.inj h2).symm⟩
theorem md_X10_thing : et_MD yX10_thing cX10_thing 3 (some .int) 2 := ⟨et_mt 1700 (by decide +kernel) rfl, et_mt 122 (by decide +kernel) rfl, ⟨by decide, by decide⟩, fun sig h => by have h2 : (parseMethodDescriptor (yX10_thing).desc).map (fun d => d.parameters.length) = some 2 := (by decide +kernel); rw [h] at h2; exact (Option.some.inj h2).symm⟩
theorem md_X10_thrown : et_MD yX10_thrown cX10_thrown 1 (some .int) 0 := ⟨et_mt 1574 (by decide +kernel) rfl, et_mt 122 (by decide +kernel) rfl, ⟨by decide, by decide⟩, fun sig h => by have h2 : (parseMethodDescriptor (yX10_thrown).desc).map (fun d => d.parameters.length) = some 0 := (by decide +kernel); rw [h] at h2; exact (Option.some.inj h2).symm⟩
theorem md_X10_unsay : et_MD yX10_unsay cX10_unsay 1 (some .int) 0 := ⟨et_mt 1768 (by decide +kernel) rfl, et_mt 122 (by decide +kernel) rfl, ⟨by decide, by decide⟩, fun sig h => by have h2 : (parseMethodDescriptor (yX10_unsay).desc).map (fun d => d.parameters.length) = some 0 := (by decide +kernel); rw [h] at h2; exact (Option.some.inj h2).symm⟩
theorem md_X10_utter : et_MD yX10_utter cX10_utter 13 (some .int) 3 := ⟨et_mt 1752 (by decide +kernel) rfl, et_mt 122 (by decide +kernel) rfl, ⟨by decide, by decide⟩, fun sig h => by have h2 : (parseMethodDescriptor (yX10_utter).desc).map (fun d => d.parameters.length) = some 3 := (by decide +kernel); rw [h] at h2; exact (Option.some.inj h2).symm⟩
theorem md_X10_village : et_MD yX10_village cX10_village 5 (some .int) 1 := ⟨et_mt 1586 (by decide +kernel) rfl, et_mt 122 (by decide +kernel) rfl, ⟨by decide, by decide⟩, fun sig h => by have h2 : (parseMethodDescriptor (yX10_village).desc).map (fun d => d.parameters.length) = some 1 := (by decide +kernel); rw [h] at h2; exact (Option.some.inj h2).symm⟩
theorem md_X10_way : et_MD yX10_way cX10_way 2 (some .int) 1 := ⟨et_mt 1736 (by decide +kernel) rfl, et_mt 122 (by decide +kernel) rfl, ⟨by decide, by decide⟩, fun sig h => by have h2 : (parseMethodDescriptor (yX10_way).desc).map (fun d => d.parameters.length) = some 1 := (by decide +kernel); rw [h] at h2; exact (Option.some.inj h2).symm⟩
theorem md_X10_where : et_MD yX10_where cX10_where 3 (some .int) 2 := ⟨et_mt 1692 (by decide +kernel) rfl, et_mt 122 (by decide +kernel) rfl, ⟨by decide, by decide⟩, fun sig h => by have h2 : (parseMethodDescriptor (yX10_where).desc).map (fun d => d.parameters.length) = some 2 := (by decide +kernel); rw [h] at h2; exact (Option.some.inj h2).symm⟩
theorem md_X10_word : et_MD yX10_word cX10_word 5 (some .int) 4 := ⟨et_mt 1708 (by decide +kernel) rfl, et_mt 122 (by decide +kernel) rfl, ⟨by decide, by decide⟩, fun sig h => by have h2 : (parseMethodDescriptor (yX10_word).desc).map (fun d => d.parameters.length) = some 4 := (by decide +kernel); rw [h] at h2; exact (Option.some.inj h2).symm⟩
theorem md_X10_worlds : et_MD yX10_worlds cX10_worlds 2 (some .int) 1 := ⟨et_mt 1866 (by decide +kernel) rfl, et_mt 122 (by decide +kernel) rfl, ⟨by decide, by decide⟩, fun sig h => by have h2 : (parseMethodDescriptor (yX10_worlds).desc).map (fun d => d.parameters.length) = some 1 := (by decide +kernel); rw [h] at h2; exact (Option.some.inj h2).symm⟩
theorem md_X10_wrong : et_MD yX10_wrong cX10_wrong 5 (some .int) 1 := ⟨et_mt 1840 (by decide +kernel) rfl, et_mt 122 (by decide +kernel) rfl, ⟨by decide, by decide⟩, fun sig h => by have h2 : (parseMethodDescriptor (yX10_wrong).desc).map (fun d => d.parameters.length) = some 1 := (by decide +kernel); rw [h] at h2; exact (Option.some.inj h2).symm⟩
theorem md_X9_fault : et_MD yX9_fault cX9_fault 1 (some .int) 0 := ⟨et_mt 557 (by decide +kernel) rfl, et_mt 112 (by decide +kernel) rfl, ⟨by decide, by decide⟩, fun sig h => by have h2 : (parseMethodDescriptor (yX9_fault).desc).map (fun d => d.parameters.length) = some 0 := (by decide +kernel); rw [h] at h2; exact (Option.some.inj h2).symm⟩
theorem md_X9_feed : et_MD yX9_feed cX9_feed 6 (some .int) 5 := ⟨et_mt 549 (by decide +kernel) rfl, et_mt 112 (by decide +kernel) rfl, ⟨by decide, by decide⟩, fun sig h => by have h2 : (parseMethodDescriptor (yX9_feed).desc).map (fun d => d.parameters.length) = some 5 := (by decide +kernel); rw [h] at h2; exact (Option.some.inj h2).symm⟩
theorem md_X9_image : et_MD yX9_image cX9_image 1 (none) 0 := ⟨et_mt 683 (by decide +kernel) rfl, et_mt 112 (by decide +kernel) rfl, ⟨by decide, by decide⟩, fun sig h => by have h2 : (parseMethodDescriptor (yX9_image).desc).map (fun d => d.parameters.length) = some 0 := (by decide +kernel); rw [h] at h2; exact (Option.some.inj h2).symm⟩
theorem md_X9_mend : et_MD yX9_mend cX9_mend 1 (some .int) 0 := ⟨et_mt 569 (by decide +kernel) rfl, et_mt 112 (by decide +kernel) rfl, ⟨by decide, by decide⟩, fun sig h => by have h2 : (parseMethodDescriptor (yX9_mend).desc).map (fun d => d.parameters.length) = some 0 := (by decide +kernel); rw [h] at h2; exact (Option.some.inj h2).symm⟩
theorem md_X9_restore : et_MD yX9_restore cX9_restore 1 (some .boolean) 0 := ⟨et_mt 698 (by decide +kernel) rfl, et_mt 112 (by decide +kernel) rfl, ⟨by decide, by decide⟩, fun sig h => by have h2 : (parseMethodDescriptor (yX9_restore).desc).map (fun d => d.parameters.length) = some 0 := (by decide +kernel); rw [h] at h2; exact (Option.some.inj h2).symm⟩
theorem md_X9_unsay : et_MD yX9_unsay cX9_unsay 1 (some .int) 0 := ⟨et_mt 561 (by decide +kernel) rfl, et_mt 112 (by decide +kernel) rfl, ⟨by decide, by decide⟩, fun sig h => by have h2 : (parseMethodDescriptor (yX9_unsay).desc).map (fun d => d.parameters.length) = some 0 := (by decide +kernel); rw [h] at h2; exact (Option.some.inj h2).symm⟩
theorem mi_X10_apart : et_MI yX10_apart 10 := ⟨et_mt 1726 (by decide +kernel) rfl, et_mt 1727 (by decide +kernel) rfl, TX10, 74, rfl⟩
theorem mi_X10_could : et_MI yX10_could 10 := ⟨et_mt 1834 (by decide +kernel) rfl, et_mt 1835 (by decide +kernel) rfl, TX10, 74, rfl⟩
theorem mi_X10_count : et_MI yX10_count 10 := ⟨et_mt 1680 (by decide +kernel) rfl, et_mt 1681 (by decide +kernel) rfl, TX10, 74, rfl⟩
theorem mi_X10_fault : et_MI yX10_fault 10 := ⟨et_mt 1676 (by decide +kernel) rfl, et_mt 1677 (by decide +kernel) rfl, TX10, 74, rfl⟩
theorem mi_X10_feed : et_MI yX10_feed 10 := ⟨et_mt 1576 (by decide +kernel) rfl, et_mt 1577 (by decide +kernel) rfl, TX10, 74, rfl⟩
theorem mi_X10_image : et_MI yX10_image 10 := ⟨et_mt 1899 (by decide +kernel) rfl, et_mt 1900 (by decide +kernel) rfl, TX10, 74, rfl⟩
theorem mi_X10_known : et_MI yX10_known 10 := ⟨et_mt 1895 (by decide +kernel) rfl, et_mt 1896 (by decide +kernel) rfl, TX10, 74, rfl⟩
theorem mi_X10_likely : et_MI yX10_likely 10 := ⟨et_mt 1858 (by decide +kernel) rfl, et_mt 1859 (by decide +kernel) rfl, TX10, 74, rfl⟩
theorem mi_X10_mend : et_MI yX10_mend 10 := ⟨et_mt 1846 (by decide +kernel) rfl, et_mt 1847 (by decide +kernel) rfl, TX10, 74, rfl⟩
theorem mi_X10_mended : et_MI yX10_mended 10 := ⟨et_mt 1850 (by decide +kernel) rfl, et_mt 1851 (by decide +kernel) rfl, TX10, 74, rfl⟩
theorem mi_X10_restore : et_MI yX10_restore 10 := ⟨et_mt 1903 (by decide +kernel) rfl, et_mt 1904 (by decide +kernel) rfl, TX10, 74, rfl⟩
theorem mi_X10_say : et_MI yX10_say 10 := ⟨et_mt 1738 (by decide +kernel) rfl, et_mt 1739 (by decide +kernel) rfl, TX10, 74, rfl⟩
theorem mi_X10_saying : et_MI yX10_saying 10 := ⟨et_mt 1770 (by decide +kernel) rfl, et_mt 1771 (by decide +kernel) rfl, TX10, 74, rfl⟩
theorem mi_X10_silence : et_MI yX10_silence 10 := ⟨et_mt 1854 (by decide +kernel) rfl, et_mt 1855 (by decide +kernel) rfl, TX10, 74, rfl⟩
theorem mi_X10_tell : et_MI yX10_tell 10 := ⟨et_mt 1868 (by decide +kernel) rfl, et_mt 1869 (by decide +kernel) rfl, TX10, 74, rfl⟩
theorem mi_X10_thing : et_MI yX10_thing 10 := ⟨et_mt 1698 (by decide +kernel) rfl, et_mt 1699 (by decide +kernel) rfl, TX10, 74, rfl⟩
theorem mi_X10_thrown : et_MI yX10_thrown 10 := ⟨et_mt 1572 (by decide +kernel) rfl, et_mt 1573 (by decide +kernel) rfl, TX10, 74, rfl⟩
theorem mi_X10_unsay : et_MI yX10_unsay 10 := ⟨et_mt 1766 (by decide +kernel) rfl, et_mt 1767 (by decide +kernel) rfl, TX10, 74, rfl⟩
theorem mi_X10_utter : et_MI yX10_utter 10 := ⟨et_mt 1750 (by decide +kernel) rfl, et_mt 1751 (by decide +kernel) rfl, TX10, 74, rfl⟩
theorem mi_X10_village : et_MI yX10_village 10 := ⟨et_mt 1584 (by decide +kernel) rfl, et_mt 1585 (by decide +kernel) rfl, TX10, 74, rfl⟩
theorem mi_X10_way : et_MI yX10_way 10 := ⟨et_mt 1734 (by decide +kernel) rfl, et_mt 1735 (by decide +kernel) rfl, TX10, 74, rfl⟩
theorem mi_X10_where : et_MI yX10_where 10 := ⟨et_mt 1690 (by decide +kernel) rfl, et_mt 1691 (by decide +kernel) rfl, TX10, 74, rfl⟩
theorem mi_X10_word : et_MI yX10_word 10 := ⟨et_mt 1706 (by decide +kernel) rfl, et_mt 1707 (by decide +kernel) rfl, TX10, 74, rfl⟩
theorem mi_X10_worlds : et_MI yX10_worlds 10 := ⟨et_mt 1864 (by decide +kernel) rfl, et_mt 1865 (by decide +kernel) rfl, TX10, 74, rfl⟩
theorem mi_X10_wrong : et_MI yX10_wrong 10 := ⟨et_mt 1838 (by decide +kernel) rfl, et_mt 1839 (by decide +kernel) rfl, TX10, 74, rfl⟩
theorem mi_X9_fault : et_MI yX9_fault 9 := ⟨et_mt 555 (by decide +kernel) rfl, et_mt 556 (by decide +kernel) rfl, TX9, 18, rfl⟩
theorem mi_X9_feed : et_MI yX9_feed 9 := ⟨et_mt 547 (by decide +kernel) rfl, et_mt 548 (by decide +kernel) rfl, TX9, 18, rfl⟩
theorem mi_X9_image : et_MI yX9_image 9 := ⟨et_mt 681 (by decide +kernel) rfl, et_mt 682 (by decide +kernel) rfl, TX9, 18, rfl⟩
theorem mi_X9_mend : et_MI yX9_mend 9 := ⟨et_mt 567 (by decide +kernel) rfl, et_mt 568 (by decide +kernel) rfl, TX9, 18, rfl⟩
theorem mi_X9_restore : et_MI yX9_restore 9 := ⟨et_mt 696 (by decide +kernel) rfl, et_mt 697 (by decide +kernel) rfl, TX9, 18, rfl⟩
theorem mi_X9_unsay : et_MI yX9_unsay 9 := ⟨et_mt 559 (by decide +kernel) rfl, et_mt 560 (by decide +kernel) rfl, TX9, 18, rfl⟩
theorem st_L_apart : Cond.static yL_apart ∈ et_tb := et_mt 1095 (by decide +kernel) rfl
theorem st_L_could : Cond.static yL_could ∈ et_tb := et_mt 1213 (by decide +kernel) rfl
theorem st_L_count : Cond.static yL_count ∈ et_tb := et_mt 1001 (by decide +kernel) rfl
theorem st_L_known : Cond.static yL_known ∈ et_tb := et_mt 1328 (by decide +kernel) rfl
theorem st_L_likely : Cond.static yL_likely ∈ et_tb := et_mt 1264 (by decide +kernel) rfl
theorem st_L_mended : Cond.static yL_mended ∈ et_tb := et_mt 1240 (by decide +kernel) rfl
theorem st_L_say : Cond.static yL_say ∈ et_tb := et_mt 1122 (by decide +kernel) rfl
theorem st_L_saying : Cond.static yL_saying ∈ et_tb := et_mt 1166 (by decide +kernel) rfl
theorem st_L_silence : Cond.static yL_silence ∈ et_tb := et_mt 1247 (by decide +kernel) rfl
theorem st_L_tell : Cond.static yL_tell ∈ et_tb := et_mt 1291 (by decide +kernel) rfl
theorem st_L_thing : Cond.static yL_thing ∈ et_tb := et_mt 1048 (by decide +kernel) rfl
theorem st_L_utter : Cond.static yL_utter ∈ et_tb := et_mt 1133 (by decide +kernel) rfl
theorem st_L_village : Cond.static yL_village ∈ et_tb := et_mt 700 (by decide +kernel) rfl
theorem st_L_way : Cond.static yL_way ∈ et_tb := et_mt 1115 (by decide +kernel) rfl
theorem st_L_where : Cond.static yL_where ∈ et_tb := et_mt 1025 (by decide +kernel) rfl
theorem st_L_word : Cond.static yL_word ∈ et_tb := et_mt 1064 (by decide +kernel) rfl
theorem st_L_worlds : Cond.static yL_worlds ∈ et_tb := et_mt 1279 (by decide +kernel) rfl
theorem st_L_wrong : Cond.static yL_wrong ∈ et_tb := et_mt 1224 (by decide +kernel) rfl
theorem kl_1 : Int64.ofNat ((1 : Fin 2) : Nat) = 1 := by decide
theorem kn_6 (x : Int32) : x + Int32.ofInt 6 = x + 6 := by rw [show Int32.ofInt 6 = 6 from by decide]
theorem dL_law_0 : decode code 0 = .ok (.new 8, 3) := by decide +kernel
theorem dL_law_3 : decode code 3 = .ok (.dup, 1) := by decide +kernel
theorem dL_law_4 : decode code 4 = .ok (.invokespecial 75, 3) := by decide +kernel
theorem dL_law_7 : decode code 7 = .ok (.astore_n 1, 1) := by decide +kernel
theorem dL_law_8 : decode code 8 = .ok (.new 76, 3) := by decide +kernel
theorem dL_law_11 : decode code 11 = .ok (.dup, 1) := by decide +kernel
theorem dL_law_12 : decode code 12 = .ok (.invokespecial 78, 3) := by decide +kernel
theorem dL_law_15 : decode code 15 = .ok (.astore_n 2, 1) := by decide +kernel
theorem dL_law_16 : decode code 16 = .ok (.iconst 1, 1) := by decide +kernel
theorem dL_law_17 : decode code 17 = .ok (.newarray .long, 2) := by decide +kernel
theorem dL_law_19 : decode code 19 = .ok (.astore_n 3, 1) := by decide +kernel
theorem dL_law_20 : decode code 20 = .ok (.iconst 0, 1) := by decide +kernel
theorem dL_law_21 : decode code 21 = .ok (.istore 4, 2) := by decide +kernel
theorem dL_law_23 : decode code 23 = .ok (.iload 4, 2) := by decide +kernel
theorem dL_law_25 : decode code 25 = .ok (.aload_n 0, 1) := by decide +kernel
theorem dL_law_26 : decode code 26 = .ok (.arraylength, 1) := by decide +kernel
theorem dL_law_27 : decode code 27 = .ok (.bipush 6, 2) := by decide +kernel
theorem dL_law_29 : decode code 29 = .ok (.isub, 1) := by decide +kernel
theorem dL_law_30 : decode code 30 = .ok (.if_icmp .gt 1607, 3) := by decide +kernel
theorem dL_law_33 : decode code 33 = .ok (.aload_n 0, 1) := by decide +kernel
theorem dL_law_34 : decode code 34 = .ok (.iload 4, 2) := by decide +kernel
theorem dL_law_36 : decode code 36 = .ok (.iaload, 1) := by decide +kernel
theorem dL_law_37 : decode code 37 = .ok (.bipush 31, 2) := by decide +kernel
theorem dL_law_39 : decode code 39 = .ok (.iand, 1) := by decide +kernel
theorem dL_law_40 : decode code 40 = .ok (.tableswitch 1591 0 23 #[112, 185, 241, 254, 310, 378, 446, 538, 594, 650, 770, 850, 863, 931, 1039, 1095, 1108, 1164, 1232, 1300, 1356, 1452, 1567, 1578], 112) := by decide +kernel
theorem dL_law_152 : decode code 152 = .ok (.aload_n 1, 1) := by decide +kernel
theorem dL_law_153 : decode code 153 = .ok (.aload_n 0, 1) := by decide +kernel
theorem dL_law_154 : decode code 154 = .ok (.iload 4, 2) := by decide +kernel
theorem dL_law_156 : decode code 156 = .ok (.iconst 1, 1) := by decide +kernel
theorem dL_law_157 : decode code 157 = .ok (.iadd, 1) := by decide +kernel
theorem dL_law_158 : decode code 158 = .ok (.iaload, 1) := by decide +kernel
theorem dL_law_159 : decode code 159 = .ok (.aload_n 0, 1) := by decide +kernel
theorem dL_law_160 : decode code 160 = .ok (.iload 4, 2) := by decide +kernel
theorem dL_law_162 : decode code 162 = .ok (.iconst 2, 1) := by decide +kernel
theorem dL_law_163 : decode code 163 = .ok (.iadd, 1) := by decide +kernel
theorem dL_law_164 : decode code 164 = .ok (.iaload, 1) := by decide +kernel
theorem dL_law_165 : decode code 165 = .ok (.aload_n 0, 1) := by decide +kernel
theorem dL_law_166 : decode code 166 = .ok (.iload 4, 2) := by decide +kernel
theorem dL_law_168 : decode code 168 = .ok (.iconst 3, 1) := by decide +kernel
theorem dL_law_169 : decode code 169 = .ok (.iadd, 1) := by decide +kernel
theorem dL_law_170 : decode code 170 = .ok (.iaload, 1) := by decide +kernel
theorem dL_law_171 : decode code 171 = .ok (.aload_n 0, 1) := by decide +kernel
theorem dL_law_172 : decode code 172 = .ok (.iload 4, 2) := by decide +kernel
theorem dL_law_174 : decode code 174 = .ok (.iconst 4, 1) := by decide +kernel
theorem dL_law_175 : decode code 175 = .ok (.iadd, 1) := by decide +kernel
theorem dL_law_176 : decode code 176 = .ok (.iaload, 1) := by decide +kernel
theorem dL_law_177 : decode code 177 = .ok (.aload_n 0, 1) := by decide +kernel
theorem dL_law_178 : decode code 178 = .ok (.iload 4, 2) := by decide +kernel
theorem dL_law_180 : decode code 180 = .ok (.iconst 5, 1) := by decide +kernel
theorem dL_law_181 : decode code 181 = .ok (.iadd, 1) := by decide +kernel
theorem dL_law_182 : decode code 182 = .ok (.iaload, 1) := by decide +kernel
theorem dL_law_183 : decode code 183 = .ok (.invokevirtual 79, 3) := by decide +kernel
theorem dL_law_186 : decode code 186 = .ok (.aload_n 2, 1) := by decide +kernel
theorem dL_law_187 : decode code 187 = .ok (.aload_n 0, 1) := by decide +kernel
theorem dL_law_188 : decode code 188 = .ok (.iload 4, 2) := by decide +kernel
theorem dL_law_190 : decode code 190 = .ok (.iconst 1, 1) := by decide +kernel
theorem dL_law_191 : decode code 191 = .ok (.iadd, 1) := by decide +kernel
theorem dL_law_192 : decode code 192 = .ok (.iaload, 1) := by decide +kernel
theorem dL_law_193 : decode code 193 = .ok (.aload_n 0, 1) := by decide +kernel
theorem dL_law_194 : decode code 194 = .ok (.iload 4, 2) := by decide +kernel
theorem dL_law_196 : decode code 196 = .ok (.iconst 2, 1) := by decide +kernel
theorem dL_law_197 : decode code 197 = .ok (.iadd, 1) := by decide +kernel
theorem dL_law_198 : decode code 198 = .ok (.iaload, 1) := by decide +kernel
theorem dL_law_199 : decode code 199 = .ok (.aload_n 0, 1) := by decide +kernel
theorem dL_law_200 : decode code 200 = .ok (.iload 4, 2) := by decide +kernel
theorem dL_law_202 : decode code 202 = .ok (.iconst 3, 1) := by decide +kernel
theorem dL_law_203 : decode code 203 = .ok (.iadd, 1) := by decide +kernel
theorem dL_law_204 : decode code 204 = .ok (.iaload, 1) := by decide +kernel
theorem dL_law_205 : decode code 205 = .ok (.aload_n 0, 1) := by decide +kernel
theorem dL_law_206 : decode code 206 = .ok (.iload 4, 2) := by decide +kernel
theorem dL_law_208 : decode code 208 = .ok (.iconst 4, 1) := by decide +kernel
theorem dL_law_209 : decode code 209 = .ok (.iadd, 1) := by decide +kernel
theorem dL_law_210 : decode code 210 = .ok (.iaload, 1) := by decide +kernel
theorem dL_law_211 : decode code 211 = .ok (.aload_n 0, 1) := by decide +kernel
theorem dL_law_212 : decode code 212 = .ok (.iload 4, 2) := by decide +kernel
theorem dL_law_214 : decode code 214 = .ok (.iconst 5, 1) := by decide +kernel
theorem dL_law_215 : decode code 215 = .ok (.iadd, 1) := by decide +kernel
theorem dL_law_216 : decode code 216 = .ok (.iaload, 1) := by decide +kernel
theorem dL_law_217 : decode code 217 = .ok (.invokevirtual 83, 3) := by decide +kernel
theorem dL_law_220 : decode code 220 = .ok (.if_icmp .eq 1411, 3) := by decide +kernel
theorem dL_law_223 : decode code 223 = .ok (.iconst 0, 1) := by decide +kernel
theorem dL_law_224 : decode code 224 = .ok (.ireturn, 1) := by decide +kernel
theorem dL_law_225 : decode code 225 = .ok (.aload_n 1, 1) := by decide +kernel
theorem dL_law_226 : decode code 226 = .ok (.aload_n 0, 1) := by decide +kernel
theorem dL_law_227 : decode code 227 = .ok (.iload 4, 2) := by decide +kernel
theorem dL_law_229 : decode code 229 = .ok (.iconst 1, 1) := by decide +kernel
theorem dL_law_230 : decode code 230 = .ok (.iadd, 1) := by decide +kernel
theorem dL_law_231 : decode code 231 = .ok (.iaload, 1) := by decide +kernel
theorem dL_law_232 : decode code 232 = .ok (.aload_n 3, 1) := by decide +kernel
theorem dL_law_233 : decode code 233 = .ok (.invokestatic 84, 3) := by decide +kernel
theorem dL_law_236 : decode code 236 = .ok (.istore 5, 2) := by decide +kernel
theorem dL_law_238 : decode code 238 = .ok (.aload_n 2, 1) := by decide +kernel
theorem dL_law_239 : decode code 239 = .ok (.aload_n 0, 1) := by decide +kernel
theorem dL_law_240 : decode code 240 = .ok (.iload 4, 2) := by decide +kernel
theorem dL_law_242 : decode code 242 = .ok (.iconst 1, 1) := by decide +kernel
theorem dL_law_243 : decode code 243 = .ok (.iadd, 1) := by decide +kernel
theorem dL_law_244 : decode code 244 = .ok (.iaload, 1) := by decide +kernel
theorem dL_law_245 : decode code 245 = .ok (.invokevirtual 89, 3) := by decide +kernel
theorem dL_law_248 : decode code 248 = .ok (.istore 6, 2) := by decide +kernel
theorem dL_law_250 : decode code 250 = .ok (.aload_n 2, 1) := by decide +kernel
theorem dL_law_251 : decode code 251 = .ok (.invokevirtual 90, 3) := by decide +kernel
theorem dL_law_254 : decode code 254 = .ok (.iload 5, 2) := by decide +kernel
theorem dL_law_256 : decode code 256 = .ok (.if_icmp .eq 5, 3) := by decide +kernel
theorem dL_law_259 : decode code 259 = .ok (.iconst 0, 1) := by decide +kernel
theorem dL_law_260 : decode code 260 = .ok (.ireturn, 1) := by decide +kernel
theorem dL_law_261 : decode code 261 = .ok (.iload 5, 2) := by decide +kernel
theorem dL_law_263 : decode code 263 = .ok (.ifCond .ne 15, 3) := by decide +kernel
theorem dL_law_266 : decode code 266 = .ok (.aload_n 3, 1) := by decide +kernel
theorem dL_law_267 : decode code 267 = .ok (.iconst 0, 1) := by decide +kernel
theorem dL_law_268 : decode code 268 = .ok (.laload, 1) := by decide +kernel
theorem dL_law_269 : decode code 269 = .ok (.iload 6, 2) := by decide +kernel
theorem dL_law_271 : decode code 271 = .ok (.i2l, 1) := by decide +kernel
theorem dL_law_272 : decode code 272 = .ok (.lcmp, 1) := by decide +kernel
theorem dL_law_273 : decode code 273 = .ok (.ifCond .eq 5, 3) := by decide +kernel
theorem dL_law_276 : decode code 276 = .ok (.iconst 0, 1) := by decide +kernel
theorem dL_law_277 : decode code 277 = .ok (.ireturn, 1) := by decide +kernel
theorem dL_law_278 : decode code 278 = .ok (.goto 1353, 3) := by decide +kernel
theorem dL_law_281 : decode code 281 = .ok (.aload_n 1, 1) := by decide +kernel
theorem dL_law_282 : decode code 282 = .ok (.invokevirtual 94, 3) := by decide +kernel
theorem dL_law_285 : decode code 285 = .ok (.aload_n 2, 1) := by decide +kernel
theorem dL_law_286 : decode code 286 = .ok (.invokevirtual 97, 3) := by decide +kernel
theorem dL_law_289 : decode code 289 = .ok (.if_icmp .eq 1342, 3) := by decide +kernel
theorem dL_law_292 : decode code 292 = .ok (.iconst 0, 1) := by decide +kernel
theorem dL_law_293 : decode code 293 = .ok (.ireturn, 1) := by decide +kernel
theorem dL_law_294 : decode code 294 = .ok (.aload_n 1, 1) := by decide +kernel
theorem dL_law_295 : decode code 295 = .ok (.aload_n 0, 1) := by decide +kernel
theorem dL_law_296 : decode code 296 = .ok (.iload 4, 2) := by decide +kernel
theorem dL_law_298 : decode code 298 = .ok (.iconst 1, 1) := by decide +kernel
theorem dL_law_299 : decode code 299 = .ok (.iadd, 1) := by decide +kernel
theorem dL_law_300 : decode code 300 = .ok (.iaload, 1) := by decide +kernel
theorem dL_law_301 : decode code 301 = .ok (.aload_n 3, 1) := by decide +kernel
theorem dL_law_302 : decode code 302 = .ok (.invokestatic 98, 3) := by decide +kernel
theorem dL_law_305 : decode code 305 = .ok (.istore 5, 2) := by decide +kernel
theorem dL_law_307 : decode code 307 = .ok (.aload_n 2, 1) := by decide +kernel
theorem dL_law_308 : decode code 308 = .ok (.aload_n 0, 1) := by decide +kernel
theorem dL_law_309 : decode code 309 = .ok (.iload 4, 2) := by decide +kernel
theorem dL_law_311 : decode code 311 = .ok (.iconst 1, 1) := by decide +kernel
theorem dL_law_312 : decode code 312 = .ok (.iadd, 1) := by decide +kernel
theorem dL_law_313 : decode code 313 = .ok (.iaload, 1) := by decide +kernel
theorem dL_law_314 : decode code 314 = .ok (.invokevirtual 100, 3) := by decide +kernel
theorem dL_law_317 : decode code 317 = .ok (.istore 6, 2) := by decide +kernel
theorem dL_law_319 : decode code 319 = .ok (.aload_n 2, 1) := by decide +kernel
theorem dL_law_320 : decode code 320 = .ok (.invokevirtual 90, 3) := by decide +kernel
theorem dL_law_323 : decode code 323 = .ok (.iload 5, 2) := by decide +kernel
theorem dL_law_325 : decode code 325 = .ok (.if_icmp .eq 5, 3) := by decide +kernel
theorem dL_law_328 : decode code 328 = .ok (.iconst 0, 1) := by decide +kernel
theorem dL_law_329 : decode code 329 = .ok (.ireturn, 1) := by decide +kernel
theorem dL_law_330 : decode code 330 = .ok (.iload 5, 2) := by decide +kernel
theorem dL_law_332 : decode code 332 = .ok (.ifCond .ne 15, 3) := by decide +kernel
theorem dL_law_335 : decode code 335 = .ok (.aload_n 3, 1) := by decide +kernel
theorem dL_law_336 : decode code 336 = .ok (.iconst 0, 1) := by decide +kernel
theorem dL_law_337 : decode code 337 = .ok (.laload, 1) := by decide +kernel
theorem dL_law_338 : decode code 338 = .ok (.iload 6, 2) := by decide +kernel
theorem dL_law_340 : decode code 340 = .ok (.i2l, 1) := by decide +kernel
theorem dL_law_341 : decode code 341 = .ok (.lcmp, 1) := by decide +kernel
theorem dL_law_342 : decode code 342 = .ok (.ifCond .eq 5, 3) := by decide +kernel
theorem dL_law_345 : decode code 345 = .ok (.iconst 0, 1) := by decide +kernel
theorem dL_law_346 : decode code 346 = .ok (.ireturn, 1) := by decide +kernel
theorem dL_law_347 : decode code 347 = .ok (.goto 1284, 3) := by decide +kernel
theorem dL_law_350 : decode code 350 = .ok (.aload_n 1, 1) := by decide +kernel
theorem dL_law_351 : decode code 351 = .ok (.aload_n 0, 1) := by decide +kernel
theorem dL_law_352 : decode code 352 = .ok (.iload 4, 2) := by decide +kernel
theorem dL_law_354 : decode code 354 = .ok (.iconst 1, 1) := by decide +kernel
theorem dL_law_355 : decode code 355 = .ok (.iadd, 1) := by decide +kernel
theorem dL_law_356 : decode code 356 = .ok (.iaload, 1) := by decide +kernel
theorem dL_law_357 : decode code 357 = .ok (.aload_n 0, 1) := by decide +kernel
theorem dL_law_358 : decode code 358 = .ok (.iload 4, 2) := by decide +kernel
theorem dL_law_360 : decode code 360 = .ok (.iconst 2, 1) := by decide +kernel
theorem dL_law_361 : decode code 361 = .ok (.iadd, 1) := by decide +kernel
theorem dL_law_362 : decode code 362 = .ok (.iaload, 1) := by decide +kernel
theorem dL_law_363 : decode code 363 = .ok (.aload_n 3, 1) := by decide +kernel
theorem dL_law_364 : decode code 364 = .ok (.invokestatic 101, 3) := by decide +kernel
theorem dL_law_367 : decode code 367 = .ok (.istore 5, 2) := by decide +kernel
theorem dL_law_369 : decode code 369 = .ok (.aload_n 2, 1) := by decide +kernel
theorem dL_law_370 : decode code 370 = .ok (.aload_n 0, 1) := by decide +kernel
theorem dL_law_371 : decode code 371 = .ok (.iload 4, 2) := by decide +kernel
theorem dL_law_373 : decode code 373 = .ok (.iconst 1, 1) := by decide +kernel
theorem dL_law_374 : decode code 374 = .ok (.iadd, 1) := by decide +kernel
theorem dL_law_375 : decode code 375 = .ok (.iaload, 1) := by decide +kernel
theorem dL_law_376 : decode code 376 = .ok (.aload_n 0, 1) := by decide +kernel
theorem dL_law_377 : decode code 377 = .ok (.iload 4, 2) := by decide +kernel
theorem dL_law_379 : decode code 379 = .ok (.iconst 2, 1) := by decide +kernel
theorem dL_law_380 : decode code 380 = .ok (.iadd, 1) := by decide +kernel
theorem dL_law_381 : decode code 381 = .ok (.iaload, 1) := by decide +kernel
theorem dL_law_382 : decode code 382 = .ok (.invokevirtual 104, 3) := by decide +kernel
theorem dL_law_385 : decode code 385 = .ok (.istore 6, 2) := by decide +kernel
theorem dL_law_387 : decode code 387 = .ok (.aload_n 2, 1) := by decide +kernel
theorem dL_law_388 : decode code 388 = .ok (.invokevirtual 90, 3) := by decide +kernel
theorem dL_law_391 : decode code 391 = .ok (.iload 5, 2) := by decide +kernel
theorem dL_law_393 : decode code 393 = .ok (.if_icmp .eq 5, 3) := by decide +kernel
theorem dL_law_396 : decode code 396 = .ok (.iconst 0, 1) := by decide +kernel
theorem dL_law_397 : decode code 397 = .ok (.ireturn, 1) := by decide +kernel
theorem dL_law_398 : decode code 398 = .ok (.iload 5, 2) := by decide +kernel
theorem dL_law_400 : decode code 400 = .ok (.ifCond .ne 15, 3) := by decide +kernel
theorem dL_law_403 : decode code 403 = .ok (.aload_n 3, 1) := by decide +kernel
theorem dL_law_404 : decode code 404 = .ok (.iconst 0, 1) := by decide +kernel
theorem dL_law_405 : decode code 405 = .ok (.laload, 1) := by decide +kernel
theorem dL_law_406 : decode code 406 = .ok (.iload 6, 2) := by decide +kernel
theorem dL_law_408 : decode code 408 = .ok (.i2l, 1) := by decide +kernel
theorem dL_law_409 : decode code 409 = .ok (.lcmp, 1) := by decide +kernel
theorem dL_law_410 : decode code 410 = .ok (.ifCond .eq 5, 3) := by decide +kernel
theorem dL_law_413 : decode code 413 = .ok (.iconst 0, 1) := by decide +kernel
theorem dL_law_414 : decode code 414 = .ok (.ireturn, 1) := by decide +kernel
theorem dL_law_415 : decode code 415 = .ok (.goto 1216, 3) := by decide +kernel
theorem dL_law_418 : decode code 418 = .ok (.aload_n 1, 1) := by decide +kernel
theorem dL_law_419 : decode code 419 = .ok (.aload_n 0, 1) := by decide +kernel
theorem dL_law_420 : decode code 420 = .ok (.iload 4, 2) := by decide +kernel
theorem dL_law_422 : decode code 422 = .ok (.iconst 1, 1) := by decide +kernel
theorem dL_law_423 : decode code 423 = .ok (.iadd, 1) := by decide +kernel
theorem dL_law_424 : decode code 424 = .ok (.iaload, 1) := by decide +kernel
theorem dL_law_425 : decode code 425 = .ok (.aload_n 0, 1) := by decide +kernel
theorem dL_law_426 : decode code 426 = .ok (.iload 4, 2) := by decide +kernel
theorem dL_law_428 : decode code 428 = .ok (.iconst 2, 1) := by decide +kernel
theorem dL_law_429 : decode code 429 = .ok (.iadd, 1) := by decide +kernel
theorem dL_law_430 : decode code 430 = .ok (.iaload, 1) := by decide +kernel
theorem dL_law_431 : decode code 431 = .ok (.aload_n 3, 1) := by decide +kernel
theorem dL_law_432 : decode code 432 = .ok (.invokestatic 105, 3) := by decide +kernel
theorem dL_law_435 : decode code 435 = .ok (.istore 5, 2) := by decide +kernel
theorem dL_law_437 : decode code 437 = .ok (.aload_n 2, 1) := by decide +kernel
theorem dL_law_438 : decode code 438 = .ok (.aload_n 0, 1) := by decide +kernel
theorem dL_law_439 : decode code 439 = .ok (.iload 4, 2) := by decide +kernel
theorem dL_law_441 : decode code 441 = .ok (.iconst 1, 1) := by decide +kernel
theorem dL_law_442 : decode code 442 = .ok (.iadd, 1) := by decide +kernel
theorem dL_law_443 : decode code 443 = .ok (.iaload, 1) := by decide +kernel
theorem dL_law_444 : decode code 444 = .ok (.aload_n 0, 1) := by decide +kernel
theorem dL_law_445 : decode code 445 = .ok (.iload 4, 2) := by decide +kernel
theorem dL_law_447 : decode code 447 = .ok (.iconst 2, 1) := by decide +kernel
theorem dL_law_448 : decode code 448 = .ok (.iadd, 1) := by decide +kernel
theorem dL_law_449 : decode code 449 = .ok (.iaload, 1) := by decide +kernel
theorem dL_law_450 : decode code 450 = .ok (.invokevirtual 107, 3) := by decide +kernel
theorem dL_law_453 : decode code 453 = .ok (.istore 6, 2) := by decide +kernel
theorem dL_law_455 : decode code 455 = .ok (.aload_n 2, 1) := by decide +kernel
theorem dL_law_456 : decode code 456 = .ok (.invokevirtual 90, 3) := by decide +kernel
theorem dL_law_459 : decode code 459 = .ok (.iload 5, 2) := by decide +kernel
theorem dL_law_461 : decode code 461 = .ok (.if_icmp .eq 5, 3) := by decide +kernel
theorem dL_law_464 : decode code 464 = .ok (.iconst 0, 1) := by decide +kernel
theorem dL_law_465 : decode code 465 = .ok (.ireturn, 1) := by decide +kernel
theorem dL_law_466 : decode code 466 = .ok (.iload 5, 2) := by decide +kernel
theorem dL_law_468 : decode code 468 = .ok (.ifCond .ne 15, 3) := by decide +kernel
theorem dL_law_471 : decode code 471 = .ok (.aload_n 3, 1) := by decide +kernel
theorem dL_law_472 : decode code 472 = .ok (.iconst 0, 1) := by decide +kernel
theorem dL_law_473 : decode code 473 = .ok (.laload, 1) := by decide +kernel
theorem dL_law_474 : decode code 474 = .ok (.iload 6, 2) := by decide +kernel
theorem dL_law_476 : decode code 476 = .ok (.i2l, 1) := by decide +kernel
theorem dL_law_477 : decode code 477 = .ok (.lcmp, 1) := by decide +kernel
theorem dL_law_478 : decode code 478 = .ok (.ifCond .eq 5, 3) := by decide +kernel
theorem dL_law_481 : decode code 481 = .ok (.iconst 0, 1) := by decide +kernel
theorem dL_law_482 : decode code 482 = .ok (.ireturn, 1) := by decide +kernel
theorem dL_law_483 : decode code 483 = .ok (.goto 1148, 3) := by decide +kernel
theorem dL_law_486 : decode code 486 = .ok (.aload_n 1, 1) := by decide +kernel
theorem dL_law_487 : decode code 487 = .ok (.aload_n 0, 1) := by decide +kernel
theorem dL_law_488 : decode code 488 = .ok (.iload 4, 2) := by decide +kernel
theorem dL_law_490 : decode code 490 = .ok (.iconst 1, 1) := by decide +kernel
theorem dL_law_491 : decode code 491 = .ok (.iadd, 1) := by decide +kernel
theorem dL_law_492 : decode code 492 = .ok (.iaload, 1) := by decide +kernel
theorem dL_law_493 : decode code 493 = .ok (.aload_n 0, 1) := by decide +kernel
theorem dL_law_494 : decode code 494 = .ok (.iload 4, 2) := by decide +kernel
theorem dL_law_496 : decode code 496 = .ok (.iconst 2, 1) := by decide +kernel
theorem dL_law_497 : decode code 497 = .ok (.iadd, 1) := by decide +kernel
theorem dL_law_498 : decode code 498 = .ok (.iaload, 1) := by decide +kernel
theorem dL_law_499 : decode code 499 = .ok (.aload_n 0, 1) := by decide +kernel
theorem dL_law_500 : decode code 500 = .ok (.iload 4, 2) := by decide +kernel
theorem dL_law_502 : decode code 502 = .ok (.iconst 3, 1) := by decide +kernel
theorem dL_law_503 : decode code 503 = .ok (.iadd, 1) := by decide +kernel
theorem dL_law_504 : decode code 504 = .ok (.iaload, 1) := by decide +kernel
theorem dL_law_505 : decode code 505 = .ok (.aload_n 0, 1) := by decide +kernel
theorem dL_law_506 : decode code 506 = .ok (.iload 4, 2) := by decide +kernel
theorem dL_law_508 : decode code 508 = .ok (.iconst 4, 1) := by decide +kernel
theorem dL_law_509 : decode code 509 = .ok (.iadd, 1) := by decide +kernel
theorem dL_law_510 : decode code 510 = .ok (.iaload, 1) := by decide +kernel
theorem dL_law_511 : decode code 511 = .ok (.aload_n 3, 1) := by decide +kernel
theorem dL_law_512 : decode code 512 = .ok (.invokestatic 108, 3) := by decide +kernel
theorem dL_law_515 : decode code 515 = .ok (.istore 5, 2) := by decide +kernel
theorem dL_law_517 : decode code 517 = .ok (.aload_n 2, 1) := by decide +kernel
theorem dL_law_518 : decode code 518 = .ok (.aload_n 0, 1) := by decide +kernel
theorem dL_law_519 : decode code 519 = .ok (.iload 4, 2) := by decide +kernel
theorem dL_law_521 : decode code 521 = .ok (.iconst 1, 1) := by decide +kernel
theorem dL_law_522 : decode code 522 = .ok (.iadd, 1) := by decide +kernel
theorem dL_law_523 : decode code 523 = .ok (.iaload, 1) := by decide +kernel
theorem dL_law_524 : decode code 524 = .ok (.aload_n 0, 1) := by decide +kernel
theorem dL_law_525 : decode code 525 = .ok (.iload 4, 2) := by decide +kernel
theorem dL_law_527 : decode code 527 = .ok (.iconst 2, 1) := by decide +kernel
theorem dL_law_528 : decode code 528 = .ok (.iadd, 1) := by decide +kernel
theorem dL_law_529 : decode code 529 = .ok (.iaload, 1) := by decide +kernel
theorem dL_law_530 : decode code 530 = .ok (.aload_n 0, 1) := by decide +kernel
theorem dL_law_531 : decode code 531 = .ok (.iload 4, 2) := by decide +kernel
theorem dL_law_533 : decode code 533 = .ok (.iconst 3, 1) := by decide +kernel
theorem dL_law_534 : decode code 534 = .ok (.iadd, 1) := by decide +kernel
theorem dL_law_535 : decode code 535 = .ok (.iaload, 1) := by decide +kernel
theorem dL_law_536 : decode code 536 = .ok (.aload_n 0, 1) := by decide +kernel
theorem dL_law_537 : decode code 537 = .ok (.iload 4, 2) := by decide +kernel
theorem dL_law_539 : decode code 539 = .ok (.iconst 4, 1) := by decide +kernel
theorem dL_law_540 : decode code 540 = .ok (.iadd, 1) := by decide +kernel
theorem dL_law_541 : decode code 541 = .ok (.iaload, 1) := by decide +kernel
theorem dL_law_542 : decode code 542 = .ok (.invokevirtual 111, 3) := by decide +kernel
theorem dL_law_545 : decode code 545 = .ok (.istore 6, 2) := by decide +kernel
theorem dL_law_547 : decode code 547 = .ok (.aload_n 2, 1) := by decide +kernel
theorem dL_law_548 : decode code 548 = .ok (.invokevirtual 90, 3) := by decide +kernel
theorem dL_law_551 : decode code 551 = .ok (.iload 5, 2) := by decide +kernel
theorem dL_law_553 : decode code 553 = .ok (.if_icmp .eq 5, 3) := by decide +kernel
theorem dL_law_556 : decode code 556 = .ok (.iconst 0, 1) := by decide +kernel
theorem dL_law_557 : decode code 557 = .ok (.ireturn, 1) := by decide +kernel
theorem dL_law_558 : decode code 558 = .ok (.iload 5, 2) := by decide +kernel
theorem dL_law_560 : decode code 560 = .ok (.ifCond .ne 15, 3) := by decide +kernel
theorem dL_law_563 : decode code 563 = .ok (.aload_n 3, 1) := by decide +kernel
theorem dL_law_564 : decode code 564 = .ok (.iconst 0, 1) := by decide +kernel
theorem dL_law_565 : decode code 565 = .ok (.laload, 1) := by decide +kernel
theorem dL_law_566 : decode code 566 = .ok (.iload 6, 2) := by decide +kernel
theorem dL_law_568 : decode code 568 = .ok (.i2l, 1) := by decide +kernel
theorem dL_law_569 : decode code 569 = .ok (.lcmp, 1) := by decide +kernel
theorem dL_law_570 : decode code 570 = .ok (.ifCond .eq 5, 3) := by decide +kernel
theorem dL_law_573 : decode code 573 = .ok (.iconst 0, 1) := by decide +kernel
theorem dL_law_574 : decode code 574 = .ok (.ireturn, 1) := by decide +kernel
theorem dL_law_575 : decode code 575 = .ok (.goto 1056, 3) := by decide +kernel
theorem dL_law_578 : decode code 578 = .ok (.aload_n 1, 1) := by decide +kernel
theorem dL_law_579 : decode code 579 = .ok (.aload_n 0, 1) := by decide +kernel
theorem dL_law_580 : decode code 580 = .ok (.iload 4, 2) := by decide +kernel
theorem dL_law_582 : decode code 582 = .ok (.iconst 1, 1) := by decide +kernel
theorem dL_law_583 : decode code 583 = .ok (.iadd, 1) := by decide +kernel
theorem dL_law_584 : decode code 584 = .ok (.iaload, 1) := by decide +kernel
theorem dL_law_585 : decode code 585 = .ok (.aload_n 3, 1) := by decide +kernel
theorem dL_law_586 : decode code 586 = .ok (.invokestatic 112, 3) := by decide +kernel
theorem dL_law_589 : decode code 589 = .ok (.istore 5, 2) := by decide +kernel
theorem dL_law_591 : decode code 591 = .ok (.aload_n 2, 1) := by decide +kernel
theorem dL_law_592 : decode code 592 = .ok (.aload_n 0, 1) := by decide +kernel
theorem dL_law_593 : decode code 593 = .ok (.iload 4, 2) := by decide +kernel
theorem dL_law_595 : decode code 595 = .ok (.iconst 1, 1) := by decide +kernel
theorem dL_law_596 : decode code 596 = .ok (.iadd, 1) := by decide +kernel
theorem dL_law_597 : decode code 597 = .ok (.iaload, 1) := by decide +kernel
theorem dL_law_598 : decode code 598 = .ok (.invokevirtual 114, 3) := by decide +kernel
theorem dL_law_601 : decode code 601 = .ok (.istore 6, 2) := by decide +kernel
theorem dL_law_603 : decode code 603 = .ok (.aload_n 2, 1) := by decide +kernel
theorem dL_law_604 : decode code 604 = .ok (.invokevirtual 90, 3) := by decide +kernel
theorem dL_law_607 : decode code 607 = .ok (.iload 5, 2) := by decide +kernel
theorem dL_law_609 : decode code 609 = .ok (.if_icmp .eq 5, 3) := by decide +kernel
theorem dL_law_612 : decode code 612 = .ok (.iconst 0, 1) := by decide +kernel
theorem dL_law_613 : decode code 613 = .ok (.ireturn, 1) := by decide +kernel
theorem dL_law_614 : decode code 614 = .ok (.iload 5, 2) := by decide +kernel
theorem dL_law_616 : decode code 616 = .ok (.ifCond .ne 15, 3) := by decide +kernel
theorem dL_law_619 : decode code 619 = .ok (.aload_n 3, 1) := by decide +kernel
theorem dL_law_620 : decode code 620 = .ok (.iconst 0, 1) := by decide +kernel
theorem dL_law_621 : decode code 621 = .ok (.laload, 1) := by decide +kernel
theorem dL_law_622 : decode code 622 = .ok (.iload 6, 2) := by decide +kernel
theorem dL_law_624 : decode code 624 = .ok (.i2l, 1) := by decide +kernel
theorem dL_law_625 : decode code 625 = .ok (.lcmp, 1) := by decide +kernel
theorem dL_law_626 : decode code 626 = .ok (.ifCond .eq 5, 3) := by decide +kernel
theorem dL_law_629 : decode code 629 = .ok (.iconst 0, 1) := by decide +kernel
theorem dL_law_630 : decode code 630 = .ok (.ireturn, 1) := by decide +kernel
theorem dL_law_631 : decode code 631 = .ok (.goto 1000, 3) := by decide +kernel
theorem dL_law_634 : decode code 634 = .ok (.aload_n 1, 1) := by decide +kernel
theorem dL_law_635 : decode code 635 = .ok (.aload_n 0, 1) := by decide +kernel
theorem dL_law_636 : decode code 636 = .ok (.iload 4, 2) := by decide +kernel
theorem dL_law_638 : decode code 638 = .ok (.iconst 1, 1) := by decide +kernel
theorem dL_law_639 : decode code 639 = .ok (.iadd, 1) := by decide +kernel
theorem dL_law_640 : decode code 640 = .ok (.iaload, 1) := by decide +kernel
theorem dL_law_641 : decode code 641 = .ok (.aload_n 3, 1) := by decide +kernel
theorem dL_law_642 : decode code 642 = .ok (.invokestatic 115, 3) := by decide +kernel
theorem dL_law_645 : decode code 645 = .ok (.istore 5, 2) := by decide +kernel
theorem dL_law_647 : decode code 647 = .ok (.aload_n 2, 1) := by decide +kernel
theorem dL_law_648 : decode code 648 = .ok (.aload_n 0, 1) := by decide +kernel
theorem dL_law_649 : decode code 649 = .ok (.iload 4, 2) := by decide +kernel
theorem dL_law_651 : decode code 651 = .ok (.iconst 1, 1) := by decide +kernel
theorem dL_law_652 : decode code 652 = .ok (.iadd, 1) := by decide +kernel
theorem dL_law_653 : decode code 653 = .ok (.iaload, 1) := by decide +kernel
theorem dL_law_654 : decode code 654 = .ok (.invokevirtual 117, 3) := by decide +kernel
theorem dL_law_657 : decode code 657 = .ok (.istore 6, 2) := by decide +kernel
theorem dL_law_659 : decode code 659 = .ok (.aload_n 2, 1) := by decide +kernel
theorem dL_law_660 : decode code 660 = .ok (.invokevirtual 90, 3) := by decide +kernel
theorem dL_law_663 : decode code 663 = .ok (.iload 5, 2) := by decide +kernel
theorem dL_law_665 : decode code 665 = .ok (.if_icmp .eq 5, 3) := by decide +kernel
theorem dL_law_668 : decode code 668 = .ok (.iconst 0, 1) := by decide +kernel
theorem dL_law_669 : decode code 669 = .ok (.ireturn, 1) := by decide +kernel
theorem dL_law_670 : decode code 670 = .ok (.iload 5, 2) := by decide +kernel
theorem dL_law_672 : decode code 672 = .ok (.ifCond .ne 15, 3) := by decide +kernel
theorem dL_law_675 : decode code 675 = .ok (.aload_n 3, 1) := by decide +kernel
theorem dL_law_676 : decode code 676 = .ok (.iconst 0, 1) := by decide +kernel
theorem dL_law_677 : decode code 677 = .ok (.laload, 1) := by decide +kernel
theorem dL_law_678 : decode code 678 = .ok (.iload 6, 2) := by decide +kernel
theorem dL_law_680 : decode code 680 = .ok (.i2l, 1) := by decide +kernel
theorem dL_law_681 : decode code 681 = .ok (.lcmp, 1) := by decide +kernel
theorem dL_law_682 : decode code 682 = .ok (.ifCond .eq 5, 3) := by decide +kernel
theorem dL_law_685 : decode code 685 = .ok (.iconst 0, 1) := by decide +kernel
theorem dL_law_686 : decode code 686 = .ok (.ireturn, 1) := by decide +kernel
theorem dL_law_687 : decode code 687 = .ok (.goto 944, 3) := by decide +kernel
theorem dL_law_690 : decode code 690 = .ok (.aload_n 1, 1) := by decide +kernel
theorem dL_law_691 : decode code 691 = .ok (.aload_n 0, 1) := by decide +kernel
theorem dL_law_692 : decode code 692 = .ok (.iload 4, 2) := by decide +kernel
theorem dL_law_694 : decode code 694 = .ok (.iconst 1, 1) := by decide +kernel
theorem dL_law_695 : decode code 695 = .ok (.iadd, 1) := by decide +kernel
theorem dL_law_696 : decode code 696 = .ok (.iaload, 1) := by decide +kernel
theorem dL_law_697 : decode code 697 = .ok (.aload_n 0, 1) := by decide +kernel
theorem dL_law_698 : decode code 698 = .ok (.iload 4, 2) := by decide +kernel
theorem dL_law_700 : decode code 700 = .ok (.iconst 2, 1) := by decide +kernel
theorem dL_law_701 : decode code 701 = .ok (.iadd, 1) := by decide +kernel
theorem dL_law_702 : decode code 702 = .ok (.iaload, 1) := by decide +kernel
theorem dL_law_703 : decode code 703 = .ok (.aload_n 0, 1) := by decide +kernel
theorem dL_law_704 : decode code 704 = .ok (.iload 4, 2) := by decide +kernel
theorem dL_law_706 : decode code 706 = .ok (.iconst 3, 1) := by decide +kernel
theorem dL_law_707 : decode code 707 = .ok (.iadd, 1) := by decide +kernel
theorem dL_law_708 : decode code 708 = .ok (.iaload, 1) := by decide +kernel
theorem dL_law_709 : decode code 709 = .ok (.aload_n 0, 1) := by decide +kernel
theorem dL_law_710 : decode code 710 = .ok (.iload 4, 2) := by decide +kernel
theorem dL_law_712 : decode code 712 = .ok (.iconst 4, 1) := by decide +kernel
theorem dL_law_713 : decode code 713 = .ok (.iadd, 1) := by decide +kernel
theorem dL_law_714 : decode code 714 = .ok (.iaload, 1) := by decide +kernel
theorem dL_law_715 : decode code 715 = .ok (.aload_n 0, 1) := by decide +kernel
theorem dL_law_716 : decode code 716 = .ok (.iload 4, 2) := by decide +kernel
theorem dL_law_718 : decode code 718 = .ok (.iconst 5, 1) := by decide +kernel
theorem dL_law_719 : decode code 719 = .ok (.iadd, 1) := by decide +kernel
theorem dL_law_720 : decode code 720 = .ok (.iaload, 1) := by decide +kernel
theorem dL_law_721 : decode code 721 = .ok (.ifCond .eq 7, 3) := by decide +kernel
theorem dL_law_724 : decode code 724 = .ok (.iconst 1, 1) := by decide +kernel
theorem dL_law_725 : decode code 725 = .ok (.goto 4, 3) := by decide +kernel
theorem dL_law_728 : decode code 728 = .ok (.iconst 0, 1) := by decide +kernel
theorem dL_law_729 : decode code 729 = .ok (.aload_n 3, 1) := by decide +kernel
theorem dL_law_730 : decode code 730 = .ok (.invokestatic 118, 3) := by decide +kernel
theorem dL_law_733 : decode code 733 = .ok (.istore 5, 2) := by decide +kernel
theorem dL_law_735 : decode code 735 = .ok (.aload_n 2, 1) := by decide +kernel
theorem dL_law_736 : decode code 736 = .ok (.aload_n 0, 1) := by decide +kernel
theorem dL_law_737 : decode code 737 = .ok (.iload 4, 2) := by decide +kernel
theorem dL_law_739 : decode code 739 = .ok (.iconst 1, 1) := by decide +kernel
theorem dL_law_740 : decode code 740 = .ok (.iadd, 1) := by decide +kernel
theorem dL_law_741 : decode code 741 = .ok (.iaload, 1) := by decide +kernel
theorem dL_law_742 : decode code 742 = .ok (.aload_n 0, 1) := by decide +kernel
theorem dL_law_743 : decode code 743 = .ok (.iload 4, 2) := by decide +kernel
theorem dL_law_745 : decode code 745 = .ok (.iconst 2, 1) := by decide +kernel
theorem dL_law_746 : decode code 746 = .ok (.iadd, 1) := by decide +kernel
theorem dL_law_747 : decode code 747 = .ok (.iaload, 1) := by decide +kernel
theorem dL_law_748 : decode code 748 = .ok (.aload_n 0, 1) := by decide +kernel
theorem dL_law_749 : decode code 749 = .ok (.iload 4, 2) := by decide +kernel
theorem dL_law_751 : decode code 751 = .ok (.iconst 3, 1) := by decide +kernel
theorem dL_law_752 : decode code 752 = .ok (.iadd, 1) := by decide +kernel
theorem dL_law_753 : decode code 753 = .ok (.iaload, 1) := by decide +kernel
theorem dL_law_754 : decode code 754 = .ok (.aload_n 0, 1) := by decide +kernel
theorem dL_law_755 : decode code 755 = .ok (.iload 4, 2) := by decide +kernel
theorem dL_law_757 : decode code 757 = .ok (.iconst 4, 1) := by decide +kernel
theorem dL_law_758 : decode code 758 = .ok (.iadd, 1) := by decide +kernel
theorem dL_law_759 : decode code 759 = .ok (.iaload, 1) := by decide +kernel
theorem dL_law_760 : decode code 760 = .ok (.aload_n 0, 1) := by decide +kernel
theorem dL_law_761 : decode code 761 = .ok (.iload 4, 2) := by decide +kernel
theorem dL_law_763 : decode code 763 = .ok (.iconst 5, 1) := by decide +kernel
theorem dL_law_764 : decode code 764 = .ok (.iadd, 1) := by decide +kernel
theorem dL_law_765 : decode code 765 = .ok (.iaload, 1) := by decide +kernel
theorem dL_law_766 : decode code 766 = .ok (.ifCond .eq 7, 3) := by decide +kernel
theorem dL_law_769 : decode code 769 = .ok (.iconst 1, 1) := by decide +kernel
theorem dL_law_770 : decode code 770 = .ok (.goto 4, 3) := by decide +kernel
theorem dL_law_773 : decode code 773 = .ok (.iconst 0, 1) := by decide +kernel
theorem dL_law_774 : decode code 774 = .ok (.invokevirtual 121, 3) := by decide +kernel
theorem dL_law_777 : decode code 777 = .ok (.istore 6, 2) := by decide +kernel
theorem dL_law_779 : decode code 779 = .ok (.aload_n 2, 1) := by decide +kernel
theorem dL_law_780 : decode code 780 = .ok (.invokevirtual 90, 3) := by decide +kernel
theorem dL_law_783 : decode code 783 = .ok (.iload 5, 2) := by decide +kernel
theorem dL_law_785 : decode code 785 = .ok (.if_icmp .eq 5, 3) := by decide +kernel
theorem dL_law_788 : decode code 788 = .ok (.iconst 0, 1) := by decide +kernel
theorem dL_law_789 : decode code 789 = .ok (.ireturn, 1) := by decide +kernel
theorem dL_law_790 : decode code 790 = .ok (.iload 5, 2) := by decide +kernel
theorem dL_law_792 : decode code 792 = .ok (.ifCond .ne 15, 3) := by decide +kernel
theorem dL_law_795 : decode code 795 = .ok (.aload_n 3, 1) := by decide +kernel
theorem dL_law_796 : decode code 796 = .ok (.iconst 0, 1) := by decide +kernel
theorem dL_law_797 : decode code 797 = .ok (.laload, 1) := by decide +kernel
theorem dL_law_798 : decode code 798 = .ok (.iload 6, 2) := by decide +kernel
theorem dL_law_800 : decode code 800 = .ok (.i2l, 1) := by decide +kernel
theorem dL_law_801 : decode code 801 = .ok (.lcmp, 1) := by decide +kernel
theorem dL_law_802 : decode code 802 = .ok (.ifCond .eq 5, 3) := by decide +kernel
theorem dL_law_805 : decode code 805 = .ok (.iconst 0, 1) := by decide +kernel
theorem dL_law_806 : decode code 806 = .ok (.ireturn, 1) := by decide +kernel
theorem dL_law_807 : decode code 807 = .ok (.goto 824, 3) := by decide +kernel
theorem dL_law_810 : decode code 810 = .ok (.aload_n 1, 1) := by decide +kernel
theorem dL_law_811 : decode code 811 = .ok (.aload_n 0, 1) := by decide +kernel
theorem dL_law_812 : decode code 812 = .ok (.iload 4, 2) := by decide +kernel
theorem dL_law_814 : decode code 814 = .ok (.iconst 1, 1) := by decide +kernel
theorem dL_law_815 : decode code 815 = .ok (.iadd, 1) := by decide +kernel
theorem dL_law_816 : decode code 816 = .ok (.iaload, 1) := by decide +kernel
theorem dL_law_817 : decode code 817 = .ok (.aload_n 0, 1) := by decide +kernel
theorem dL_law_818 : decode code 818 = .ok (.iload 4, 2) := by decide +kernel
theorem dL_law_820 : decode code 820 = .ok (.iconst 2, 1) := by decide +kernel
theorem dL_law_821 : decode code 821 = .ok (.iadd, 1) := by decide +kernel
theorem dL_law_822 : decode code 822 = .ok (.iaload, 1) := by decide +kernel
theorem dL_law_823 : decode code 823 = .ok (.aload_n 0, 1) := by decide +kernel
theorem dL_law_824 : decode code 824 = .ok (.iload 4, 2) := by decide +kernel
theorem dL_law_826 : decode code 826 = .ok (.iconst 3, 1) := by decide +kernel
theorem dL_law_827 : decode code 827 = .ok (.iadd, 1) := by decide +kernel
theorem dL_law_828 : decode code 828 = .ok (.iaload, 1) := by decide +kernel
theorem dL_law_829 : decode code 829 = .ok (.aload_n 3, 1) := by decide +kernel
theorem dL_law_830 : decode code 830 = .ok (.invokestatic 122, 3) := by decide +kernel
theorem dL_law_833 : decode code 833 = .ok (.istore 5, 2) := by decide +kernel
theorem dL_law_835 : decode code 835 = .ok (.aload_n 2, 1) := by decide +kernel
theorem dL_law_836 : decode code 836 = .ok (.aload_n 0, 1) := by decide +kernel
theorem dL_law_837 : decode code 837 = .ok (.iload 4, 2) := by decide +kernel
theorem dL_law_839 : decode code 839 = .ok (.iconst 1, 1) := by decide +kernel
theorem dL_law_840 : decode code 840 = .ok (.iadd, 1) := by decide +kernel
theorem dL_law_841 : decode code 841 = .ok (.iaload, 1) := by decide +kernel
theorem dL_law_842 : decode code 842 = .ok (.aload_n 0, 1) := by decide +kernel
theorem dL_law_843 : decode code 843 = .ok (.iload 4, 2) := by decide +kernel
theorem dL_law_845 : decode code 845 = .ok (.iconst 2, 1) := by decide +kernel
theorem dL_law_846 : decode code 846 = .ok (.iadd, 1) := by decide +kernel
theorem dL_law_847 : decode code 847 = .ok (.iaload, 1) := by decide +kernel
theorem dL_law_848 : decode code 848 = .ok (.aload_n 0, 1) := by decide +kernel
theorem dL_law_849 : decode code 849 = .ok (.iload 4, 2) := by decide +kernel
theorem dL_law_851 : decode code 851 = .ok (.iconst 3, 1) := by decide +kernel
theorem dL_law_852 : decode code 852 = .ok (.iadd, 1) := by decide +kernel
theorem dL_law_853 : decode code 853 = .ok (.iaload, 1) := by decide +kernel
theorem dL_law_854 : decode code 854 = .ok (.invokevirtual 125, 3) := by decide +kernel
theorem dL_law_857 : decode code 857 = .ok (.istore 6, 2) := by decide +kernel
theorem dL_law_859 : decode code 859 = .ok (.aload_n 2, 1) := by decide +kernel
theorem dL_law_860 : decode code 860 = .ok (.invokevirtual 90, 3) := by decide +kernel
theorem dL_law_863 : decode code 863 = .ok (.iload 5, 2) := by decide +kernel
theorem dL_law_865 : decode code 865 = .ok (.if_icmp .eq 5, 3) := by decide +kernel
theorem dL_law_868 : decode code 868 = .ok (.iconst 0, 1) := by decide +kernel
theorem dL_law_869 : decode code 869 = .ok (.ireturn, 1) := by decide +kernel
theorem dL_law_870 : decode code 870 = .ok (.iload 5, 2) := by decide +kernel
theorem dL_law_872 : decode code 872 = .ok (.ifCond .ne 15, 3) := by decide +kernel
theorem dL_law_875 : decode code 875 = .ok (.aload_n 3, 1) := by decide +kernel
theorem dL_law_876 : decode code 876 = .ok (.iconst 0, 1) := by decide +kernel
theorem dL_law_877 : decode code 877 = .ok (.laload, 1) := by decide +kernel
theorem dL_law_878 : decode code 878 = .ok (.iload 6, 2) := by decide +kernel
theorem dL_law_880 : decode code 880 = .ok (.i2l, 1) := by decide +kernel
theorem dL_law_881 : decode code 881 = .ok (.lcmp, 1) := by decide +kernel
theorem dL_law_882 : decode code 882 = .ok (.ifCond .eq 5, 3) := by decide +kernel
theorem dL_law_885 : decode code 885 = .ok (.iconst 0, 1) := by decide +kernel
theorem dL_law_886 : decode code 886 = .ok (.ireturn, 1) := by decide +kernel
theorem dL_law_887 : decode code 887 = .ok (.goto 744, 3) := by decide +kernel
theorem dL_law_890 : decode code 890 = .ok (.aload_n 1, 1) := by decide +kernel
theorem dL_law_891 : decode code 891 = .ok (.invokevirtual 126, 3) := by decide +kernel
theorem dL_law_894 : decode code 894 = .ok (.aload_n 2, 1) := by decide +kernel
theorem dL_law_895 : decode code 895 = .ok (.invokevirtual 129, 3) := by decide +kernel
theorem dL_law_898 : decode code 898 = .ok (.if_icmp .eq 733, 3) := by decide +kernel
theorem dL_law_901 : decode code 901 = .ok (.iconst 0, 1) := by decide +kernel
theorem dL_law_902 : decode code 902 = .ok (.ireturn, 1) := by decide +kernel
theorem dL_law_903 : decode code 903 = .ok (.aload_n 1, 1) := by decide +kernel
theorem dL_law_904 : decode code 904 = .ok (.aload_n 0, 1) := by decide +kernel
theorem dL_law_905 : decode code 905 = .ok (.iload 4, 2) := by decide +kernel
theorem dL_law_907 : decode code 907 = .ok (.iconst 1, 1) := by decide +kernel
theorem dL_law_908 : decode code 908 = .ok (.iadd, 1) := by decide +kernel
theorem dL_law_909 : decode code 909 = .ok (.iaload, 1) := by decide +kernel
theorem dL_law_910 : decode code 910 = .ok (.aload_n 0, 1) := by decide +kernel
theorem dL_law_911 : decode code 911 = .ok (.iload 4, 2) := by decide +kernel
theorem dL_law_913 : decode code 913 = .ok (.iconst 2, 1) := by decide +kernel
theorem dL_law_914 : decode code 914 = .ok (.iadd, 1) := by decide +kernel
theorem dL_law_915 : decode code 915 = .ok (.iaload, 1) := by decide +kernel
theorem dL_law_916 : decode code 916 = .ok (.aload_n 3, 1) := by decide +kernel
theorem dL_law_917 : decode code 917 = .ok (.invokestatic 130, 3) := by decide +kernel
theorem dL_law_920 : decode code 920 = .ok (.istore 5, 2) := by decide +kernel
theorem dL_law_922 : decode code 922 = .ok (.aload_n 2, 1) := by decide +kernel
theorem dL_law_923 : decode code 923 = .ok (.aload_n 0, 1) := by decide +kernel
theorem dL_law_924 : decode code 924 = .ok (.iload 4, 2) := by decide +kernel
theorem dL_law_926 : decode code 926 = .ok (.iconst 1, 1) := by decide +kernel
theorem dL_law_927 : decode code 927 = .ok (.iadd, 1) := by decide +kernel
theorem dL_law_928 : decode code 928 = .ok (.iaload, 1) := by decide +kernel
theorem dL_law_929 : decode code 929 = .ok (.aload_n 0, 1) := by decide +kernel
theorem dL_law_930 : decode code 930 = .ok (.iload 4, 2) := by decide +kernel
theorem dL_law_932 : decode code 932 = .ok (.iconst 2, 1) := by decide +kernel
theorem dL_law_933 : decode code 933 = .ok (.iadd, 1) := by decide +kernel
theorem dL_law_934 : decode code 934 = .ok (.iaload, 1) := by decide +kernel
theorem dL_law_935 : decode code 935 = .ok (.invokevirtual 132, 3) := by decide +kernel
theorem dL_law_938 : decode code 938 = .ok (.istore 6, 2) := by decide +kernel
theorem dL_law_940 : decode code 940 = .ok (.aload_n 2, 1) := by decide +kernel
theorem dL_law_941 : decode code 941 = .ok (.invokevirtual 90, 3) := by decide +kernel
theorem dL_law_944 : decode code 944 = .ok (.iload 5, 2) := by decide +kernel
theorem dL_law_946 : decode code 946 = .ok (.if_icmp .eq 5, 3) := by decide +kernel
theorem dL_law_949 : decode code 949 = .ok (.iconst 0, 1) := by decide +kernel
theorem dL_law_950 : decode code 950 = .ok (.ireturn, 1) := by decide +kernel
theorem dL_law_951 : decode code 951 = .ok (.iload 5, 2) := by decide +kernel
theorem dL_law_953 : decode code 953 = .ok (.ifCond .ne 15, 3) := by decide +kernel
theorem dL_law_956 : decode code 956 = .ok (.aload_n 3, 1) := by decide +kernel
theorem dL_law_957 : decode code 957 = .ok (.iconst 0, 1) := by decide +kernel
theorem dL_law_958 : decode code 958 = .ok (.laload, 1) := by decide +kernel
theorem dL_law_959 : decode code 959 = .ok (.iload 6, 2) := by decide +kernel
theorem dL_law_961 : decode code 961 = .ok (.i2l, 1) := by decide +kernel
theorem dL_law_962 : decode code 962 = .ok (.lcmp, 1) := by decide +kernel
theorem dL_law_963 : decode code 963 = .ok (.ifCond .eq 5, 3) := by decide +kernel
theorem dL_law_966 : decode code 966 = .ok (.iconst 0, 1) := by decide +kernel
theorem dL_law_967 : decode code 967 = .ok (.ireturn, 1) := by decide +kernel
theorem dL_law_968 : decode code 968 = .ok (.goto 663, 3) := by decide +kernel
theorem dL_law_971 : decode code 971 = .ok (.aload_n 1, 1) := by decide +kernel
theorem dL_law_972 : decode code 972 = .ok (.aload_n 0, 1) := by decide +kernel
theorem dL_law_973 : decode code 973 = .ok (.iload 4, 2) := by decide +kernel
theorem dL_law_975 : decode code 975 = .ok (.iconst 1, 1) := by decide +kernel
theorem dL_law_976 : decode code 976 = .ok (.iadd, 1) := by decide +kernel
theorem dL_law_977 : decode code 977 = .ok (.iaload, 1) := by decide +kernel
theorem dL_law_978 : decode code 978 = .ok (.aload_n 0, 1) := by decide +kernel
theorem dL_law_979 : decode code 979 = .ok (.iload 4, 2) := by decide +kernel
theorem dL_law_981 : decode code 981 = .ok (.iconst 2, 1) := by decide +kernel
theorem dL_law_982 : decode code 982 = .ok (.iadd, 1) := by decide +kernel
theorem dL_law_983 : decode code 983 = .ok (.iaload, 1) := by decide +kernel
theorem dL_law_984 : decode code 984 = .ok (.aload_n 0, 1) := by decide +kernel
theorem dL_law_985 : decode code 985 = .ok (.iload 4, 2) := by decide +kernel
theorem dL_law_987 : decode code 987 = .ok (.iconst 3, 1) := by decide +kernel
theorem dL_law_988 : decode code 988 = .ok (.iadd, 1) := by decide +kernel
theorem dL_law_989 : decode code 989 = .ok (.iaload, 1) := by decide +kernel
theorem dL_law_990 : decode code 990 = .ok (.aload_n 0, 1) := by decide +kernel
theorem dL_law_991 : decode code 991 = .ok (.iload 4, 2) := by decide +kernel
theorem dL_law_993 : decode code 993 = .ok (.iconst 4, 1) := by decide +kernel
theorem dL_law_994 : decode code 994 = .ok (.iadd, 1) := by decide +kernel
theorem dL_law_995 : decode code 995 = .ok (.iaload, 1) := by decide +kernel
theorem dL_law_996 : decode code 996 = .ok (.ifCond .eq 7, 3) := by decide +kernel
theorem dL_law_999 : decode code 999 = .ok (.iconst 1, 1) := by decide +kernel
theorem dL_law_1000 : decode code 1000 = .ok (.goto 4, 3) := by decide +kernel
theorem dL_law_1003 : decode code 1003 = .ok (.iconst 0, 1) := by decide +kernel
theorem dL_law_1004 : decode code 1004 = .ok (.aload_n 3, 1) := by decide +kernel
theorem dL_law_1005 : decode code 1005 = .ok (.invokestatic 133, 3) := by decide +kernel
theorem dL_law_1008 : decode code 1008 = .ok (.istore 5, 2) := by decide +kernel
theorem dL_law_1010 : decode code 1010 = .ok (.aload_n 2, 1) := by decide +kernel
theorem dL_law_1011 : decode code 1011 = .ok (.aload_n 0, 1) := by decide +kernel
theorem dL_law_1012 : decode code 1012 = .ok (.iload 4, 2) := by decide +kernel
theorem dL_law_1014 : decode code 1014 = .ok (.iconst 1, 1) := by decide +kernel
theorem dL_law_1015 : decode code 1015 = .ok (.iadd, 1) := by decide +kernel
theorem dL_law_1016 : decode code 1016 = .ok (.iaload, 1) := by decide +kernel
theorem dL_law_1017 : decode code 1017 = .ok (.aload_n 0, 1) := by decide +kernel
theorem dL_law_1018 : decode code 1018 = .ok (.iload 4, 2) := by decide +kernel
theorem dL_law_1020 : decode code 1020 = .ok (.iconst 2, 1) := by decide +kernel
theorem dL_law_1021 : decode code 1021 = .ok (.iadd, 1) := by decide +kernel
theorem dL_law_1022 : decode code 1022 = .ok (.iaload, 1) := by decide +kernel
theorem dL_law_1023 : decode code 1023 = .ok (.aload_n 0, 1) := by decide +kernel
theorem dL_law_1024 : decode code 1024 = .ok (.iload 4, 2) := by decide +kernel
theorem dL_law_1026 : decode code 1026 = .ok (.iconst 3, 1) := by decide +kernel
theorem dL_law_1027 : decode code 1027 = .ok (.iadd, 1) := by decide +kernel
theorem dL_law_1028 : decode code 1028 = .ok (.iaload, 1) := by decide +kernel
theorem dL_law_1029 : decode code 1029 = .ok (.aload_n 0, 1) := by decide +kernel
theorem dL_law_1030 : decode code 1030 = .ok (.iload 4, 2) := by decide +kernel
theorem dL_law_1032 : decode code 1032 = .ok (.iconst 4, 1) := by decide +kernel
theorem dL_law_1033 : decode code 1033 = .ok (.iadd, 1) := by decide +kernel
theorem dL_law_1034 : decode code 1034 = .ok (.iaload, 1) := by decide +kernel
theorem dL_law_1035 : decode code 1035 = .ok (.ifCond .eq 7, 3) := by decide +kernel
theorem dL_law_1038 : decode code 1038 = .ok (.iconst 1, 1) := by decide +kernel
theorem dL_law_1039 : decode code 1039 = .ok (.goto 4, 3) := by decide +kernel
theorem dL_law_1042 : decode code 1042 = .ok (.iconst 0, 1) := by decide +kernel
theorem dL_law_1043 : decode code 1043 = .ok (.invokevirtual 136, 3) := by decide +kernel
theorem dL_law_1046 : decode code 1046 = .ok (.istore 6, 2) := by decide +kernel
theorem dL_law_1048 : decode code 1048 = .ok (.aload_n 2, 1) := by decide +kernel
theorem dL_law_1049 : decode code 1049 = .ok (.invokevirtual 90, 3) := by decide +kernel
theorem dL_law_1052 : decode code 1052 = .ok (.iload 5, 2) := by decide +kernel
theorem dL_law_1054 : decode code 1054 = .ok (.if_icmp .eq 5, 3) := by decide +kernel
theorem dL_law_1057 : decode code 1057 = .ok (.iconst 0, 1) := by decide +kernel
theorem dL_law_1058 : decode code 1058 = .ok (.ireturn, 1) := by decide +kernel
theorem dL_law_1059 : decode code 1059 = .ok (.iload 5, 2) := by decide +kernel
theorem dL_law_1061 : decode code 1061 = .ok (.ifCond .ne 15, 3) := by decide +kernel
theorem dL_law_1064 : decode code 1064 = .ok (.aload_n 3, 1) := by decide +kernel
theorem dL_law_1065 : decode code 1065 = .ok (.iconst 0, 1) := by decide +kernel
theorem dL_law_1066 : decode code 1066 = .ok (.laload, 1) := by decide +kernel
theorem dL_law_1067 : decode code 1067 = .ok (.iload 6, 2) := by decide +kernel
theorem dL_law_1069 : decode code 1069 = .ok (.i2l, 1) := by decide +kernel
theorem dL_law_1070 : decode code 1070 = .ok (.lcmp, 1) := by decide +kernel
theorem dL_law_1071 : decode code 1071 = .ok (.ifCond .eq 5, 3) := by decide +kernel
theorem dL_law_1074 : decode code 1074 = .ok (.iconst 0, 1) := by decide +kernel
theorem dL_law_1075 : decode code 1075 = .ok (.ireturn, 1) := by decide +kernel
theorem dL_law_1076 : decode code 1076 = .ok (.goto 555, 3) := by decide +kernel
theorem dL_law_1079 : decode code 1079 = .ok (.aload_n 1, 1) := by decide +kernel
theorem dL_law_1080 : decode code 1080 = .ok (.aload_n 0, 1) := by decide +kernel
theorem dL_law_1081 : decode code 1081 = .ok (.iload 4, 2) := by decide +kernel
theorem dL_law_1083 : decode code 1083 = .ok (.iconst 1, 1) := by decide +kernel
theorem dL_law_1084 : decode code 1084 = .ok (.iadd, 1) := by decide +kernel
theorem dL_law_1085 : decode code 1085 = .ok (.iaload, 1) := by decide +kernel
theorem dL_law_1086 : decode code 1086 = .ok (.aload_n 3, 1) := by decide +kernel
theorem dL_law_1087 : decode code 1087 = .ok (.invokestatic 137, 3) := by decide +kernel
theorem dL_law_1090 : decode code 1090 = .ok (.istore 5, 2) := by decide +kernel
theorem dL_law_1092 : decode code 1092 = .ok (.aload_n 2, 1) := by decide +kernel
theorem dL_law_1093 : decode code 1093 = .ok (.aload_n 0, 1) := by decide +kernel
theorem dL_law_1094 : decode code 1094 = .ok (.iload 4, 2) := by decide +kernel
theorem dL_law_1096 : decode code 1096 = .ok (.iconst 1, 1) := by decide +kernel
theorem dL_law_1097 : decode code 1097 = .ok (.iadd, 1) := by decide +kernel
theorem dL_law_1098 : decode code 1098 = .ok (.iaload, 1) := by decide +kernel
theorem dL_law_1099 : decode code 1099 = .ok (.invokevirtual 139, 3) := by decide +kernel
theorem dL_law_1102 : decode code 1102 = .ok (.istore 6, 2) := by decide +kernel
theorem dL_law_1104 : decode code 1104 = .ok (.aload_n 2, 1) := by decide +kernel
theorem dL_law_1105 : decode code 1105 = .ok (.invokevirtual 90, 3) := by decide +kernel
theorem dL_law_1108 : decode code 1108 = .ok (.iload 5, 2) := by decide +kernel
theorem dL_law_1110 : decode code 1110 = .ok (.if_icmp .eq 5, 3) := by decide +kernel
theorem dL_law_1113 : decode code 1113 = .ok (.iconst 0, 1) := by decide +kernel
theorem dL_law_1114 : decode code 1114 = .ok (.ireturn, 1) := by decide +kernel
theorem dL_law_1115 : decode code 1115 = .ok (.iload 5, 2) := by decide +kernel
theorem dL_law_1117 : decode code 1117 = .ok (.ifCond .ne 15, 3) := by decide +kernel
theorem dL_law_1120 : decode code 1120 = .ok (.aload_n 3, 1) := by decide +kernel
theorem dL_law_1121 : decode code 1121 = .ok (.iconst 0, 1) := by decide +kernel
theorem dL_law_1122 : decode code 1122 = .ok (.laload, 1) := by decide +kernel
theorem dL_law_1123 : decode code 1123 = .ok (.iload 6, 2) := by decide +kernel
theorem dL_law_1125 : decode code 1125 = .ok (.i2l, 1) := by decide +kernel
theorem dL_law_1126 : decode code 1126 = .ok (.lcmp, 1) := by decide +kernel
theorem dL_law_1127 : decode code 1127 = .ok (.ifCond .eq 5, 3) := by decide +kernel
theorem dL_law_1130 : decode code 1130 = .ok (.iconst 0, 1) := by decide +kernel
theorem dL_law_1131 : decode code 1131 = .ok (.ireturn, 1) := by decide +kernel
theorem dL_law_1132 : decode code 1132 = .ok (.goto 499, 3) := by decide +kernel
theorem dL_law_1135 : decode code 1135 = .ok (.aload_n 1, 1) := by decide +kernel
theorem dL_law_1136 : decode code 1136 = .ok (.invokevirtual 140, 3) := by decide +kernel
theorem dL_law_1139 : decode code 1139 = .ok (.aload_n 2, 1) := by decide +kernel
theorem dL_law_1140 : decode code 1140 = .ok (.invokevirtual 143, 3) := by decide +kernel
theorem dL_law_1143 : decode code 1143 = .ok (.if_icmp .eq 488, 3) := by decide +kernel
theorem dL_law_1146 : decode code 1146 = .ok (.iconst 0, 1) := by decide +kernel
theorem dL_law_1147 : decode code 1147 = .ok (.ireturn, 1) := by decide +kernel
theorem dL_law_1148 : decode code 1148 = .ok (.aload_n 1, 1) := by decide +kernel
theorem dL_law_1149 : decode code 1149 = .ok (.aload_n 0, 1) := by decide +kernel
theorem dL_law_1150 : decode code 1150 = .ok (.iload 4, 2) := by decide +kernel
theorem dL_law_1152 : decode code 1152 = .ok (.iconst 1, 1) := by decide +kernel
theorem dL_law_1153 : decode code 1153 = .ok (.iadd, 1) := by decide +kernel
theorem dL_law_1154 : decode code 1154 = .ok (.iaload, 1) := by decide +kernel
theorem dL_law_1155 : decode code 1155 = .ok (.aload_n 3, 1) := by decide +kernel
theorem dL_law_1156 : decode code 1156 = .ok (.invokestatic 144, 3) := by decide +kernel
theorem dL_law_1159 : decode code 1159 = .ok (.istore 5, 2) := by decide +kernel
theorem dL_law_1161 : decode code 1161 = .ok (.aload_n 2, 1) := by decide +kernel
theorem dL_law_1162 : decode code 1162 = .ok (.aload_n 0, 1) := by decide +kernel
theorem dL_law_1163 : decode code 1163 = .ok (.iload 4, 2) := by decide +kernel
theorem dL_law_1165 : decode code 1165 = .ok (.iconst 1, 1) := by decide +kernel
theorem dL_law_1166 : decode code 1166 = .ok (.iadd, 1) := by decide +kernel
theorem dL_law_1167 : decode code 1167 = .ok (.iaload, 1) := by decide +kernel
theorem dL_law_1168 : decode code 1168 = .ok (.invokevirtual 146, 3) := by decide +kernel
theorem dL_law_1171 : decode code 1171 = .ok (.istore 6, 2) := by decide +kernel
theorem dL_law_1173 : decode code 1173 = .ok (.aload_n 2, 1) := by decide +kernel
theorem dL_law_1174 : decode code 1174 = .ok (.invokevirtual 90, 3) := by decide +kernel
theorem dL_law_1177 : decode code 1177 = .ok (.iload 5, 2) := by decide +kernel
theorem dL_law_1179 : decode code 1179 = .ok (.if_icmp .eq 5, 3) := by decide +kernel
theorem dL_law_1182 : decode code 1182 = .ok (.iconst 0, 1) := by decide +kernel
theorem dL_law_1183 : decode code 1183 = .ok (.ireturn, 1) := by decide +kernel
theorem dL_law_1184 : decode code 1184 = .ok (.iload 5, 2) := by decide +kernel
theorem dL_law_1186 : decode code 1186 = .ok (.ifCond .ne 15, 3) := by decide +kernel
theorem dL_law_1189 : decode code 1189 = .ok (.aload_n 3, 1) := by decide +kernel
theorem dL_law_1190 : decode code 1190 = .ok (.iconst 0, 1) := by decide +kernel
theorem dL_law_1191 : decode code 1191 = .ok (.laload, 1) := by decide +kernel
theorem dL_law_1192 : decode code 1192 = .ok (.iload 6, 2) := by decide +kernel
theorem dL_law_1194 : decode code 1194 = .ok (.i2l, 1) := by decide +kernel
theorem dL_law_1195 : decode code 1195 = .ok (.lcmp, 1) := by decide +kernel
theorem dL_law_1196 : decode code 1196 = .ok (.ifCond .eq 5, 3) := by decide +kernel
theorem dL_law_1199 : decode code 1199 = .ok (.iconst 0, 1) := by decide +kernel
theorem dL_law_1200 : decode code 1200 = .ok (.ireturn, 1) := by decide +kernel
theorem dL_law_1201 : decode code 1201 = .ok (.goto 430, 3) := by decide +kernel
theorem dL_law_1204 : decode code 1204 = .ok (.aload_n 1, 1) := by decide +kernel
theorem dL_law_1205 : decode code 1205 = .ok (.aload_n 0, 1) := by decide +kernel
theorem dL_law_1206 : decode code 1206 = .ok (.iload 4, 2) := by decide +kernel
theorem dL_law_1208 : decode code 1208 = .ok (.iconst 1, 1) := by decide +kernel
theorem dL_law_1209 : decode code 1209 = .ok (.iadd, 1) := by decide +kernel
theorem dL_law_1210 : decode code 1210 = .ok (.iaload, 1) := by decide +kernel
theorem dL_law_1211 : decode code 1211 = .ok (.aload_n 0, 1) := by decide +kernel
theorem dL_law_1212 : decode code 1212 = .ok (.iload 4, 2) := by decide +kernel
theorem dL_law_1214 : decode code 1214 = .ok (.iconst 2, 1) := by decide +kernel
theorem dL_law_1215 : decode code 1215 = .ok (.iadd, 1) := by decide +kernel
theorem dL_law_1216 : decode code 1216 = .ok (.iaload, 1) := by decide +kernel
theorem dL_law_1217 : decode code 1217 = .ok (.aload_n 3, 1) := by decide +kernel
theorem dL_law_1218 : decode code 1218 = .ok (.invokestatic 147, 3) := by decide +kernel
theorem dL_law_1221 : decode code 1221 = .ok (.istore 5, 2) := by decide +kernel
theorem dL_law_1223 : decode code 1223 = .ok (.aload_n 2, 1) := by decide +kernel
theorem dL_law_1224 : decode code 1224 = .ok (.aload_n 0, 1) := by decide +kernel
theorem dL_law_1225 : decode code 1225 = .ok (.iload 4, 2) := by decide +kernel
theorem dL_law_1227 : decode code 1227 = .ok (.iconst 1, 1) := by decide +kernel
theorem dL_law_1228 : decode code 1228 = .ok (.iadd, 1) := by decide +kernel
theorem dL_law_1229 : decode code 1229 = .ok (.iaload, 1) := by decide +kernel
theorem dL_law_1230 : decode code 1230 = .ok (.aload_n 0, 1) := by decide +kernel
theorem dL_law_1231 : decode code 1231 = .ok (.iload 4, 2) := by decide +kernel
theorem dL_law_1233 : decode code 1233 = .ok (.iconst 2, 1) := by decide +kernel
theorem dL_law_1234 : decode code 1234 = .ok (.iadd, 1) := by decide +kernel
theorem dL_law_1235 : decode code 1235 = .ok (.iaload, 1) := by decide +kernel
theorem dL_law_1236 : decode code 1236 = .ok (.invokevirtual 149, 3) := by decide +kernel
theorem dL_law_1239 : decode code 1239 = .ok (.istore 6, 2) := by decide +kernel
theorem dL_law_1241 : decode code 1241 = .ok (.aload_n 2, 1) := by decide +kernel
theorem dL_law_1242 : decode code 1242 = .ok (.invokevirtual 90, 3) := by decide +kernel
theorem dL_law_1245 : decode code 1245 = .ok (.iload 5, 2) := by decide +kernel
theorem dL_law_1247 : decode code 1247 = .ok (.if_icmp .eq 5, 3) := by decide +kernel
theorem dL_law_1250 : decode code 1250 = .ok (.iconst 0, 1) := by decide +kernel
theorem dL_law_1251 : decode code 1251 = .ok (.ireturn, 1) := by decide +kernel
theorem dL_law_1252 : decode code 1252 = .ok (.iload 5, 2) := by decide +kernel
theorem dL_law_1254 : decode code 1254 = .ok (.ifCond .ne 15, 3) := by decide +kernel
theorem dL_law_1257 : decode code 1257 = .ok (.aload_n 3, 1) := by decide +kernel
theorem dL_law_1258 : decode code 1258 = .ok (.iconst 0, 1) := by decide +kernel
theorem dL_law_1259 : decode code 1259 = .ok (.laload, 1) := by decide +kernel
theorem dL_law_1260 : decode code 1260 = .ok (.iload 6, 2) := by decide +kernel
theorem dL_law_1262 : decode code 1262 = .ok (.i2l, 1) := by decide +kernel
theorem dL_law_1263 : decode code 1263 = .ok (.lcmp, 1) := by decide +kernel
theorem dL_law_1264 : decode code 1264 = .ok (.ifCond .eq 5, 3) := by decide +kernel
theorem dL_law_1267 : decode code 1267 = .ok (.iconst 0, 1) := by decide +kernel
theorem dL_law_1268 : decode code 1268 = .ok (.ireturn, 1) := by decide +kernel
theorem dL_law_1269 : decode code 1269 = .ok (.goto 362, 3) := by decide +kernel
theorem dL_law_1272 : decode code 1272 = .ok (.aload_n 1, 1) := by decide +kernel
theorem dL_law_1273 : decode code 1273 = .ok (.aload_n 0, 1) := by decide +kernel
theorem dL_law_1274 : decode code 1274 = .ok (.iload 4, 2) := by decide +kernel
theorem dL_law_1276 : decode code 1276 = .ok (.iconst 1, 1) := by decide +kernel
theorem dL_law_1277 : decode code 1277 = .ok (.iadd, 1) := by decide +kernel
theorem dL_law_1278 : decode code 1278 = .ok (.iaload, 1) := by decide +kernel
theorem dL_law_1279 : decode code 1279 = .ok (.aload_n 0, 1) := by decide +kernel
theorem dL_law_1280 : decode code 1280 = .ok (.iload 4, 2) := by decide +kernel
theorem dL_law_1282 : decode code 1282 = .ok (.iconst 2, 1) := by decide +kernel
theorem dL_law_1283 : decode code 1283 = .ok (.iadd, 1) := by decide +kernel
theorem dL_law_1284 : decode code 1284 = .ok (.iaload, 1) := by decide +kernel
theorem dL_law_1285 : decode code 1285 = .ok (.aload_n 3, 1) := by decide +kernel
theorem dL_law_1286 : decode code 1286 = .ok (.invokestatic 150, 3) := by decide +kernel
theorem dL_law_1289 : decode code 1289 = .ok (.istore 5, 2) := by decide +kernel
theorem dL_law_1291 : decode code 1291 = .ok (.aload_n 2, 1) := by decide +kernel
theorem dL_law_1292 : decode code 1292 = .ok (.aload_n 0, 1) := by decide +kernel
theorem dL_law_1293 : decode code 1293 = .ok (.iload 4, 2) := by decide +kernel
theorem dL_law_1295 : decode code 1295 = .ok (.iconst 1, 1) := by decide +kernel
theorem dL_law_1296 : decode code 1296 = .ok (.iadd, 1) := by decide +kernel
theorem dL_law_1297 : decode code 1297 = .ok (.iaload, 1) := by decide +kernel
theorem dL_law_1298 : decode code 1298 = .ok (.aload_n 0, 1) := by decide +kernel
theorem dL_law_1299 : decode code 1299 = .ok (.iload 4, 2) := by decide +kernel
theorem dL_law_1301 : decode code 1301 = .ok (.iconst 2, 1) := by decide +kernel
theorem dL_law_1302 : decode code 1302 = .ok (.iadd, 1) := by decide +kernel
theorem dL_law_1303 : decode code 1303 = .ok (.iaload, 1) := by decide +kernel
theorem dL_law_1304 : decode code 1304 = .ok (.invokevirtual 152, 3) := by decide +kernel
theorem dL_law_1307 : decode code 1307 = .ok (.istore 6, 2) := by decide +kernel
theorem dL_law_1309 : decode code 1309 = .ok (.aload_n 2, 1) := by decide +kernel
theorem dL_law_1310 : decode code 1310 = .ok (.invokevirtual 90, 3) := by decide +kernel
theorem dL_law_1313 : decode code 1313 = .ok (.iload 5, 2) := by decide +kernel
theorem dL_law_1315 : decode code 1315 = .ok (.if_icmp .eq 5, 3) := by decide +kernel
theorem dL_law_1318 : decode code 1318 = .ok (.iconst 0, 1) := by decide +kernel
theorem dL_law_1319 : decode code 1319 = .ok (.ireturn, 1) := by decide +kernel
theorem dL_law_1320 : decode code 1320 = .ok (.iload 5, 2) := by decide +kernel
theorem dL_law_1322 : decode code 1322 = .ok (.ifCond .ne 15, 3) := by decide +kernel
theorem dL_law_1325 : decode code 1325 = .ok (.aload_n 3, 1) := by decide +kernel
theorem dL_law_1326 : decode code 1326 = .ok (.iconst 0, 1) := by decide +kernel
theorem dL_law_1327 : decode code 1327 = .ok (.laload, 1) := by decide +kernel
theorem dL_law_1328 : decode code 1328 = .ok (.iload 6, 2) := by decide +kernel
theorem dL_law_1330 : decode code 1330 = .ok (.i2l, 1) := by decide +kernel
theorem dL_law_1331 : decode code 1331 = .ok (.lcmp, 1) := by decide +kernel
theorem dL_law_1332 : decode code 1332 = .ok (.ifCond .eq 5, 3) := by decide +kernel
theorem dL_law_1335 : decode code 1335 = .ok (.iconst 0, 1) := by decide +kernel
theorem dL_law_1336 : decode code 1336 = .ok (.ireturn, 1) := by decide +kernel
theorem dL_law_1337 : decode code 1337 = .ok (.goto 294, 3) := by decide +kernel
theorem dL_law_1340 : decode code 1340 = .ok (.aload_n 1, 1) := by decide +kernel
theorem dL_law_1341 : decode code 1341 = .ok (.aload_n 0, 1) := by decide +kernel
theorem dL_law_1342 : decode code 1342 = .ok (.iload 4, 2) := by decide +kernel
theorem dL_law_1344 : decode code 1344 = .ok (.iconst 1, 1) := by decide +kernel
theorem dL_law_1345 : decode code 1345 = .ok (.iadd, 1) := by decide +kernel
theorem dL_law_1346 : decode code 1346 = .ok (.iaload, 1) := by decide +kernel
theorem dL_law_1347 : decode code 1347 = .ok (.aload_n 3, 1) := by decide +kernel
theorem dL_law_1348 : decode code 1348 = .ok (.invokestatic 153, 3) := by decide +kernel
theorem dL_law_1351 : decode code 1351 = .ok (.istore 5, 2) := by decide +kernel
theorem dL_law_1353 : decode code 1353 = .ok (.aload_n 2, 1) := by decide +kernel
theorem dL_law_1354 : decode code 1354 = .ok (.aload_n 0, 1) := by decide +kernel
theorem dL_law_1355 : decode code 1355 = .ok (.iload 4, 2) := by decide +kernel
theorem dL_law_1357 : decode code 1357 = .ok (.iconst 1, 1) := by decide +kernel
theorem dL_law_1358 : decode code 1358 = .ok (.iadd, 1) := by decide +kernel
theorem dL_law_1359 : decode code 1359 = .ok (.iaload, 1) := by decide +kernel
theorem dL_law_1360 : decode code 1360 = .ok (.invokevirtual 155, 3) := by decide +kernel
theorem dL_law_1363 : decode code 1363 = .ok (.istore 6, 2) := by decide +kernel
theorem dL_law_1365 : decode code 1365 = .ok (.aload_n 2, 1) := by decide +kernel
theorem dL_law_1366 : decode code 1366 = .ok (.invokevirtual 90, 3) := by decide +kernel
theorem dL_law_1369 : decode code 1369 = .ok (.iload 5, 2) := by decide +kernel
theorem dL_law_1371 : decode code 1371 = .ok (.if_icmp .eq 5, 3) := by decide +kernel
theorem dL_law_1374 : decode code 1374 = .ok (.iconst 0, 1) := by decide +kernel
theorem dL_law_1375 : decode code 1375 = .ok (.ireturn, 1) := by decide +kernel
theorem dL_law_1376 : decode code 1376 = .ok (.iload 5, 2) := by decide +kernel
theorem dL_law_1378 : decode code 1378 = .ok (.ifCond .ne 15, 3) := by decide +kernel
theorem dL_law_1381 : decode code 1381 = .ok (.aload_n 3, 1) := by decide +kernel
theorem dL_law_1382 : decode code 1382 = .ok (.iconst 0, 1) := by decide +kernel
theorem dL_law_1383 : decode code 1383 = .ok (.laload, 1) := by decide +kernel
theorem dL_law_1384 : decode code 1384 = .ok (.iload 6, 2) := by decide +kernel
theorem dL_law_1386 : decode code 1386 = .ok (.i2l, 1) := by decide +kernel
theorem dL_law_1387 : decode code 1387 = .ok (.lcmp, 1) := by decide +kernel
theorem dL_law_1388 : decode code 1388 = .ok (.ifCond .eq 5, 3) := by decide +kernel
theorem dL_law_1391 : decode code 1391 = .ok (.iconst 0, 1) := by decide +kernel
theorem dL_law_1392 : decode code 1392 = .ok (.ireturn, 1) := by decide +kernel
theorem dL_law_1393 : decode code 1393 = .ok (.goto 238, 3) := by decide +kernel
theorem dL_law_1396 : decode code 1396 = .ok (.aload_n 1, 1) := by decide +kernel
theorem dL_law_1397 : decode code 1397 = .ok (.aload_n 0, 1) := by decide +kernel
theorem dL_law_1398 : decode code 1398 = .ok (.iload 4, 2) := by decide +kernel
theorem dL_law_1400 : decode code 1400 = .ok (.iconst 1, 1) := by decide +kernel
theorem dL_law_1401 : decode code 1401 = .ok (.iadd, 1) := by decide +kernel
theorem dL_law_1402 : decode code 1402 = .ok (.iaload, 1) := by decide +kernel
theorem dL_law_1403 : decode code 1403 = .ok (.aload_n 0, 1) := by decide +kernel
theorem dL_law_1404 : decode code 1404 = .ok (.iload 4, 2) := by decide +kernel
theorem dL_law_1406 : decode code 1406 = .ok (.iconst 2, 1) := by decide +kernel
theorem dL_law_1407 : decode code 1407 = .ok (.iadd, 1) := by decide +kernel
theorem dL_law_1408 : decode code 1408 = .ok (.iaload, 1) := by decide +kernel
theorem dL_law_1409 : decode code 1409 = .ok (.aload_n 0, 1) := by decide +kernel
theorem dL_law_1410 : decode code 1410 = .ok (.iload 4, 2) := by decide +kernel
theorem dL_law_1412 : decode code 1412 = .ok (.iconst 3, 1) := by decide +kernel
theorem dL_law_1413 : decode code 1413 = .ok (.iadd, 1) := by decide +kernel
theorem dL_law_1414 : decode code 1414 = .ok (.iaload, 1) := by decide +kernel
theorem dL_law_1415 : decode code 1415 = .ok (.ifCond .eq 7, 3) := by decide +kernel
theorem dL_law_1418 : decode code 1418 = .ok (.iconst 1, 1) := by decide +kernel
theorem dL_law_1419 : decode code 1419 = .ok (.goto 4, 3) := by decide +kernel
theorem dL_law_1422 : decode code 1422 = .ok (.iconst 0, 1) := by decide +kernel
theorem dL_law_1423 : decode code 1423 = .ok (.aload_n 3, 1) := by decide +kernel
theorem dL_law_1424 : decode code 1424 = .ok (.invokestatic 156, 3) := by decide +kernel
theorem dL_law_1427 : decode code 1427 = .ok (.istore 5, 2) := by decide +kernel
theorem dL_law_1429 : decode code 1429 = .ok (.aload_n 2, 1) := by decide +kernel
theorem dL_law_1430 : decode code 1430 = .ok (.aload_n 0, 1) := by decide +kernel
theorem dL_law_1431 : decode code 1431 = .ok (.iload 4, 2) := by decide +kernel
theorem dL_law_1433 : decode code 1433 = .ok (.iconst 1, 1) := by decide +kernel
theorem dL_law_1434 : decode code 1434 = .ok (.iadd, 1) := by decide +kernel
theorem dL_law_1435 : decode code 1435 = .ok (.iaload, 1) := by decide +kernel
theorem dL_law_1436 : decode code 1436 = .ok (.aload_n 0, 1) := by decide +kernel
theorem dL_law_1437 : decode code 1437 = .ok (.iload 4, 2) := by decide +kernel
theorem dL_law_1439 : decode code 1439 = .ok (.iconst 2, 1) := by decide +kernel
theorem dL_law_1440 : decode code 1440 = .ok (.iadd, 1) := by decide +kernel
theorem dL_law_1441 : decode code 1441 = .ok (.iaload, 1) := by decide +kernel
theorem dL_law_1442 : decode code 1442 = .ok (.aload_n 0, 1) := by decide +kernel
theorem dL_law_1443 : decode code 1443 = .ok (.iload 4, 2) := by decide +kernel
theorem dL_law_1445 : decode code 1445 = .ok (.iconst 3, 1) := by decide +kernel
theorem dL_law_1446 : decode code 1446 = .ok (.iadd, 1) := by decide +kernel
theorem dL_law_1447 : decode code 1447 = .ok (.iaload, 1) := by decide +kernel
theorem dL_law_1448 : decode code 1448 = .ok (.ifCond .eq 7, 3) := by decide +kernel
theorem dL_law_1451 : decode code 1451 = .ok (.iconst 1, 1) := by decide +kernel
theorem dL_law_1452 : decode code 1452 = .ok (.goto 4, 3) := by decide +kernel
theorem dL_law_1455 : decode code 1455 = .ok (.iconst 0, 1) := by decide +kernel
theorem dL_law_1456 : decode code 1456 = .ok (.invokevirtual 159, 3) := by decide +kernel
theorem dL_law_1459 : decode code 1459 = .ok (.istore 6, 2) := by decide +kernel
theorem dL_law_1461 : decode code 1461 = .ok (.aload_n 2, 1) := by decide +kernel
theorem dL_law_1462 : decode code 1462 = .ok (.invokevirtual 90, 3) := by decide +kernel
theorem dL_law_1465 : decode code 1465 = .ok (.iload 5, 2) := by decide +kernel
theorem dL_law_1467 : decode code 1467 = .ok (.if_icmp .eq 5, 3) := by decide +kernel
theorem dL_law_1470 : decode code 1470 = .ok (.iconst 0, 1) := by decide +kernel
theorem dL_law_1471 : decode code 1471 = .ok (.ireturn, 1) := by decide +kernel
theorem dL_law_1472 : decode code 1472 = .ok (.iload 5, 2) := by decide +kernel
theorem dL_law_1474 : decode code 1474 = .ok (.ifCond .ne 15, 3) := by decide +kernel
theorem dL_law_1477 : decode code 1477 = .ok (.aload_n 3, 1) := by decide +kernel
theorem dL_law_1478 : decode code 1478 = .ok (.iconst 0, 1) := by decide +kernel
theorem dL_law_1479 : decode code 1479 = .ok (.laload, 1) := by decide +kernel
theorem dL_law_1480 : decode code 1480 = .ok (.iload 6, 2) := by decide +kernel
theorem dL_law_1482 : decode code 1482 = .ok (.i2l, 1) := by decide +kernel
theorem dL_law_1483 : decode code 1483 = .ok (.lcmp, 1) := by decide +kernel
theorem dL_law_1484 : decode code 1484 = .ok (.ifCond .eq 5, 3) := by decide +kernel
theorem dL_law_1487 : decode code 1487 = .ok (.iconst 0, 1) := by decide +kernel
theorem dL_law_1488 : decode code 1488 = .ok (.ireturn, 1) := by decide +kernel
theorem dL_law_1489 : decode code 1489 = .ok (.goto 142, 3) := by decide +kernel
theorem dL_law_1492 : decode code 1492 = .ok (.aload_n 1, 1) := by decide +kernel
theorem dL_law_1493 : decode code 1493 = .ok (.aload_n 0, 1) := by decide +kernel
theorem dL_law_1494 : decode code 1494 = .ok (.iload 4, 2) := by decide +kernel
theorem dL_law_1496 : decode code 1496 = .ok (.iconst 1, 1) := by decide +kernel
theorem dL_law_1497 : decode code 1497 = .ok (.iadd, 1) := by decide +kernel
theorem dL_law_1498 : decode code 1498 = .ok (.iaload, 1) := by decide +kernel
theorem dL_law_1499 : decode code 1499 = .ok (.aload_n 0, 1) := by decide +kernel
theorem dL_law_1500 : decode code 1500 = .ok (.iload 4, 2) := by decide +kernel
theorem dL_law_1502 : decode code 1502 = .ok (.iconst 2, 1) := by decide +kernel
theorem dL_law_1503 : decode code 1503 = .ok (.iadd, 1) := by decide +kernel
theorem dL_law_1504 : decode code 1504 = .ok (.iaload, 1) := by decide +kernel
theorem dL_law_1505 : decode code 1505 = .ok (.aload_n 0, 1) := by decide +kernel
theorem dL_law_1506 : decode code 1506 = .ok (.iload 4, 2) := by decide +kernel
theorem dL_law_1508 : decode code 1508 = .ok (.iconst 3, 1) := by decide +kernel
theorem dL_law_1509 : decode code 1509 = .ok (.iadd, 1) := by decide +kernel
theorem dL_law_1510 : decode code 1510 = .ok (.iaload, 1) := by decide +kernel
theorem dL_law_1511 : decode code 1511 = .ok (.aload_n 0, 1) := by decide +kernel
theorem dL_law_1512 : decode code 1512 = .ok (.iload 4, 2) := by decide +kernel
theorem dL_law_1514 : decode code 1514 = .ok (.iconst 4, 1) := by decide +kernel
theorem dL_law_1515 : decode code 1515 = .ok (.iadd, 1) := by decide +kernel
theorem dL_law_1516 : decode code 1516 = .ok (.iaload, 1) := by decide +kernel
theorem dL_law_1517 : decode code 1517 = .ok (.ifCond .eq 7, 3) := by decide +kernel
theorem dL_law_1520 : decode code 1520 = .ok (.iconst 1, 1) := by decide +kernel
theorem dL_law_1521 : decode code 1521 = .ok (.goto 4, 3) := by decide +kernel
theorem dL_law_1524 : decode code 1524 = .ok (.iconst 0, 1) := by decide +kernel
theorem dL_law_1525 : decode code 1525 = .ok (.aload_n 3, 1) := by decide +kernel
theorem dL_law_1526 : decode code 1526 = .ok (.invokestatic 160, 3) := by decide +kernel
theorem dL_law_1529 : decode code 1529 = .ok (.istore 5, 2) := by decide +kernel
theorem dL_law_1531 : decode code 1531 = .ok (.aload_n 2, 1) := by decide +kernel
theorem dL_law_1532 : decode code 1532 = .ok (.aload_n 0, 1) := by decide +kernel
theorem dL_law_1533 : decode code 1533 = .ok (.iload 4, 2) := by decide +kernel
theorem dL_law_1535 : decode code 1535 = .ok (.iconst 1, 1) := by decide +kernel
theorem dL_law_1536 : decode code 1536 = .ok (.iadd, 1) := by decide +kernel
theorem dL_law_1537 : decode code 1537 = .ok (.iaload, 1) := by decide +kernel
theorem dL_law_1538 : decode code 1538 = .ok (.aload_n 0, 1) := by decide +kernel
theorem dL_law_1539 : decode code 1539 = .ok (.iload 4, 2) := by decide +kernel
theorem dL_law_1541 : decode code 1541 = .ok (.iconst 2, 1) := by decide +kernel
theorem dL_law_1542 : decode code 1542 = .ok (.iadd, 1) := by decide +kernel
theorem dL_law_1543 : decode code 1543 = .ok (.iaload, 1) := by decide +kernel
theorem dL_law_1544 : decode code 1544 = .ok (.aload_n 0, 1) := by decide +kernel
theorem dL_law_1545 : decode code 1545 = .ok (.iload 4, 2) := by decide +kernel
theorem dL_law_1547 : decode code 1547 = .ok (.iconst 3, 1) := by decide +kernel
theorem dL_law_1548 : decode code 1548 = .ok (.iadd, 1) := by decide +kernel
theorem dL_law_1549 : decode code 1549 = .ok (.iaload, 1) := by decide +kernel
theorem dL_law_1550 : decode code 1550 = .ok (.aload_n 0, 1) := by decide +kernel
theorem dL_law_1551 : decode code 1551 = .ok (.iload 4, 2) := by decide +kernel
theorem dL_law_1553 : decode code 1553 = .ok (.iconst 4, 1) := by decide +kernel
theorem dL_law_1554 : decode code 1554 = .ok (.iadd, 1) := by decide +kernel
theorem dL_law_1555 : decode code 1555 = .ok (.iaload, 1) := by decide +kernel
theorem dL_law_1556 : decode code 1556 = .ok (.ifCond .eq 7, 3) := by decide +kernel
theorem dL_law_1559 : decode code 1559 = .ok (.iconst 1, 1) := by decide +kernel
theorem dL_law_1560 : decode code 1560 = .ok (.goto 4, 3) := by decide +kernel
theorem dL_law_1563 : decode code 1563 = .ok (.iconst 0, 1) := by decide +kernel
theorem dL_law_1564 : decode code 1564 = .ok (.invokevirtual 162, 3) := by decide +kernel
theorem dL_law_1567 : decode code 1567 = .ok (.istore 6, 2) := by decide +kernel
theorem dL_law_1569 : decode code 1569 = .ok (.aload_n 2, 1) := by decide +kernel
theorem dL_law_1570 : decode code 1570 = .ok (.invokevirtual 90, 3) := by decide +kernel
theorem dL_law_1573 : decode code 1573 = .ok (.iload 5, 2) := by decide +kernel
theorem dL_law_1575 : decode code 1575 = .ok (.if_icmp .eq 5, 3) := by decide +kernel
theorem dL_law_1578 : decode code 1578 = .ok (.iconst 0, 1) := by decide +kernel
theorem dL_law_1579 : decode code 1579 = .ok (.ireturn, 1) := by decide +kernel
theorem dL_law_1580 : decode code 1580 = .ok (.iload 5, 2) := by decide +kernel
theorem dL_law_1582 : decode code 1582 = .ok (.ifCond .ne 22, 3) := by decide +kernel
theorem dL_law_1585 : decode code 1585 = .ok (.aload_n 3, 1) := by decide +kernel
theorem dL_law_1586 : decode code 1586 = .ok (.iconst 0, 1) := by decide +kernel
theorem dL_law_1587 : decode code 1587 = .ok (.laload, 1) := by decide +kernel
theorem dL_law_1588 : decode code 1588 = .ok (.iload 6, 2) := by decide +kernel
theorem dL_law_1590 : decode code 1590 = .ok (.ifCond .eq 7, 3) := by decide +kernel
theorem dL_law_1593 : decode code 1593 = .ok (.lconst 1, 1) := by decide +kernel
theorem dL_law_1594 : decode code 1594 = .ok (.goto 4, 3) := by decide +kernel
theorem dL_law_1597 : decode code 1597 = .ok (.lconst 0, 1) := by decide +kernel
theorem dL_law_1598 : decode code 1598 = .ok (.lcmp, 1) := by decide +kernel
theorem dL_law_1599 : decode code 1599 = .ok (.ifCond .eq 5, 3) := by decide +kernel
theorem dL_law_1602 : decode code 1602 = .ok (.iconst 0, 1) := by decide +kernel
theorem dL_law_1603 : decode code 1603 = .ok (.ireturn, 1) := by decide +kernel
theorem dL_law_1604 : decode code 1604 = .ok (.goto 27, 3) := by decide +kernel
theorem dL_law_1607 : decode code 1607 = .ok (.aload_n 1, 1) := by decide +kernel
theorem dL_law_1608 : decode code 1608 = .ok (.invokevirtual 163, 3) := by decide +kernel
theorem dL_law_1611 : decode code 1611 = .ok (.aload_n 2, 1) := by decide +kernel
theorem dL_law_1612 : decode code 1612 = .ok (.invokevirtual 166, 3) := by decide +kernel
theorem dL_law_1615 : decode code 1615 = .ok (.goto 16, 3) := by decide +kernel
theorem dL_law_1618 : decode code 1618 = .ok (.aload_n 1, 1) := by decide +kernel
theorem dL_law_1619 : decode code 1619 = .ok (.invokevirtual 167, 3) := by decide +kernel
theorem dL_law_1622 : decode code 1622 = .ok (.aload_n 2, 1) := by decide +kernel
theorem dL_law_1623 : decode code 1623 = .ok (.invokevirtual 171, 3) := by decide +kernel
theorem dL_law_1626 : decode code 1626 = .ok (.if_icmp .eq 5, 3) := by decide +kernel
theorem dL_law_1629 : decode code 1629 = .ok (.iconst 0, 1) := by decide +kernel
theorem dL_law_1630 : decode code 1630 = .ok (.ireturn, 1) := by decide +kernel
theorem dL_law_1631 : decode code 1631 = .ok (.iinc 4 6, 3) := by decide +kernel
theorem dL_law_1634 : decode code 1634 = .ok (.goto (-1611), 3) := by decide +kernel
theorem dL_law_1637 : decode code 1637 = .ok (.iconst 1, 1) := by decide +kernel
theorem dL_law_1638 : decode code 1638 = .ok (.ireturn, 1) := by decide +kernel
