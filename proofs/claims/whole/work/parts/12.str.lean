/-! strings: their walks stand open for now -/
def et_isl (g : et_G) : List Int32 → Int32 → Option (Int32 × et_G)
  | [], _ => some (1, g)
  | c :: r, i => et_ck (et_ib (g.1 28 4 + i) 800) (if g.1 1 (g.1 28 4 + i).toNatClampNeg = c then et_isl g r (i + 1) else some (0, g))
def fn_Re_is (t : List Int32) (g : et_G) : Option (Int32 × et_G) := if g.1 28 3 = 1 then (if g.1 28 5 = Int32.ofNat t.length then et_isl g t 0 else some (0, g)) else some (0, g)
def et_txt : List String := ["stem", "ending", "change", "not", "places", "near", "person", "thing", "rule", "at", "weigh", "loud", "never"]
def et_SR (own : String) (i q : Nat) : Prop := ∃ t, et_txt[q - 1000]? = some t ∧ Cond.stringRef own i t ∈ lw_tbl
theorem sr_0 : et_SR RX4 90 1000 := ⟨_, rfl, List.mem_of_getElem? (i := 809) (by decide +kernel)⟩
theorem sr_1 : et_SR RX4 104 1001 := ⟨_, rfl, List.mem_of_getElem? (i := 887) (by decide +kernel)⟩
theorem sr_2 : et_SR RX4 109 1002 := ⟨_, rfl, List.mem_of_getElem? (i := 908) (by decide +kernel)⟩
theorem sr_3 : et_SR RX4 114 1003 := ⟨_, rfl, List.mem_of_getElem? (i := 916) (by decide +kernel)⟩
theorem sr_4 : et_SR RX4 119 1004 := ⟨_, rfl, List.mem_of_getElem? (i := 925) (by decide +kernel)⟩
theorem sr_5 : et_SR RX4 124 1005 := ⟨_, rfl, List.mem_of_getElem? (i := 930) (by decide +kernel)⟩
theorem sr_6 : et_SR RX4 129 1006 := ⟨_, rfl, List.mem_of_getElem? (i := 939) (by decide +kernel)⟩
theorem sr_7 : et_SR RX4 134 1007 := ⟨_, rfl, List.mem_of_getElem? (i := 944) (by decide +kernel)⟩
theorem sr_8 : et_SR RX4 139 1008 := ⟨_, rfl, List.mem_of_getElem? (i := 959) (by decide +kernel)⟩
theorem sr_9 : et_SR RX4 144 1009 := ⟨_, rfl, List.mem_of_getElem? (i := 969) (by decide +kernel)⟩
theorem sr_10 : et_SR RX4 148 1010 := ⟨_, rfl, List.mem_of_getElem? (i := 974) (by decide +kernel)⟩
theorem sr_11 : et_SR RX4 230 1011 := ⟨_, rfl, List.mem_of_getElem? (i := 957) (by decide +kernel)⟩
theorem sr_12 : et_SR RX4 234 1012 := ⟨_, rfl, List.mem_of_getElem? (i := 958) (by decide +kernel)⟩
section ZS
variable {α : Type} {X : et_X} {w : et_W} {u pc nL : Nat} {enc : α → et_O} {b : ByteArray} {own : String} {ret : Option FieldType} {tb : List ExceptionTableEntry} {rm : Room} {lv r : List (Option Value)} {st : List Value} {g : et_G} {o : Option (α × et_G)}
theorem zi_ldcs {i q : Nat} (hX : et_Gd X w b own nL ret tb rm) (hd : decode b pc = .ok (.ldc i, 2)) (hs : et_SR own i q) (kk : et_Z X w u enc (pc + 2) lv (.ref (et_ad w q) :: st) g o) : et_Z X w u enc pc lv st g o := sorry
theorem zi_ldcsw {i q : Nat} (hX : et_Gd X w b own nL ret tb rm) (hd : decode b pc = .ok (.ldc_w i, 3)) (hs : et_SR own i q) (kk : et_Z X w u enc (pc + 3) lv (.ref (et_ad w q) :: st) g o) : et_Z X w u enc pc lv st g o := sorry
end ZS
