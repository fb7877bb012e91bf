/-! System.arraycopy; the words of strings -/
def et_cc (sp dp n : Int32) (n0 n1 : Nat) : Bool := decide (¬ sp < 0 ∧ ¬ dp < 0 ∧ ¬ n < 0 ∧ sp.toNatClampNeg + n.toNatClampNeg ≤ n0 ∧ dp.toNatClampNeg + n.toNatClampNeg ≤ n1)
def et_cf (t : FieldType) (g : et_G) (k : Nat) (sp n : Int32) : Bool := (List.range n.toNatClampNeg).all (fun i => fits t (.int (g.1 k (sp.toNatClampNeg + i))))
def et_cp (g : et_G) (k0 k1 sp dp n : Nat) : et_G := (fun a => if a = k1 then va_cpy (g.1 k0) (g.1 k1) sp dp n else g.1 a, g.2)
theorem et_ce_cp {w : et_W} {g : et_G} {k0 k1 sp dp n : Nat} : ∀ k2, k2 ≠ k1 → ∀ s2, et_ce w (et_cp g k0 k1 sp dp n) k2 s2 = et_ce w g k2 s2 := by
  intro k2 h s2
  have h1 : (et_cp g k0 k1 sp dp n).1 k2 = g.1 k2 := by simp [et_cp, h]
  have h2 : (et_cp g k0 k1 sp dp n).2 = g.2 := rfl
  have h3 : ∀ q j', et_fv w (et_cp g k0 k1 sp dp n) k2 q j' = et_fv w g k2 q j' := fun q j' => by
    match q with
    | 0 => simp [et_fv, h1]
    | 1 => simp [et_fv, h2]
    | r + 2 => rfl
  cases s2 with
  | inl a =>
    obtain ⟨t, n⟩ := a
    cases t <;> simp [et_ce, h1, h2]
  | inr a => simp [et_ce, h3]
theorem tc_nat : Cond.native arraycopyName ∈ et_tb := et_mt 690 (by decide +kernel) rfl
theorem tc_sta : Cond.static arraycopyName ∈ et_tb := et_mt 689 (by decide +kernel) rfl
theorem tc_ini : Cond.initialized "java/lang/System" ∈ et_tb := et_mt 133 (by decide +kernel) rfl
theorem tc_min : Cond.static Lib.Math.min.name ∈ et_tb ∧ Cond.initialized "java/lang/Math" ∈ et_tb ∧ Cond.code Lib.Math.min.name Lib.Math.min.code 2 (some .int) ∈ et_tb := ⟨et_mt 677 (by decide +kernel) rfl, et_mt 127 (by decide +kernel) rfl, et_mt 678 (by decide +kernel) rfl⟩
section ZY
variable {α : Type} {X : et_X} {w : et_W} {u pc nL : Nat} {enc : α → et_O} {b : ByteArray} {own : String} {ret : Option FieldType} {tb : List ExceptionTableEntry} {rm : Room} {lv r : List (Option Value)} {st : List Value} {g : et_G} {o : Option (α × et_G)} {k idx ci j : Nat} {ty : FieldType}
theorem zi_cpi {k0 k1 n0 n1 : Nat} {sp dp n : Int32} (hX : et_Gd X w b own nL ret tb rm) (hd : decode b pc = .ok (.invokestatic idx, 3)) (hl : Cond.methodLink own idx arraycopyName ∈ et_tb) (hk0 : et_lay[k0]? = some (.inl (.int, n0))) (hk1 : et_lay[k1]? = some (.inl (.int, n1))) (hr1 : Nat.ble 1 rm.frames = true) (hr2 : Nat.ble ((st.map fun v => v.category).sum + 18) rm.locals = true)
    (kk : et_Z X w u enc (pc + 3) lv st (et_cp g k0 k1 sp.toNatClampNeg dp.toNatClampNeg n.toNatClampNeg) o) : et_Z X w u enc pc lv (.int n :: .int dp :: .ref (et_ad w k1) :: .int sp :: .ref (et_ad w k0) :: st) g (et_ck (et_cc sp dp n n0 n1) o) := by
  refine zi_ck fun hc => ?_
  obtain ⟨p, l, e, R, s, m, args, below, meth, c⟩ := X
  intro a1 g1 ho H locs ls hP hS hlv
  obtain ⟨hx, hb, hml, hown, hts, hr, hlocks, hsane, hU, htb, hlt, rfl⟩ := hX
  obtain ⟨c1, c2, c3, c4, c5⟩ := of_decide_eq_true hc
  refine va_copyi (ty := .int) hx hb hlv.1.symm hown (hts _ hl) (hts _ tc_nat) (hts _ tc_sta) (hts _ tc_ini) (et_Kof hsane hU) hP (et_D hsane g) hS k0 k1 0 0 (et_at hk0) (et_at hk1) (et_t0 w) (et_t0 w) rfl c1 c2 c3 c4 c5 (fun i hi => rfl) (Nat.le_of_ble_eq_true hr1) (Nat.le_of_ble_eq_true hr2) hd (fun H1 locs1 hP1 _ hS1 => ?_)
  have he := et_set (w := w) (g := g) (g2 := et_cp g k0 k1 sp.toNatClampNeg dp.toNatClampNeg n.toNatClampNeg) hk1 et_ce_cp
  have h2 : et_ce w (et_cp g k0 k1 sp.toNatClampNeg dp.toNatClampNeg n.toNatClampNeg) k1 (.inl (.int, n1)) = .inl (et_ca w .int, n1, .inl (va_cpy (g.1 k0) (g.1 k1) sp.toNatClampNeg dp.toNatClampNeg n.toNatClampNeg)) := by simp [et_ce, et_cp]
  rw [h2] at he
  rw [he] at hP1
  exact kk a1 g1 ho H1 locs1 ls hP1 hS1 hlv
theorem zi_cpb {k0 k1 n0 n1 : Nat} {sp dp n : Int32} (hX : et_Gd X w b own nL ret tb rm) (hd : decode b pc = .ok (.invokestatic idx, 3)) (hl : Cond.methodLink own idx arraycopyName ∈ et_tb) (hk0 : et_lay[k0]? = some (.inl (.byte, n0))) (hk1 : et_lay[k1]? = some (.inl (.byte, n1))) (hr1 : Nat.ble 1 rm.frames = true) (hr2 : Nat.ble ((st.map fun v => v.category).sum + 18) rm.locals = true)
    (kk : et_Z X w u enc (pc + 3) lv st (et_cp g k0 k1 sp.toNatClampNeg dp.toNatClampNeg n.toNatClampNeg) o) : et_Z X w u enc pc lv (.int n :: .int dp :: .ref (et_ad w k1) :: .int sp :: .ref (et_ad w k0) :: st) g (et_ck (et_cf .byte g k0 sp n && et_cc sp dp n n0 n1) o) := by
  refine zi_ck fun hc0 => ?_
  obtain ⟨hf, hc⟩ := (Bool.and_eq_true _ _).mp hc0
  obtain ⟨p, l, e, R, s, m, args, below, meth, c⟩ := X
  intro a1 g1 ho H locs ls hP hS hlv
  obtain ⟨hx, hb, hml, hown, hts, hr, hlocks, hsane, hU, htb, hlt, rfl⟩ := hX
  obtain ⟨c1, c2, c3, c4, c5⟩ := of_decide_eq_true hc
  refine va_copyi (ty := .byte) hx hb hlv.1.symm hown (hts _ hl) (hts _ tc_nat) (hts _ tc_sta) (hts _ tc_ini) (et_Kof hsane hU) hP (et_D hsane g) hS k0 k1 1 1 (et_at hk0) (et_at hk1) (et_t1 w) (et_t1 w) rfl c1 c2 c3 c4 c5 (fun i hi => List.all_eq_true.mp hf i (List.mem_range.mpr hi)) (Nat.le_of_ble_eq_true hr1) (Nat.le_of_ble_eq_true hr2) hd (fun H1 locs1 hP1 _ hS1 => ?_)
  have he := et_set (w := w) (g := g) (g2 := et_cp g k0 k1 sp.toNatClampNeg dp.toNatClampNeg n.toNatClampNeg) hk1 et_ce_cp
  have h2 : et_ce w (et_cp g k0 k1 sp.toNatClampNeg dp.toNatClampNeg n.toNatClampNeg) k1 (.inl (.byte, n1)) = .inl (et_ca w .byte, n1, .inl (va_cpy (g.1 k0) (g.1 k1) sp.toNatClampNeg dp.toNatClampNeg n.toNatClampNeg)) := by simp [et_ce, et_cp]
  rw [h2] at he
  rw [he] at hP1
  exact kk a1 g1 ho H1 locs1 ls hP1 hS1 hlv
theorem zi_min {x y : Int32} (hX : et_Gd X w b own nL ret tb rm) (hd : decode b pc = .ok (.invokestatic idx, 3)) (hl : Cond.methodLink own idx Lib.Math.min.name ∈ et_tb) (hr1 : Nat.ble 1 rm.frames = true) (hr2 : Nat.ble ((st.map fun v => v.category).sum + 13) rm.locals = true) (hr3 : Nat.ble u rm.cells = true) (hr4 : Nat.ble (6 * u) rm.slots = true)
    (kk : et_Z X w u enc (pc + 3) lv (.int (if y < x then y else x) :: st) g o) : et_Z X w u enc pc lv (.int y :: .int x :: st) g o := by
  obtain ⟨p, l, e, R, s, m, args, below, meth, c⟩ := X
  intro a1 g1 ho H locs ls hP hS hlv
  obtain ⟨hx, hb, hml, hown, hts, hr, hlocks, hsane, hU, htb, hlt, rfl⟩ := hX
  exact va_mmin hx hb hlv.1.symm hown (hts _ hl) (hts _ tc_min.1) (hts _ tc_min.2.1) (hts _ tc_min.2.2) (Nat.le_of_ble_eq_true hr1) (Nat.le_of_ble_eq_true hr2) (Nat.le_of_ble_eq_true hr3) (Nat.le_of_ble_eq_true hr4) hd (kk a1 g1 ho H locs ls hP hS hlv)
end ZY
theorem th_0 : et_TH RX9 0 167 169 := ⟨et_mt 1009 (by decide +kernel) rfl, et_mt 135 (by decide +kernel) rfl, by decide +kernel, by decide +kernel, by decide +kernel, by decide +kernel⟩
theorem th_1 : et_TH RX9 1 125 127 := ⟨et_mt 711 (by decide +kernel) rfl, et_mt 126 (by decide +kernel) rfl, by decide +kernel, by decide +kernel, by decide +kernel, by decide +kernel⟩
