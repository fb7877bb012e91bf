/-! constructors: the cells come one by one, at the addresses in a row; a reference's flag stands at 500 + its place -/
abbrev et_P : Type := Nat → Nat → Int32
def et_pf (w : et_W) (c : et_P) (k q j : Nat) : Value := match q with
  | 0 => .int (c k j)
  | 1 => .long 0
  | r + 2 => if c k (500 + j) = 1 then .ref (et_ad w r) else .null
def et_pe (w : et_W) (c : et_P) (k : Nat) (sh : et_S) : va_E := match sh with
  | .inl (.long, n) => .inl (et_ca w .long, n, .inr (.inl (fun _ => 0)))
  | .inl (t, n) => .inl (et_ca w t, n, .inl (c k))
  | .inr (ci, ks) => .inr (ci, ks.mapIdx (fun j q => et_pf w c k q j))
def et_z0a (t : FieldType) : (Nat → Int32) ⊕ (Nat → Int64) ⊕ (Nat → UInt32) ⊕ (Nat → UInt64) ⊕ (Nat → Option Nat) := match t with
  | .long => .inr (.inl (fun _ => 0))
  | _ => .inl (fun _ => 0)
def et_pw (w : et_W) (c : et_P) (n : Nat) : va_W := (et_lay.take n).mapIdx (fun k sh => (et_ad w k, et_pe w c k sh))
def et_ps (c : et_P) (k j : Nat) (x : Int32) : et_P := fun a => if a = k then upd (c k) j x else c a
def et_fr (c : et_P) (n : Nat) : Prop := ∀ k, n ≤ k → c k = fun _ => 0
theorem et_fr_ps {c : et_P} {n k j : Nat} {x : Int32} (h : et_fr c n) (hk : k < n) : et_fr (et_ps c k j x) n := by
  intro a ha
  have : a ≠ k := by omega
  simp [et_ps, this]
  exact h a ha
theorem et_pat {w : et_W} {c : et_P} {n k : Nat} {sh : et_S} (h : et_lay[k]? = some sh) (hk : k < n) : (et_pw w c n)[k]? = some (et_ad w k, et_pe w c k sh) := by
  simp [et_pw, List.getElem?_mapIdx, List.getElem?_take, hk, h]
theorem et_pps_ne {c : et_P} {k j k2 : Nat} {x : Int32} (h : k2 ≠ k) : et_ps c k j x k2 = c k2 := by simp [et_ps, h]
theorem et_pps_eq {c : et_P} {k j : Nat} {x : Int32} : et_ps c k j x k = upd (c k) j x := by simp [et_ps]
theorem et_pe_ne {w : et_W} {c c2 : et_P} {k2 : Nat} (h : c2 k2 = c k2) (s2 : et_S) : et_pe w c2 k2 s2 = et_pe w c k2 s2 := by
  have h3 : ∀ q j', et_pf w c2 k2 q j' = et_pf w c k2 q j' := fun q j' => by
    match q with
    | 0 => simp [et_pf, h]
    | 1 => rfl
    | r + 2 => simp [et_pf, h]
  cases s2 with
  | inl a =>
    obtain ⟨t, n⟩ := a
    cases t <;> simp [et_pe, h]
  | inr a => simp [et_pe, h3]
theorem et_pset {w : et_W} {c : et_P} {n k j : Nat} {x : Int32} {sh : et_S} (h : et_lay[k]? = some sh) (hk : k < n) : (et_pw w c n).set k (et_ad w k, et_pe w (et_ps c k j x) k sh) = et_pw w (et_ps c k j x) n := by
  apply List.ext_getElem?
  intro i
  rw [List.getElem?_set]
  by_cases hi : k = i
  · subst hi
    have hlt : k < (et_pw w c n).length := (List.getElem?_eq_some_iff.mp (et_pat (w := w) (c := c) h hk)).1
    rw [if_pos rfl, if_pos hlt, et_pat h hk]
  · rw [if_neg hi]
    simp only [et_pw, List.getElem?_mapIdx]
    cases (et_lay.take n)[i]? with
    | none => rfl
    | some s2 => simp [et_pe_ne (w := w) (et_pps_ne (c := c) (j := j) (x := x) (fun e => hi e.symm)) s2]
theorem et_ppush {w : et_W} {c : et_P} {n : Nat} {sh : et_S} (h : et_lay[n]? = some sh) : et_pw w c (n + 1) = et_pw w c n ++ [(et_ad w n, et_pe w c n sh)] := by
  apply List.ext_getElem?
  intro i
  have hn : n < et_lay.length := (List.getElem?_eq_some_iff.mp h).1
  have hl : (et_pw w c n).length = n := by simp [et_pw]; omega
  rcases Nat.lt_trichotomy i n with hi | hi | hi
  · rw [List.getElem?_append_left (by omega)]
    simp [et_pw, List.getElem?_mapIdx, List.getElem?_take, hi, Nat.lt_succ_of_lt hi]
  · subst hi
    rw [List.getElem?_append_right (by omega), hl, et_pat h (Nat.lt_succ_self _)]
    simp
  · rw [List.getElem?_eq_none (by simp [et_pw]; omega), List.getElem?_eq_none (by simp [hl]; omega)]
theorem et_pfs_i {w : et_W} {c : et_P} {k j : Nat} {x : Int32} {ks : List Nat} (h : ks[j]? = some 0) (hl : ks.length ≤ 500) : (ks.mapIdx (fun j q => et_pf w c k q j)).set j (.int x) = ks.mapIdx (fun j2 q => et_pf w (et_ps c k j x) k q j2) := by
  apply List.ext_getElem?
  intro i
  rw [List.getElem?_set]
  have hlt : j < ks.length := (List.getElem?_eq_some_iff.mp h).1
  by_cases hi : j = i
  · subst hi
    rw [if_pos rfl, if_pos (by simpa using hlt), List.getElem?_mapIdx, h]
    simp [et_pf, et_pps_eq, upd]
  · rw [if_neg hi, List.getElem?_mapIdx, List.getElem?_mapIdx]
    cases hq : ks[i]? with
    | none => rfl
    | some q => match q with
      | 0 => simp [et_pf, et_pps_eq, upd, Ne.symm hi]
      | 1 => rfl
      | r + 2 =>
        have : 500 + i ≠ j := by omega
        simp [et_pf, et_pps_eq, upd, this]
theorem et_pfs_r {w : et_W} {c : et_P} {k j r : Nat} {ks : List Nat} (h : ks[j]? = some (r + 2)) (hl : ks.length ≤ 500) : (ks.mapIdx (fun j q => et_pf w c k q j)).set j (.ref (et_ad w r)) = ks.mapIdx (fun j2 q => et_pf w (et_ps c k (500 + j) 1) k q j2) := by
  apply List.ext_getElem?
  intro i
  rw [List.getElem?_set]
  have hlt : j < ks.length := (List.getElem?_eq_some_iff.mp h).1
  by_cases hi : j = i
  · subst hi
    rw [if_pos rfl, if_pos (by simpa using hlt), List.getElem?_mapIdx, h]
    simp [et_pf, et_pps_eq, upd]
  · rw [if_neg hi, List.getElem?_mapIdx, List.getElem?_mapIdx]
    cases hq : ks[i]? with
    | none => rfl
    | some q =>
      have hil : i < ks.length := (List.getElem?_eq_some_iff.mp hq).1
      match q with
      | 0 =>
        have : i ≠ 500 + j := by omega
        simp [et_pf, et_pps_eq, upd, this]
      | 1 => rfl
      | r2 + 2 => simp [et_pf, et_pps_eq, upd, Ne.symm hi]
/-- addresses in a row, from the law's entry on -/
def et_Row (w : et_W) : Prop := ∀ k, k < et_lay.length → et_ad w k = w.1.heap.size + k
def et_KV (X : et_X) (w : et_W) (cl sl : Nat) (Q : State → Prop) (pc : Nat) (lv : List (Option Value)) (st : List Value) (c : et_P) (n : Nat) : Prop := match X with
  | (p, l, e, R, s, m, args, below, meth, cd) => et_Row w → et_fr c n → ∀ (H : Heap) (locs : List Loc) (ls : Array Slot), H.size = w.1.heap.size + n → va_P w.2.1 vwCl (et_pw w c n) H → va_S (et_A w) s.heap H locs → lv_has ls cd.maxLocals (et_L lv) → W p l e R s m args below meth cd H locs cl sl Q (F0 m pc ls st)
theorem et_pD {w : et_W} (h : et_Sane w) (c : et_P) (n : Nat) : va_D (et_A w) (et_pw w c n) := by
  have key : ∀ (i : Nat) (p : Nat × va_E), (et_pw w c n)[i]? = some p → i < et_lay.length ∧ p.1 = et_ad w i := by
    intro i p hp
    simp only [et_pw, List.getElem?_mapIdx] at hp
    cases hq : (et_lay.take n)[i]? with
    | none => rw [hq] at hp; cases hp
    | some sh =>
      rw [hq] at hp
      simp at hp
      have := (List.getElem?_eq_some_iff.mp hq).1
      simp at this
      exact ⟨by omega, by rw [← hp]⟩
  refine ⟨fun i j p q hp hq e => ?_, fun k q hq => ?_⟩
  · obtain ⟨a1, a2⟩ := key i p hp
    obtain ⟨b1, b2⟩ := key j q hq
    exact h.2.2.1 i j a1 b1 (by rw [← a2, ← b2]; exact e)
  · obtain ⟨a1, a2⟩ := key k q hq
    show w.1.heap.size ≤ q.1
    rw [a2]
    exact h.2.2.2.1 k a1
section KP
variable {p : Program} {l : Launch} {e : Env} {R : Room} {s : State} {m : MethodId} {args : Array Value} {below : List Frame} {meth : Method} {c : Code} {H : Heap} {locs : List Loc} {cells slots : Nat} {Q : State → Prop}
variable {cc : ByteArray} {pc : Nat} {ls : Array Slot} {rest : List Value} {D : va_G} {cl : List vw_C} {A : Nat → Prop} {a : Nat} {tys : List (ClassId × FieldType)} {ws : va_W} {H0 : Heap}
/-- a store in a field, with the heap's size: final ones in a constructor, others anywhere -/
theorem et_put (hexec : p.tables.exec = Jvm.exec) (hb : c.code = cc) {own C : String} {T : u_T} {N ci index : Nat} {Ts : List Cond} (hts : ∀ w ∈ Ts, w.before args s = true) (hin : ∀ w ∈ u_ws C T N, w ∈ Ts) (ty0 : Nat → FieldType) (hty : ∀ k, k < N → parseFieldDescriptor (T k).2.2.1 = some (ty0 k)) (hnm : ∀ a, a < N → ∀ b, b < N → a ≠ b → (T a).2.1 ≠ (T b).2.1) (hown : s.vm.findClass own = some m.cls) (hK : va_K D cl tys s) (hP : va_P D cl ws H) (hD : va_D A ws) (hS0 : va_S A H0 H locs) (q0 : Nat) {fs : List Value} (he : ws[q0]? = some (a, .inr (ci, fs))) (hc : cl[ci]? = some (C, T, N)) (k : Nat) (hk : k < N) (hlink : (Cond.fieldLink own index (T k).1 (T k).2.1 (T k).2.2.1).before args s = true)
    (hfin : (T k).2.2.2 = false ∨ ((T k).2.2.2 = true ∧ meth.name = "<init>" ∧ (T k).1 = own)) {ty : FieldType} {v : Value} (hd : parseFieldDescriptor (T k).2.2.1 = some ty) (hn : narrow ty v = v) (hfit : fits ty v = true) (hl : k < fs.length) (hdg : decode cc pc = .ok (.putfield index, 3))
    (kk : ∀ (H1 : Heap) (locs1 : List Loc), H1.size = H.size → va_P D cl (ws.set q0 (a, .inr (ci, fs.set k v))) H1 → va_S A H0 H1 locs1 → W p l e R s m args below meth c H1 locs1 cells slots Q (F0 m (pc + 3) ls rest)) : W p l e R s m args below meth c H locs cells slots Q (F0 m pc ls (v :: .ref a :: rest)) := by
  have hap := va_apart (own := own) hts hin ty0 hty hnm hK hc
  obtain ⟨r, h1, cell, q1, q2, q3, q4⟩ := hP q0 _ he
  have hr : r = (C, T, N) := Option.some.inj (h1.symm.trans hc)
  subst hr
  obtain ⟨hS, hfc, kC, hkC, hkind⟩ := hK.1 ci _ hc
  obtain ⟨cf, kf, fi, f, hi, hsl⟩ := hS k hk
  have hlay := hts _ (hin _ (u_in_lay hk))
  unfold u_lay at hlay
  have hst := (u_facts hfc hkC (u_lays hts hin hk) hi).1
  have fin : ∀ (H1 : Heap), H1[a]? = some { cell with slots := cell.slots.setIfInBounds f.slot v } → H1.size = H.size → (∀ q : Nat, q ≠ a → H1[q]? = H[q]?) → W p l e R s m args below meth c H1 (locs ++ [⟨a, f.slot⟩]) cells slots Q (F0 m (pc + 3) ls rest) := by
    intro H1 e1 e2 e3
    rw [hsl] at e1 ⊢
    exact kk H1 _ e2 (hP.set hD he ⟨_, hc, t_OB.to (V := updV (vp_V fs) k v) ⟨_, e1, q2, q3, t_set q4 hap hk v⟩ (fun j _ => vp_updV_set hl v j)⟩ e3) (hS0.put e2 e3 (hD.2 q0 _ he))
  rcases hfin with hfin | ⟨hfin, hin2, hdecl⟩
  · rw [if_neg (by rw [hfin]; decide)] at hlay
    have h6 := u_store hfc hkC hkind hlay hi hd hn hfit
    exact W.putK hexec hb (f := f) ⟨hown, hlink, ⟨_, _, _, hi⟩, hst⟩ (by rw [q2]; exact h6) q1 q3 (by rw [hsl]; exact k2_hasslot (q4 k hk)) rfl rfl hdg fin
  · rw [if_pos hfin] at hlay
    have hcf : m.cls = cf := by
      obtain ⟨_, _, c', _, _, _, -, -, hf', -, -, -, hown2, -⟩ := Cond.laysFinal_spec hlay
      have e1 : c' = cf := by have := hi.symm.trans hf'; simp at this; exact this.1.symm
      rw [hdecl] at hown2
      rw [← e1]; exact Option.some.inj (hown.symm.trans hown2)
    have h6 := u_fits hfc hkC hkind (Or.inr hlay) hi hd hn hfit
    exact W.putFinK hexec hb hown hlink hi hst hcf hin2 (by rw [q2]; exact h6) q1 q3 (by rw [hsl]; exact k2_hasslot (q4 k hk)) rfl rfl hdg fin
end KP
section KZ
variable {X : et_X} {w : et_W} {cl sl pc nL n : Nat} {Q : State → Prop} {b : ByteArray} {own : String} {ret : Option FieldType} {tb : List ExceptionTableEntry} {rm : Room} {lv r : List (Option Value)} {st : List Value} {c : et_P} {k idx ci j : Nat} {ty : FieldType} {ks : List Nat}
theorem kz_aload0 {x : Nat} (hX : et_Gd X w b own nL ret tb rm) (hd : decode b pc = .ok (.aload_n 0, 1)) (kk : et_KV X w cl sl Q (pc + 1) (some (.ref x) :: r) (.ref x :: st) c n) : et_KV X w cl sl Q pc (some (.ref x) :: r) st c n := by
  obtain ⟨p, l, e, R, s, m, args, below, meth, cd⟩ := X
  intro hrow hfr H locs ls hz hP hS hl
  exact lv_aload_n hX.1 hX.2.1 hd rfl (hl.2.2 (0, _) (et_L_mem.mpr rfl)) (kk hrow hfr H locs ls hz hP hS hl)
theorem kz_aload1 {a0 : Option Value} {x : Nat} (hX : et_Gd X w b own nL ret tb rm) (hd : decode b pc = .ok (.aload_n 1, 1)) (kk : et_KV X w cl sl Q (pc + 1) (a0 :: some (.ref x) :: r) (.ref x :: st) c n) : et_KV X w cl sl Q pc (a0 :: some (.ref x) :: r) st c n := by
  obtain ⟨p, l, e, R, s, m, args, below, meth, cd⟩ := X
  intro hrow hfr H locs ls hz hP hS hl
  exact lv_aload_n hX.1 hX.2.1 hd rfl (hl.2.2 (1, _) (et_L_mem.mpr rfl)) (kk hrow hfr H locs ls hz hP hS hl)
theorem kz_aload2 {a0 a1 : Option Value} {x : Nat} (hX : et_Gd X w b own nL ret tb rm) (hd : decode b pc = .ok (.aload_n 2, 1)) (kk : et_KV X w cl sl Q (pc + 1) (a0 :: a1 :: some (.ref x) :: r) (.ref x :: st) c n) : et_KV X w cl sl Q pc (a0 :: a1 :: some (.ref x) :: r) st c n := by
  obtain ⟨p, l, e, R, s, m, args, below, meth, cd⟩ := X
  intro hrow hfr H locs ls hz hP hS hl
  exact lv_aload_n hX.1 hX.2.1 hd rfl (hl.2.2 (2, _) (et_L_mem.mpr rfl)) (kk hrow hfr H locs ls hz hP hS hl)
theorem kz_iconst {i : Int} {v : Int32} (hX : et_Gd X w b own nL ret tb rm) (hd : decode b pc = .ok (.iconst i, 1)) (hv : Int32.ofInt i = v) (kk : et_KV X w cl sl Q (pc + 1) lv (.int v :: st) c n) : et_KV X w cl sl Q pc lv st c n := by
  obtain ⟨p, l, e, R, s, m, args, below, meth, cd⟩ := X
  intro hrow hfr H locs ls hz hP hS hl
  exact lv_iconst hX.1 hX.2.1 hd hv (kk hrow hfr H locs ls hz hP hS hl)
theorem kz_bipush {i : Int} {v : Int32} (hX : et_Gd X w b own nL ret tb rm) (hd : decode b pc = .ok (.bipush i, 2)) (hv : (Int8.ofInt i).toInt32 = v) (kk : et_KV X w cl sl Q (pc + 2) lv (.int v :: st) c n) : et_KV X w cl sl Q pc lv st c n := by
  obtain ⟨p, l, e, R, s, m, args, below, meth, cd⟩ := X
  intro hrow hfr H locs ls hz hP hS hl
  exact lv_bipush hX.1 hX.2.1 hd hv (kk hrow hfr H locs ls hz hP hS hl)
theorem kz_sipush {i : Int} {v : Int32} (hX : et_Gd X w b own nL ret tb rm) (hd : decode b pc = .ok (.sipush i, 3)) (hv : (Int16.ofInt i).toInt32 = v) (kk : et_KV X w cl sl Q (pc + 3) lv (.int v :: st) c n) : et_KV X w cl sl Q pc lv st c n := by
  obtain ⟨p, l, e, R, s, m, args, below, meth, cd⟩ := X
  intro hrow hfr H locs ls hz hP hS hl
  exact lv_sipush hX.1 hX.2.1 hd hv (kk hrow hfr H locs ls hz hP hS hl)
theorem kz_dup {va : Value} (hX : et_Gd X w b own nL ret tb rm) (hd : decode b pc = .ok (.dup, 1)) (hc : va.category = 1) (kk : et_KV X w cl sl Q (pc + 1) lv (va :: va :: st) c n) : et_KV X w cl sl Q pc lv (va :: st) c n := by
  obtain ⟨p, l, e, R, s, m, args, below, meth, cd⟩ := X
  intro hrow hfr H locs ls hz hP hS hl
  exact lv_dup hX.1 hX.2.1 hd hc (kk hrow hfr H locs ls hz hP hS hl)
theorem tc_obj : Cond.instanceMethod Lib.objectInit ∈ et_tb ∧ Cond.code Lib.objectInit ⟨#[0xb1]⟩ 1 none ∈ et_tb := ⟨et_mt 142 (by decide +kernel) rfl, et_mt 143 (by decide +kernel) rfl⟩
theorem kz_obj {a : Nat} (hX : et_Gd X w b own nL ret tb rm) (hd : decode b pc = .ok (.invokespecial idx, 3)) (hl0 : Cond.methodLink own idx Lib.objectInit ∈ et_tb) (hr1 : Nat.ble 1 rm.frames = true) (hr2 : Nat.ble ((st.map fun v => v.category).sum + 12) rm.locals = true) (kk : et_KV X w cl sl Q (pc + 3) lv st c n) : et_KV X w cl sl Q pc lv (.ref a :: st) c n := by
  obtain ⟨p, l, e, R, s, m, args, below, meth, cd⟩ := X
  intro hrow hfr H locs ls hz hP hS hl
  obtain ⟨hx, hb, hml, hown, hts, hr, hlocks, hsane, hU, htb, hlt, rfl⟩ := hX
  exact W.objInit hx hb hown (hts _ hl0) (hts _ tc_obj.1) (hts _ tc_obj.2) rfl hl.1 rfl hd (Nat.le_of_ble_eq_true hr1) (by simpa using Nat.le_of_ble_eq_true hr2) (kk hrow hfr H locs ls hz hP hS hl)
theorem kz_new {N : Nat} {tyf : Nat → FieldType} (hX : et_Gd X w b own nL ret tb rm) (hd : decode b pc = .ok (.new idx, 3)) (C : String) (T : u_T) (h1 : vwCl[ci]? = some (C, T, N)) (h2 : ∀ q ∈ u_ws C T N, q ∈ et_tb) (h3 : ∀ k, k < N → parseFieldDescriptor (T k).2.2.1 = some (tyf k)) (h4 : Cond.classLink own idx C ∈ et_tb) (h5 : Cond.instantiable C N ∈ et_tb) (h6 : Cond.initialized C ∈ et_tb)
    (hk : et_lay[n]? = some (.inr (ci, ks))) (hdf : ∀ j, j < N → defaultValue (tyf j) = vp_V (ks.map (fun q => match q with | 0 => Value.int 0 | 1 => Value.long 0 | _ => Value.null)) j) (hr1 : Nat.ble (cl + 1) rm.cells = true) (hr2 : Nat.ble (sl + N) rm.slots = true)
    (kk : et_KV X w (cl + 1) (sl + N) Q (pc + 3) lv (.ref (et_ad w n) :: st) c (n + 1)) : et_KV X w cl sl Q pc lv st c n := by
  obtain ⟨p, l, e, R, s, m, args, below, meth, cd⟩ := X
  intro hrow hfr H locs ls hz hP hS hl
  obtain ⟨hx, hb, hml, hown, hts, hr, hlocks, hsane, hU, htb, hlt, rfl⟩ := hX
  have hKn := (et_Kof hsane hU).1 ci _ h1
  have hnl : n < et_lay.length := (List.getElem?_eq_some_iff.mp hk).1
  have had : et_ad w n = H.size := by rw [hrow n hnl, hz]
  refine W.newcK hx hb hown (hts _ h4) (hts _ h5) (hts _ h6) rfl hd (Nat.le_of_ble_eq_true hr1) (Nat.le_of_ble_eq_true hr2) hKn.2.1 rfl fun H1 kC hkC e1 z1 o1 => ?_
  have hkp : ∀ (k : Nat) (x : Nat × va_E), (et_pw w c n)[k]? = some x → H1[x.1]? = H[x.1]? := fun k x hx => o1 x.1 ((hP k x hx).lt)
  have hA : w.1.heap.size ≤ s.heap.size := hU.2.1
  have hpe : et_pe w c n (.inr (ci, ks)) = .inr (ci, ks.map (fun q => match q with | 0 => Value.int 0 | 1 => Value.long 0 | _ => Value.null)) := by
    have hc0 : c n = fun _ => 0 := hfr n (Nat.le_refl n)
    show (Sum.inr (ci, ks.mapIdx (fun j q => et_pf w c n q j)) : va_E) = _
    congr 2
    apply List.ext_getElem?
    intro i
    rw [List.getElem?_mapIdx, List.getElem?_map]
    cases ks[i]? with
    | none => rfl
    | some q => match q with
      | 0 => simp [et_pf, hc0]
      | 1 => rfl
      | r + 2 => simp [et_pf, hc0]
  have hP1 : va_P w.2.1 vwCl (et_pw w c (n + 1)) H1 := by
    rw [et_ppush hk, hpe]
    refine (hP.kept hkp).app (fun k x hx => ?_)
    have hz1 : k < 1 := (List.getElem?_eq_some_iff.mp hx).1
    rw [show k = 0 by omega] at hx
    cases hx
    rw [had]
    exact ⟨_, h1, (u_born tyf hts h2 hKn hkC e1 h3).to hdf⟩
  have hfin := kk hrow (fun k hk9 => hfr k (by omega)) H1 locs ls (by rw [z1, hz]; omega) hP1 ⟨Nat.le_trans hS.1 (by omega), fun x h1 h2 => (o1 x (Nat.lt_of_lt_of_le h1 hS.1)).trans (hS.2.1 x h1 h2), hS.2.2⟩ hl
  rw [had] at hfin
  exact hfin
theorem kz_newa {at0 : ArrayType} {N t0 : Nat} {v : Int32} {t : FieldType} (hX : et_Gd X w b own nL ret tb rm) (hd : decode b pc = .ok (.newarray at0, 2)) (hty : newarray.typeOf at0 = t) (hac : Cond.arrayClass t ∈ et_tb) (hk : et_lay[n]? = some (.inl (t, N))) (ht : (et_tys w)[t0]? = some (et_ca w t, t)) (hcell : ∀ cA : ClassId, vp_cell cA (N, et_z0a t) = arrV cA N (fun _ => defaultValue t)) (hn : ¬ v < 0) (hN : v.toNatClampNeg = N) (hby : N * componentBytes t ≤ 536870912) (hr1 : Nat.ble (cl + 1) rm.cells = true) (hr2 : Nat.ble (sl + N) rm.slots = true)
    (kk : et_KV X w (cl + 1) (sl + N) Q (pc + 2) lv (.ref (et_ad w n) :: st) c (n + 1)) : et_KV X w cl sl Q pc lv (.int v :: st) c n := by
  obtain ⟨p, l, e, R, s, m, args, below, meth, cd⟩ := X
  intro hrow hfr H locs ls hz hP hS hl
  obtain ⟨hx, hb, hml, hown, hts, hr, hlocks, hsane, hU, htb, hlt, rfl⟩ := hX
  have hnl : n < et_lay.length := (List.getElem?_eq_some_iff.mp hk).1
  have had : et_ad w n = H.size := by rw [hrow n hnl, hz]
  subst hty
  refine va_newaK hx hb (hts _ hac) rfl hd rfl hn hN hby (Nat.le_of_ble_eq_true hr1) (Nat.le_of_ble_eq_true hr2) rfl fun H1 cA e1 z1 o1 hAr hNm => ?_
  have hkp : ∀ (k : Nat) (x : Nat × va_E), (et_pw w c n)[k]? = some x → H1[x.1]? = H[x.1]? := fun k x hx => o1 x.1 ((hP k x hx).lt)
  have hcA : cA = et_ca w (newarray.typeOf at0) := by
    have h2 := ((et_Kof hsane hU).2 t0 _ ht).2
    have h3 : s.vm.findClass ("[" ++ (newarray.typeOf at0).toString) = some (et_ca w (newarray.typeOf at0)) := by cases at0 <;> exact h2
    exact Option.some.inj (hNm.symm.trans h3)
  subst hcA
  have hc0 : c n = fun _ => 0 := hfr n (Nat.le_refl n)
  have hpe : et_pe w c n (.inl (newarray.typeOf at0, N)) = .inl (et_ca w (newarray.typeOf at0), N, et_z0a (newarray.typeOf at0)) := by
    cases at0 <;> simp [et_pe, newarray.typeOf, hc0, et_z0a]
  have hP1 : va_P w.2.1 vwCl (et_pw w c (n + 1)) H1 := by
    rw [et_ppush hk, hpe]
    refine (hP.kept hkp).app (fun k x hx => ?_)
    have hz1 : k < 1 := (List.getElem?_eq_some_iff.mp hx).1
    rw [show k = 0 by omega] at hx
    cases hx
    rw [had]
    show H1[H.size]? = some (vp_cell (et_ca w (newarray.typeOf at0)) (N, et_z0a (newarray.typeOf at0)))
    rw [hcell]
    exact e1
  have hfin := kk hrow (fun k hk9 => hfr k (by omega)) H1 locs ls (by rw [z1, hz]; omega) hP1 ⟨Nat.le_trans hS.1 (by omega), fun x h1 h2 => (o1 x (Nat.lt_of_lt_of_le h1 hS.1)).trans (hS.2.1 x h1 h2), hS.2.2⟩ hl
  rw [had] at hfin
  exact hfin
def et_In (X : et_X) : Prop := match X with
  | (p, l, e, R, s, m, args, below, meth, cd) => meth.name = "<init>"
def et_FF (own : String) (idx ci j : Nat) (ty : FieldType) : Prop := ∃ (T : u_T) (N : Nat) (ty0 : Nat → FieldType), vwCl[ci]? = some (own, T, N) ∧ j < N ∧ (∀ q ∈ u_ws own T N, q ∈ et_tb) ∧ Cond.fieldLink own idx (T j).1 (T j).2.1 (T j).2.2.1 ∈ et_tb ∧ (∀ k, k < N → parseFieldDescriptor (T k).2.2.1 = some (ty0 k)) ∧ (∀ a, a < N → ∀ b, b < N → a ≠ b → (T a).2.1 ≠ (T b).2.1) ∧ (T j).2.2.2 = true ∧ ty0 j = ty ∧ (T j).1 = own
theorem kz_putr {q : Nat} (hX : et_Gd X w b own nL ret tb rm) (hnm : et_In X) (hd : decode b pc = .ok (.putfield idx, 3)) (hf : et_FF own idx ci j ty) (hk : et_lay[k]? = some (.inr (ci, ks))) (hkn : Nat.blt k n = true) (hj : ks[j]? = some (q + 2)) (hlen5 : Nat.ble ks.length 500 = true) (hn : narrow ty (.ref (et_ad w q)) = .ref (et_ad w q)) (hfit : fits ty (.ref (et_ad w q)) = true)
    (kk : et_KV X w cl sl Q (pc + 3) lv st (et_ps c k (500 + j) 1) n) : et_KV X w cl sl Q pc lv (.ref (et_ad w q) :: .ref (et_ad w k) :: st) c n := by
  obtain ⟨p, l, e, R, s, m, args, below, meth, cd⟩ := X
  intro hrow hfr H locs ls hz hP hS hl
  obtain ⟨hx, hb, hml, hown, hts, hr, hlocks, hsane, hU, htb, hlt, rfl⟩ := hX
  obtain ⟨T, N, ty0, f1, f2, f3, f4, f5, f6, f7, f8, f9⟩ := hf
  have hkn := Nat.le_of_ble_eq_true hkn
  have hlt5 : j < ks.length := (List.getElem?_eq_some_iff.mp hj).1
  have he0 : (et_pw w c n)[k]? = some (et_ad w k, .inr (ci, ks.mapIdx (fun j q => et_pf w c k q j))) := et_pat hk hkn
  have he := et_pset (w := w) (c := c) (j := 500 + j) (x := 1) hk hkn
  have h2 : et_pe w (et_ps c k (500 + j) 1) k (.inr (ci, ks)) = .inr (ci, ks.mapIdx (fun j2 q => et_pf w (et_ps c k (500 + j) 1) k q j2)) := rfl
  rw [h2] at he
  have hlen : j < (ks.mapIdx (fun j q => et_pf w c k q j)).length := by rw [List.length_mapIdx]; exact hlt5
  have hpd : parseFieldDescriptor (T j).2.2.1 = some ty := by rw [f5 j f2, f8]
  refine et_put (fs := ks.mapIdx (fun j q => et_pf w c k q j)) (ci := ci) (C := own) (T := T) (N := N) hx hb hts f3 ty0 f5 f6 hown (et_Kof hsane hU) hP (et_pD hsane c n) hS k he0 f1 j f2 (hts _ f4) (Or.inr ⟨f7, hnm, f9⟩) hpd hn hfit hlen hd (fun H1 locs1 hsz hP1 hS1 => ?_)
  rw [et_pfs_r hj (Nat.le_of_ble_eq_true hlen5), he] at hP1
  exact kk hrow (et_fr_ps hfr hkn) H1 locs1 ls (by rw [hsz]; exact hz) hP1 hS1 hl
theorem kz_puti {x : Int32} (hX : et_Gd X w b own nL ret tb rm) (hd : decode b pc = .ok (.putfield idx, 3)) (hf : et_FL own idx ci j .int false) (hk : et_lay[k]? = some (.inr (ci, ks))) (hkn : Nat.blt k n = true) (hj : ks[j]? = some 0) (hlen5 : Nat.ble ks.length 500 = true)
    (kk : et_KV X w cl sl Q (pc + 3) lv st (et_ps c k j x) n) : et_KV X w cl sl Q pc lv (.int x :: .ref (et_ad w k) :: st) c n := by
  obtain ⟨p, l, e, R, s, m, args, below, meth, cd⟩ := X
  intro hrow hfr H locs ls hz hP hS hl
  obtain ⟨hx, hb, hml, hown, hts, hr, hlocks, hsane, hU, htb, hlt, rfl⟩ := hX
  obtain ⟨C, T, N, ty0, f1, f2, f3, f4, f5, f6, f7, f8⟩ := hf
  have hkn := Nat.le_of_ble_eq_true hkn
  have hlt5 : j < ks.length := (List.getElem?_eq_some_iff.mp hj).1
  have he0 : (et_pw w c n)[k]? = some (et_ad w k, .inr (ci, ks.mapIdx (fun j q => et_pf w c k q j))) := et_pat hk hkn
  have he := et_pset (w := w) (c := c) (j := j) (x := x) hk hkn
  have h2 : et_pe w (et_ps c k j x) k (.inr (ci, ks)) = .inr (ci, ks.mapIdx (fun j2 q => et_pf w (et_ps c k j x) k q j2)) := rfl
  rw [h2] at he
  have hlen : j < (ks.mapIdx (fun j q => et_pf w c k q j)).length := by rw [List.length_mapIdx]; exact hlt5
  have hpd : parseFieldDescriptor (T j).2.2.1 = some .int := by rw [f5 j f2, f8]
  refine et_put (fs := ks.mapIdx (fun j q => et_pf w c k q j)) (ci := ci) (C := C) (T := T) (N := N) hx hb hts f3 ty0 f5 f6 hown (et_Kof hsane hU) hP (et_pD hsane c n) hS k he0 f1 j f2 (hts _ f4) (Or.inl f7) hpd rfl rfl hlen hd (fun H1 locs1 hsz hP1 hS1 => ?_)
  rw [et_pfs_i hj (Nat.le_of_ble_eq_true hlen5), he] at hP1
  exact kk hrow (et_fr_ps hfr hkn) H1 locs1 ls (by rw [hsz]; exact hz) hP1 hS1 hl
theorem kz_getr {q : Nat} {fin : Bool} (hX : et_Gd X w b own nL ret tb rm) (hd : decode b pc = .ok (.getfield idx, 3)) (hf : et_FL own idx ci j ty fin) (hk : et_lay[k]? = some (.inr (ci, ks))) (hkn : Nat.blt k n = true) (hj : ks[j]? = some (q + 2)) (hfl : c k (500 + j) = 1)
    (kk : et_KV X w cl sl Q (pc + 3) lv (.ref (et_ad w q) :: st) c n) : et_KV X w cl sl Q pc lv (.ref (et_ad w k) :: st) c n := by
  obtain ⟨p, l, e, R, s, m, args, below, meth, cd⟩ := X
  intro hrow hfr H locs ls hz hP hS hl
  obtain ⟨hx, hb, hml, hown, hts, hr, hlocks, hsane, hU, htb, hlt, rfl⟩ := hX
  obtain ⟨C, T, N, ty0, f1, f2, f3, f4, f5, f6, f7, f8⟩ := hf
  have hkn := Nat.le_of_ble_eq_true hkn
  have he0 : (et_pw w c n)[k]? = some (et_ad w k, .inr (ci, ks.mapIdx (fun j q => et_pf w c k q j))) := et_pat hk hkn
  have hv : (ks.mapIdx (fun j q => et_pf w c k q j))[j]? = some (.ref (et_ad w q)) := by rw [List.getElem?_mapIdx, hj]; simp [et_pf, hfl]
  exact va_get hx hb hts f3 hown (et_Kof hsane hU) hP k he0 f1 j f2 (hts _ f4) (fun _ h => h) hv hd (kk hrow hfr H locs ls hz hP hS hl)
theorem kz_iast {i x : Int32} {N : Nat} (hX : et_Gd X w b own nL ret tb rm) (hd : decode b pc = .ok (.iastore, 1)) (hk : et_lay[k]? = some (.inl (.int, N))) (hkn : Nat.blt k n = true) (hi : et_ib i N = true)
    (kk : et_KV X w cl sl Q (pc + 1) lv st (et_ps c k i.toNatClampNeg x) n) : et_KV X w cl sl Q pc lv (.int x :: .int i :: .ref (et_ad w k) :: st) c n := by
  obtain ⟨p, l, e, R, s, m, args, below, meth, cd⟩ := X
  intro hrow hfr H locs ls hz hP hS hl
  obtain ⟨hx, hb, hml, hown, hts, hr, hlocks, hsane, hU, htb, hlt, rfl⟩ := hX
  have hkn := Nat.le_of_ble_eq_true hkn
  have hin := et_ib_in hi
  have he0 : (et_pw w c n)[k]? = some (et_ad w k, .inl (et_ca w .int, N, .inl (c k))) := et_pat hk hkn
  have hD := et_pD hsane c n
  have he := et_pset (w := w) (c := c) (j := i.toNatClampNeg) (x := x) hk hkn
  have h2 : et_pe w (et_ps c k i.toNatClampNeg x) k (.inl (.int, N)) = .inl (et_ca w .int, N, .inl (upd (c k) i.toNatClampNeg x)) := by simp [et_pe, et_pps_eq]
  rw [h2] at he
  refine W.iast hx hb (hP k _ he0) (((et_Kof hsane hU).2 0 _ (et_t0 w)).1 N (fun j => .int (c k j))) (fun q => by cases q) (by show ¬ (i < 0 ∨ (arrV _ _ _).slots.size ≤ _); rw [arrV_size]; exact hin) rfl rfl hd fun H1 e1 z1 oq => ?_
  have hP1 : va_P w.2.1 vwCl ((et_pw w c n).set k (et_ad w k, .inl (et_ca w .int, N, .inl (upd (c k) i.toNatClampNeg x)))) H1 := by
    refine hP.set hD he0 ?_ oq
    show H1[et_ad w k]? = some (vp_cell _ _)
    rw [e1]
    rw [vp_cell_i, vp_cell_i, arrV_store]
    congr 2
    funext q
    by_cases hq : q = i.toNatClampNeg
    · subst hq
      simp [updV, upd]
    · simp [updV, upd, hq]
  rw [he] at hP1
  exact kk hrow (et_fr_ps hfr hkn) H1 _ ls (by rw [z1]; exact hz) hP1 (hS.put z1 oq (hD.2 k _ he0)) hl
def et_KB (w : et_W) (c : et_P) (n : Nat) : Unit → State → Prop := fun _ t => t.heap.size = w.1.heap.size + n ∧ va_P w.2.1 vwCl (et_pw w c n) t.heap
def et_KQ (X : et_X) (w : et_W) (c : et_P) (n : Nat) : State → Prop := match X with
  | (p, l, e, R, s, m, args, below, meth, cd) => MQ below (va_Qv (fun _ : Unit => True) (et_KB w c n) (et_A w)) args s R.cells R.slots (et_A w)
theorem kz_ret (hX : et_Gd X w b own nL none tb rm) (hd : decode b pc = .ok (.return_, 1)) (hr1 : Nat.ble cl rm.cells = true) (hr2 : Nat.ble sl rm.slots = true) : et_KV X w cl sl (et_KQ X w c n) pc lv [] c n := by
  obtain ⟨p, l, e, R, s, m, args, below, meth, cd⟩ := X
  intro hrow hfr H locs ls hz hP hS hl
  obtain ⟨hx, hb, hml, hown, hts, hr, hlocks, hsane, hU, htb, hlt, rfl⟩ := hX
  exact W.widen (k := R.cells) (n := R.slots) (Nat.le_of_ble_eq_true hr1) (Nat.le_of_ble_eq_true hr2) (W.vret hx hb hr (fun t ht hW => ⟨⟨(), rfl, trivial, by rw [ht]; exact hz, by rw [ht]; exact hP⟩, hS.F ht⟩) hS.2.2 hd hlocks)
/-- a constructor's contract -/
def et_KC (w : et_W) (y : MethodName) (c0 : Cond) (rm : Room) (avs : List Value) (c : et_P) (n : Nat) (c2 : et_P) (n2 : Nat) : Prop :=
  (et_fr c n → et_fr c2 n2) ∧ ∀ (l : Launch), l.stackTraces = false → et_Row w → et_fr c n → Met l y [c0] rm (va_Pc avs (fun U => et_U w U ∧ U.heap.size = w.1.heap.size + n ∧ va_P w.2.1 vwCl (et_pw w c n) U.heap)) (va_Qv (fun _ : Unit => True) (et_KB w c2 n2) (et_A w)) rm.cells rm.slots (et_A w)
theorem et_kmk {y : MethodName} {avs : List Value} {lv0 : List (Option Value)} {c2 : et_P} {n2 : Nat} (hw : et_Sane w) (hy : plainName y.cls = true) (hyn : y.name = "<init>") (hn : Nat.ble (lg_sl avs).length nL = true) (hlv : et_L lv0 = lv_args 0 avs) (hf2 : et_fr c n → et_fr c2 n2)
    (body : ∀ X : et_X, et_Gd X w b y.cls nL none [] rm → et_In X → et_KV X w 0 0 (et_KQ X w c2 n2) 0 lv0 [] c n) : et_KC w y (Cond.code y b nL none) rm avs c n c2 n2 := by
  refine ⟨hf2, fun l hl hrow hfr => ?_⟩
  refine Met.ofW (cc := b) (maxL := nL) (ret := none) (ws' := []) hy rfl ?_
  intro p e s m args below meth cd s₁ B hml hv
  obtain ⟨rfl, hU, hz, hP⟩ := hv
  have hlk := B.notSynchronized
  have hemp := BodyLoose.noHandlers B (atoms_spec (ws := [Cond.code y b nL none]) B.pre _ List.mem_cons_self)
  have htb : cd.exceptionTable.toList = [] := by rw [Array.isEmpty_iff.mp hemp]
  have hgd : et_Gd (p, l, e, rm, s, m, avs.toArray, below, meth, cd) w b y.cls nL none [] rm :=
    ⟨B.exec, B.bytes, hml, findClass_of_methodNamed B.named, et_words hw hU _, B.returns, hlk, hw, hU, htb, hl, rfl⟩
  have hin : et_In (p, l, e, rm, s, m, avs.toArray, below, meth, cd) := by
    show meth.name = "<init>"
    rw [← hyn]
    exact (name_of_methodNamed B.named B.method).1
  have h0 := lv_entry avs (n := nL) (Nat.le_of_ble_eq_true hn)
  rw [lg_entry_eq]
  rw [← hlv] at h0
  exact body _ hgd hin hrow hfr s.heap [] _ hz hP va_S.rf (by rw [hml]; exact h0)
def et_kr (R rm1 : Room) (nL1 cl sl : Nat) : Bool := Nat.ble (rm1.frames + 1) R.frames && (Nat.ble (8 + (nL1 + 11) + rm1.locals) R.locals && (Nat.ble (cl + rm1.cells) R.cells && Nat.ble (sl + rm1.slots) R.slots))
theorem et_kr_ok {R rm1 : Room} {nL1 cl sl : Nat} (h : et_kr R rm1 nL1 cl sl = true) : (rm1.frames + 1 ≤ R.frames ∧ 8 + (nL1 + 11) + rm1.locals ≤ R.locals) ∧ cl + rm1.cells ≤ R.cells ∧ sl + rm1.slots ≤ R.slots := by
  simp only [et_kr, Bool.and_eq_true] at h
  obtain ⟨h1, h2, h3, h4⟩ := h
  exact ⟨⟨Nat.le_of_ble_eq_true h1, Nat.le_of_ble_eq_true h2⟩, Nat.le_of_ble_eq_true h3, Nat.le_of_ble_eq_true h4⟩
theorem et_kpre {s : State} {H : Heap} {locs : List Loc} {avs : List Value} (hU : et_U w s) (hS : va_S (et_A w) s.heap H locs) (hz : H.size = w.1.heap.size + n) (hP : va_P w.2.1 vwCl (et_pw w c n) H) : PreS s H (va_Pc avs (fun U => et_U w U ∧ U.heap.size = w.1.heap.size + n ∧ va_P w.2.1 vwCl (et_pw w c n) U.heap)) avs :=
  ⟨fun a U g mk h => h, fun U hH hW => ⟨rfl, hU.next hS hH hW, by rw [hH]; exact hz, by rw [hH]; exact hP⟩⟩
theorem kz_call {y : MethodName} {b1 : ByteArray} {nL1 na a : Nat} {rm1 : Room} {As : List Value} {c2 : et_P} {n2 : Nat} (hX : et_Gd X w b own nL ret tb rm) (hd : decode b pc = .ok (.invokespecial idx, 3)) (hyn : y.name = "<init>") (hl0 : Cond.methodLink own idx y ∈ et_tb) (hm : et_MD y b1 nL1 none na) (hi : Cond.instanceMethod y ∈ et_tb) (hC : et_KC w y (Cond.code y b1 nL1 none) rm1 (.ref a :: As) c n c2 n2) (hna : As.length = na) (hst : Nat.ble ((st.map fun v => v.category).sum) 8 = true) (hr : et_kr rm rm1 nL1 cl sl = true)
    (kk : et_KV X w (cl + rm1.cells) (sl + rm1.slots) Q (pc + 3) lv st c2 n2) : et_KV X w cl sl Q pc lv (As.reverse ++ .ref a :: st) c n := by
  obtain ⟨p, l, e, R, s, m, args, below, meth, cd⟩ := X
  intro hrow hfr H locs ls hz hP hS hl
  obtain ⟨hx, hb, hml, hown, hts, hr0, hlocks, hsane, hU, htb, hlt, rfl⟩ := hX
  obtain ⟨r1, r2, r3⟩ := et_kr_ok hr
  obtain ⟨m1, m2, m3, m4⟩ := hm
  have hM := hC.2 l hlt hrow hfr
  refine va_callv (va_runI (n := na) (nL := cd.maxLocals) (Ts := et_tb) (As := As) (rest := st) ⟨hx, hb, rfl, hown, hts⟩ hM ⟨⟨rfl, rfl, r1.1, r1.2, fun q hq a U hW => by rw [List.mem_singleton.mp hq]; exact word_at hW (Or.inl rfl) (hts _ m1), List.mem_cons_self, hts _ m1, hts _ m2, m3, m4, hts _ hl0⟩, hyn, hts _ hi⟩ (et_kpre hU hS hz hP) rfl hna hl.1 rfl (by simpa using Nat.le_of_ble_eq_true hst) hd ⟨r2, r3⟩) hS (fun _ _ h => h) (fun _ h => h) (fun u t H1 locs1 ht hvm _ hB hz1 hk1 hS1 => ?_)
  obtain ⟨hB1, hB2⟩ := hB
  rw [ht] at hB1 hB2
  exact kk hrow (hC.1 hfr) H1 locs1 ls hB1 hB2 hS1 hl
theorem kz_callN {y : MethodName} {b1 : ByteArray} {nL1 na a : Nat} {rm1 : Room} {As : List Value} {c2 : et_P} {n2 : Nat} {host : String} (hX : et_Gd X w b own nL ret tb rm) (hd : decode b pc = .ok (.invokespecial idx, 3)) (hyn : y.name = "<init>") (hl0 : Cond.methodLinkNest own idx y host ∈ lw_tbl) (hm : et_MD y b1 nL1 none na) (hi : Cond.instanceMethod y ∈ et_tb) (hC : et_KC w y (Cond.code y b1 nL1 none) rm1 (.ref a :: As) c n c2 n2) (hna : As.length = na) (hst : Nat.ble ((st.map fun v => v.category).sum) 8 = true) (hr : et_kr rm rm1 nL1 cl sl = true)
    (kk : et_KV X w (cl + rm1.cells) (sl + rm1.slots) Q (pc + 3) lv st c2 n2) : et_KV X w cl sl Q pc lv (As.reverse ++ .ref a :: st) c n := by
  obtain ⟨p, l, e, R, s, m, args, below, meth, cd⟩ := X
  intro hrow hfr H locs ls hz hP hS hl
  obtain ⟨hx, hb, hml, hown, hts, hr0, hlocks, hsane, hU, htb, hlt, rfl⟩ := hX
  obtain ⟨r1, r2, r3⟩ := et_kr_ok hr
  obtain ⟨m1, m2, m3, m4⟩ := hm
  obtain ⟨⟨a0, h0⟩, -⟩ := id hsane
  have hlink : (Cond.methodLinkNest own idx y host).before args s = true := va_Nw.use rfl (va_Nw.warmM hU.1 (va_Nw.of rfl (h0 _ hl0)))
  have hM := hC.2 l hlt hrow hfr
  refine va_callv (va_runIN (n := na) (nL := cd.maxLocals) (Ts := et_tb) (As := As) (rest := st) ⟨hx, hb, rfl, hown, hts⟩ hM ⟨⟨⟨rfl, rfl, r1.1, r1.2, fun q hq a U hW => by rw [List.mem_singleton.mp hq]; exact word_at hW (Or.inl rfl) (hts _ m1), List.mem_cons_self⟩, hts _ m1, hts _ m2, m3, m4, hlink⟩, hyn, hts _ hi⟩ (et_kpre hU hS hz hP) rfl hna hl.1 rfl (by simpa using Nat.le_of_ble_eq_true hst) hd ⟨r2, r3⟩) hS (fun _ _ h => h) (fun _ h => h) (fun u t H1 locs1 ht hvm _ hB hz1 hk1 hS1 => ?_)
  obtain ⟨hB1, hB2⟩ := hB
  rw [ht] at hB1 hB2
  exact kk hrow (hC.1 hfr) H1 locs1 ls hB1 hB2 hS1 hl
theorem et_fr_up {c : et_P} {n n2 : Nat} (h : et_fr c n) (hn : Nat.ble n n2 = true) : et_fr c n2 := fun k hk => h k (Nat.le_trans (Nat.le_of_ble_eq_true hn) hk)
theorem et_fr_p {c : et_P} {n k j : Nat} {x : Int32} (hk : Nat.blt k n = true) (h : et_fr c n) : et_fr (et_ps c k j x) n := et_fr_ps h (Nat.le_of_ble_eq_true hk)
end KZ
