/-! THE WORLD: one picture g of all cells' numbers; what a method does is a function of it -/
abbrev et_G : Type := (Nat → Nat → Int32) × (Nat → Nat → Int64)
/-- the state at the law's entry, the classes' numbers, the array classes, the cells' addresses -/
abbrev et_W : Type := State × va_G × (FieldType → ClassId) × (Nat → Nat)
def et_ad (w : et_W) (k : Nat) : Nat := w.2.2.2 k
def et_ca (w : et_W) (t : FieldType) : ClassId := w.2.2.1 t
def et_A (w : et_W) : Nat → Prop := fun q => w.1.heap.size ≤ q
def et_tys (w : et_W) : List (ClassId × FieldType) := [(et_ca w .int, .int), (et_ca w .byte, .byte), (et_ca w .boolean, .boolean), (et_ca w .long, .long)]
def et_fv (w : et_W) (g : et_G) (k q j : Nat) : Value := match q with
  | 0 => .int (g.1 k j)
  | 1 => .long (g.2 k j)
  | r + 2 => .ref (et_ad w r)
def et_ce (w : et_W) (g : et_G) (k : Nat) (sh : et_S) : va_E := match sh with
  | .inl (.long, n) => .inl (et_ca w .long, n, .inr (.inl (g.2 k)))
  | .inl (t, n) => .inl (et_ca w t, n, .inl (g.1 k))
  | .inr (ci, ks) => .inr (ci, ks.mapIdx (fun j q => et_fv w g k q j))
def et_ws (w : et_W) (g : et_G) : va_W := et_lay.mapIdx (fun k sh => (et_ad w k, et_ce w g k sh))
abbrev et_R (w : et_W) (g : et_G) (H : Heap) : Prop := va_P w.2.1 vwCl (et_ws w g) H
def et_si (g : et_G) (k j : Nat) (x : Int32) : et_G := (fun a => if a = k then upd (g.1 k) j x else g.1 a, g.2)
def et_sl (g : et_G) (k j : Nat) (x : Int64) : et_G := (g.1, fun a => if a = k then vp_updL (g.2 k) j x else g.2 a)
theorem et_at {w : et_W} {g : et_G} {k : Nat} {sh : et_S} (h : et_lay[k]? = some sh) : (et_ws w g)[k]? = some (et_ad w k, et_ce w g k sh) := by
  simp [et_ws, List.getElem?_mapIdx, h]
theorem et_set {w : et_W} {g g2 : et_G} {k : Nat} {sh : et_S} (h : et_lay[k]? = some sh) (hne : ∀ k2, k2 ≠ k → ∀ s2, et_ce w g2 k2 s2 = et_ce w g k2 s2) : (et_ws w g).set k (et_ad w k, et_ce w g2 k sh) = et_ws w g2 := by
  apply List.ext_getElem?
  intro i
  rw [List.getElem?_set]
  by_cases hi : k = i
  · subst hi
    have hlt : k < (et_ws w g).length := (List.getElem?_eq_some_iff.mp (et_at (w := w) (g := g) h)).1
    rw [if_pos rfl, if_pos hlt, et_at h]
  · rw [if_neg hi]
    simp only [et_ws, List.getElem?_mapIdx]
    cases et_lay[i]? with
    | none => rfl
    | some s2 => simp [hne i (fun e => hi e.symm) s2]
theorem et_si_ne {g : et_G} {k j k2 : Nat} {x : Int32} (h : k2 ≠ k) : (et_si g k j x).1 k2 = g.1 k2 := by simp [et_si, h]
theorem et_si_eq {g : et_G} {k j : Nat} {x : Int32} : (et_si g k j x).1 k = upd (g.1 k) j x := by simp [et_si]
theorem et_sl_ne {g : et_G} {k j k2 : Nat} {x : Int64} (h : k2 ≠ k) : (et_sl g k j x).2 k2 = g.2 k2 := by simp [et_sl, h]
theorem et_sl_eq {g : et_G} {k j : Nat} {x : Int64} : (et_sl g k j x).2 k = vp_updL (g.2 k) j x := by simp [et_sl]
theorem et_ce_si {w : et_W} {g : et_G} {k j : Nat} {x : Int32} : ∀ k2, k2 ≠ k → ∀ s2, et_ce w (et_si g k j x) k2 s2 = et_ce w g k2 s2 := by
  intro k2 h s2
  have h1 := et_si_ne (g := g) (j := j) (x := x) h
  have h2 : (et_si g k j x).2 = g.2 := rfl
  have h3 : ∀ q j', et_fv w (et_si g k j x) k2 q j' = et_fv w g k2 q j' := fun q j' => by
    match q with
    | 0 => simp [et_fv, h1]
    | 1 => simp [et_fv, h2]
    | r + 2 => rfl
  cases s2 with
  | inl a =>
    obtain ⟨t, n⟩ := a
    cases t <;> simp [et_ce, h1, h2]
  | inr a => simp [et_ce, h3]
theorem et_ce_sl {w : et_W} {g : et_G} {k j : Nat} {x : Int64} : ∀ k2, k2 ≠ k → ∀ s2, et_ce w (et_sl g k j x) k2 s2 = et_ce w g k2 s2 := by
  intro k2 h s2
  have h1 := et_sl_ne (g := g) (j := j) (x := x) h
  have h2 : (et_sl g k j x).1 = g.1 := rfl
  have h3 : ∀ q j', et_fv w (et_sl g k j x) k2 q j' = et_fv w g k2 q j' := fun q j' => by
    match q with
    | 0 => simp [et_fv, h2]
    | 1 => simp [et_fv, h1]
    | r + 2 => rfl
  cases s2 with
  | inl a =>
    obtain ⟨t, n⟩ := a
    cases t <;> simp [et_ce, h1, h2]
  | inr a => simp [et_ce, h3]
/-- a field's number set: the object's cells -/
theorem et_fs_si {w : et_W} {g : et_G} {k j : Nat} {x : Int32} {ks : List Nat} (h : ks[j]? = some 0) : (ks.mapIdx (fun j q => et_fv w g k q j)).set j (.int x) = ks.mapIdx (fun j2 q => et_fv w (et_si g k j x) k q j2) := by
  apply List.ext_getElem?
  intro i
  rw [List.getElem?_set]
  by_cases hi : j = i
  · subst hi
    have hlt : j < ks.length := (List.getElem?_eq_some_iff.mp h).1
    rw [if_pos rfl, if_pos (by simpa using hlt), List.getElem?_mapIdx, h]
    simp [et_fv, et_si_eq, upd]
  · rw [if_neg hi, List.getElem?_mapIdx, List.getElem?_mapIdx]
    cases ks[i]? with
    | none => rfl
    | some q => match q with
      | 0 => simp [et_fv, et_si_eq, upd, Ne.symm hi]
      | 1 => rfl
      | r + 2 => rfl
theorem et_fs_sl {w : et_W} {g : et_G} {k j : Nat} {x : Int64} {ks : List Nat} (h : ks[j]? = some 1) : (ks.mapIdx (fun j q => et_fv w g k q j)).set j (.long x) = ks.mapIdx (fun j2 q => et_fv w (et_sl g k j x) k q j2) := by
  apply List.ext_getElem?
  intro i
  rw [List.getElem?_set]
  by_cases hi : j = i
  · subst hi
    have hlt : j < ks.length := (List.getElem?_eq_some_iff.mp h).1
    rw [if_pos rfl, if_pos (by simpa using hlt), List.getElem?_mapIdx, h]
    simp [et_fv, et_sl_eq, vp_updL]
  · rw [if_neg hi, List.getElem?_mapIdx, List.getElem?_mapIdx]
    cases ks[i]? with
    | none => rfl
    | some q => match q with
      | 0 => rfl
      | 1 => simp [et_fv, et_sl_eq, vp_updL, Ne.symm hi]
      | r + 2 => rfl
theorem et_fs_at {w : et_W} {g : et_G} {k j q : Nat} {ks : List Nat} (h : ks[j]? = some q) : (ks.mapIdx (fun j q => et_fv w g k q j))[j]? = some (et_fv w g k q j) := by simp [List.getElem?_mapIdx, h]
/-! the strings of the reader -/
def et_txt : List String := ["stem", "ending", "change", "not", "places", "near", "person", "thing", "rule", "at", "weigh", "loud", "never"]
def et_six : List Nat := [90, 104, 109, 114, 119, 124, 129, 134, 139, 144, 148, 230, 234]
def et_sln : List Nat := [4, 6, 6, 3, 6, 4, 6, 5, 4, 2, 5, 4, 5]
def et_sby : List (List Int32) := [[115, 116, 101, 109], [101, 110, 100, 105, 110, 103], [99, 104, 97, 110, 103, 101], [110, 111, 116], [112, 108, 97, 99, 101, 115], [110, 101, 97, 114], [112, 101, 114, 115, 111, 110], [116, 104, 105, 110, 103], [114, 117, 108, 101], [97, 116], [119, 101, 105, 103, 104], [108, 111, 117, 100], [110, 101, 118, 101, 114]]
/-- what holds of the world all along: the tables, the cells apart and new, the two statics that an exception reads -/
def et_gw (q : Cond) : Bool := goodWord q || (q.onTables && q.keepsFace)
def et_tb : List Cond := lw_tbl.filter et_gw
theorem et_mt {q : Cond} (i : Nat) (h : lw_tbl[i]? = some q) (hg : et_gw q = true) : q ∈ et_tb := List.mem_filter.mpr ⟨List.mem_of_getElem? h, hg⟩
def et_Strs (w : et_W) : Prop := vk_S 13 et_sln et_sby (fun i => et_ad w (1000 + i)) (fun i => et_ad w (2000 + i)) (et_A w) w.1 w.1.heap ∧ (∀ i, i < 13 → vk_R "EndingTown$Reader" (et_six.getD i 0) (et_txt.getD i "") (et_ad w (1000 + i)) w.1) ∧ va_Z "java/lang/String" "COMPACT_STRINGS" "Z" (.int 1) (et_A w) w.1 w.1.heap ∧ va_Zq "jdk/internal/util/Preconditions" "SIOOBE_FORMATTER" "Ljava/util/function/BiFunction;" (et_A w) w.1 w.1.heap ∧ va_Nc "java/lang/IllegalArgumentException" "java/util/NoSuchElementException" w.1
def et_Sane (w : et_W) : Prop := (∃ a0 : Array Value, ∀ q ∈ lw_tbl, q.before a0 w.1 = true) ∧ va_K w.2.1 vwCl (et_tys w) w.1 ∧ (∀ i j, i < et_lay.length → j < et_lay.length → et_ad w i = et_ad w j → i = j) ∧ (∀ i, i < et_lay.length → w.1.heap.size ≤ et_ad w i) ∧
  vx_Zq Bundle.tN "UNASSIGNED_STACK" Bundle.steD (et_A w) w.1 w.1.heap ∧ vx_Zq Bundle.tN "SUPPRESSED_SENTINEL" Bundle.listD (et_A w) w.1 w.1.heap ∧ et_Strs w
/-- a state of this run: the cells that were there at the law's entry are as they were -/
def et_U (w : et_W) (U : State) : Prop := w.1.WarmedH U.vm ∧ w.1.heap.size ≤ U.heap.size ∧ ∀ q : Nat, q < w.1.heap.size → U.heap[q]? = w.1.heap[q]?
theorem et_D {w : et_W} (h : et_Sane w) (g : et_G) : va_D (et_A w) (et_ws w g) := by
  have key : ∀ (i : Nat) (p : Nat × va_E), (et_ws w g)[i]? = some p → i < et_lay.length ∧ p.1 = et_ad w i := by
    intro i p hp
    simp only [et_ws, List.getElem?_mapIdx] at hp
    cases hq : et_lay[i]? with
    | none => rw [hq] at hp; cases hp
    | some sh =>
      rw [hq] at hp
      simp at hp
      exact ⟨(List.getElem?_eq_some_iff.mp hq).1, by rw [← hp]⟩
  refine ⟨fun i j p q hp hq e => ?_, fun k q hq => ?_⟩
  · obtain ⟨a1, a2⟩ := key i p hp
    obtain ⟨b1, b2⟩ := key j q hq
    exact h.2.2.1 i j a1 b1 (by rw [← a2, ← b2]; exact e)
  · obtain ⟨a1, a2⟩ := key k q hq
    show w.1.heap.size ≤ q.1
    rw [a2]
    exact h.2.2.2.1 k a1
theorem et_Kof {w : et_W} {U : State} (h : et_Sane w) (hU : et_U w U) : va_K w.2.1 vwCl (et_tys w) U := h.2.1.moved hU.1.alike
theorem et_U.next {w : et_W} {s U : State} {H : Heap} {locs : List Loc} (h : et_U w s) (hS : va_S (et_A w) s.heap H locs) (hH : U.heap = H) (hvm : s.WarmedH U.vm) : et_U w U := by
  refine ⟨State.WarmedH.trans h.1 hvm, by rw [hH]; exact Nat.le_trans h.2.1 hS.1, fun q hq => ?_⟩
  rw [hH, hS.2.1 q (Nat.lt_of_lt_of_le hq h.2.1) (fun z => Nat.not_le.mpr hq z)]
  exact h.2.2 q hq
theorem et_U.zq {w : et_W} {U : State} {n d : String} (h : vx_Zq Bundle.tN n d (et_A w) w.1 w.1.heap) (hU : et_U w U) : vx_Zq Bundle.tN n d (et_A w) U U.heap :=
  vx_Zq.moved hU.1.alike (vx_Zq.kept h (fun a h1 h2 => hU.2.2 a h1))
/-- locals: by their places -/
def et_L (lv : List (Option Value)) : List (Nat × Value) := lv.zipIdx.filterMap (fun q => q.1.map (fun v => (q.2, v)))
theorem et_L_mem {lv : List (Option Value)} {i : Nat} {v : Value} : (i, v) ∈ et_L lv ↔ lv[i]? = some (some v) := by
  simp only [et_L, List.mem_filterMap, Prod.exists, Option.map_eq_some_iff]
  constructor
  · rintro ⟨a, b, hm, v2, rfl, he⟩
    cases he
    exact List.mem_zipIdx_iff_getElem?.mp hm
  · intro h
    exact ⟨some v, i, List.mem_zipIdx_iff_getElem?.mpr h, v, rfl, rfl⟩
def et_c1 : Option Value → Bool
  | some (.long _) => false
  | some (.double _) => false
  | _ => true
theorem et_c1_cat {o : Option Value} {v : Value} (h : et_c1 o = true) (ho : o = some v) : v.category = 1 := by
  subst ho
  cases v <;> simp_all [et_c1, Value.category]
/-- the walk's context: program, launch, environment, room, entry state, method, arguments, frames below, method, code -/
abbrev et_X : Type := Program × Launch × Env × Room × State × MethodId × Array Value × List Frame × Method × Code
def et_V (X : et_X) (w : et_W) (u : Nat) (Q : State → Prop) (pc : Nat) (lv : List (Option Value)) (st : List Value) (g : et_G) : Prop := match X with
  | (p, l, e, R, s, m, args, below, meth, c) => ∀ (H : Heap) (locs : List Loc) (ls : Array Slot), et_R w g H → va_S (et_A w) s.heap H locs → lv_has ls c.maxLocals (et_L lv) → W p l e R s m args below meth c H locs u (6 * u) Q (F0 m pc ls st)
def et_Gd (X : et_X) (w : et_W) (b : ByteArray) (own : String) (nL : Nat) (ret : Option FieldType) (tb : List ExceptionTableEntry) (rm : Room) : Prop := match X with
  | (p, l, e, R, s, m, args, below, meth, c) => p.tables.exec = Jvm.exec ∧ c.code = b ∧ c.maxLocals = nL ∧ s.vm.findClass own = some m.cls ∧ (∀ q ∈ et_tb, q.before args s = true) ∧ meth.sig.returnType = ret ∧ meth.locks = false ∧ et_Sane w ∧ et_U w s ∧ c.exceptionTable.toList = tb ∧ l.stackTraces = false ∧ R = rm
/-- how a method ends: it returns, or throws an exception of a kind -/
abbrev et_O : Type := Option Value ⊕ Nat
def et_xn (k : Nat) : String := match k with
  | 0 => "java/util/NoSuchElementException"
  | _ => "java/lang/IllegalArgumentException"
def et_Qc (w : et_W) (o : et_O) (g : et_G) : Array Value → State → Outcome → State → Prop := fun _ st oc t => (∃ v, o = .inl v ∧ oc = .returned v) ∧ et_R w g t.heap ∧ va_F (et_A w) st t
def et_XC (w : et_W) (o : et_O) (g : et_G) : String → State → State → Prop := fun E st t => (∃ k, o = .inr k ∧ E = et_xn k) ∧ et_R w g t.heap ∧ va_F (et_A w) st t
def et_Q (X : et_X) (w : et_W) (o : et_O) (g : et_G) : State → Prop := match X with
  | (p, l, e, R, s, m, args, below, meth, c) => vx_MQ below (et_Qc w o g) (et_XC w o g) args s R.cells R.slots (et_A w)
/-- the walk from here ends as the function's value o says, if it says anything -/
def et_Z {α : Type} (X : et_X) (w : et_W) (u : Nat) (enc : α → et_O) (pc : Nat) (lv : List (Option Value)) (st : List Value) (g : et_G) (o : Option (α × et_G)) : Prop :=
  ∀ (a : α) (g2 : et_G), o = some (a, g2) → et_V X w u (et_Q X w (enc a) g2) pc lv st g
def et_eI (x : Int32) : et_O := .inl (some (.int x))
def et_eJ (x : Int64) : et_O := .inl (some (.long x))
def et_eU (_ : Unit) : et_O := .inl none
def et_tI (x : Nat ⊕ Int32) : et_O := match x with
  | .inl k => .inr k
  | .inr y => .inl (some (.int y))
def et_tU (x : Nat ⊕ Unit) : et_O := match x with
  | .inl k => .inr k
  | .inr _ => .inl none
/-- a value with a name -/
def et_b {α β : Type} (x : α) (k : α → β) : β := k x
/-- a loop: its body may go round -/
def et_lp {σ ρ : Type} (body : (σ → Option ρ) → σ → Option ρ) : Nat → σ → Option ρ
  | 0, _ => none
  | n + 1, s => body (et_lp body n) s
theorem et_words {w : et_W} {U : State} (h : et_Sane w) (hU : et_U w U) (a : Array Value) : ∀ q ∈ et_tb, q.before a U = true := by
  obtain ⟨⟨a0, h0⟩, -⟩ := h
  intro q hq
  obtain ⟨h1, h2⟩ := List.mem_filter.mp hq
  rcases (Bool.or_eq_true _ _).mp h2 with h3 | h3
  · exact word_at hU.1 (good_of_word h3) (h0 q h1)
  · obtain ⟨h4, h5⟩ := (Bool.and_eq_true _ _).mp h3
    exact va_tabs h4 (rfl : (w.1.setVm U.vm).vm = U.vm) (Cond.before_shiftedFace (State.Shifted.of_warmed hU.1) q h5 (h0 q h1))
/-- a check, a call, a call that may throw -/
def et_ib (i : Int32) (n : Nat) : Bool := !decide (i < 0 ∨ n ≤ i.toNatClampNeg)
theorem et_ib_in {i : Int32} {n : Nat} (h : et_ib i n = true) : vp_in i n := by simpa [et_ib, vp_in] using h
def et_ck {β : Type} (c : Bool) (o : Option β) : Option β := if c = true then o else none
def et_bd {β γ : Type} (F : Option (β × et_G)) (f : β → et_G → Option γ) : Option γ := match F with
  | none => none
  | some (x, g) => f x g
def et_bt {β γ : Type} (F : Option ((Nat ⊕ β) × et_G)) (f : β → et_G → Option ((Nat ⊕ γ) × et_G)) : Option ((Nat ⊕ γ) × et_G) := match F with
  | none => none
  | some (.inl k, g) => some (.inl k, g)
  | some (.inr x, g) => f x g
def et_us (x y : Int32) : Int32 := (x.toUInt32 >>> (y.toUInt32 &&& Int32.toUInt32 31)).toInt32
