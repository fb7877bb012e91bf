/-! answers, throws, contracts, calls -/
section ZW
variable {p : Program} {l : Launch} {e : Env} {R : Room} {s : State} {m : MethodId} {args : Array Value} {below : List Frame} {meth : Method} {c : Code} {H : Heap} {locs : List Loc} {cells slots : Nat} {Q : State → Prop}
theorem et_Wz {cc : ByteArray} {Qc : Array Value → State → Outcome → State → Prop} {free : Addr → Prop} {v v2 : Int32} {ty : FieldType} (hexec : p.tables.exec = Jvm.exec) (hb : c.code = cc) (hr : meth.sig.returnType = some ty) (hn : narrow ty (.int v) = .int v2)
    (hq : ∀ t : State, t.heap = H → s.WarmedH t.vm → Qc args s (.returned (some (.int v2))) t) (hf : ∀ q ∈ locs, free q.base)
    {pc : Nat} {ls : Array Slot} (hdg : decode cc pc = .ok (.ireturn, 1)) (hlocks : meth.locks = false) : W p l e R s m args below meth c H locs cells slots (MQ below Qc args s cells slots free) (F0 m pc ls [.int v]) := by
  intro T hT X
  obtain ⟨fs, hret, hrun, hended, hW, hframe⟩ := X.leave (v := some (.int v2)) (fun h => by rw [hr] at h; cases h)
  have hmeth' : T.vm.method? m = some meth := X.method'
  refine ⟨T.setFrames fs, ?_, .returned (some (.int v2)), hrun, hended, hq _ hT hW, locs, ⟨⟨_, rfl⟩, hW, hframe⟩, hf⟩
  jvm_step X.here [X.here.top, hexec, hb, hdg, hmeth', hr, hn]
  (try refine ⟨rfl, ?_⟩); (try refine ⟨rfl, ?_⟩)
  first | (intro acts; rw [hret _ acts rfl rfl rfl]) | rw [hret _ _ rfl rfl rfl]
  exact Steps.refl _
/-- behind a call: it has returned, or thrown -/
theorem et_callE {w : et_W} {o1 : et_O} {g1 : et_G} {a : Array Value} {u mc pc : Nat} {ls : Array Slot} {st0 rest : List Value}
    (hr : vx_Run p l e R s m args below meth c H locs u (6 * u) mc (6 * mc) (F0 m pc ls st0) rest (et_Qc w o1 g1 a) (et_XC w o1 g1) (et_A w)) (hS : va_S (et_A w) s.heap H locs)
    (kr : ∀ v, o1 = .inl v → ∀ (H1 : Heap) (locs1 : List Loc), et_R w g1 H1 → va_S (et_A w) s.heap H1 locs1 → W p l e R s m args below meth c H1 locs1 (u + mc) (6 * (u + mc)) Q (F0 m (pc + 3) ls (v.toList ++ rest)))
    (kx : ∀ k, o1 = .inr k → ∀ (H1 : Heap) (locs1 : List Loc) (q9 : Addr) (ce : Cell), et_R w g1 H1 → va_S (et_A w) s.heap H1 locs1 → H1[q9]? = some ce → ce.vm = .none → s.vm.findClass (et_xn k) = some ce.cls → vx_W p l e R s m args below meth c H1 locs1 (u + mc) (6 * (u + mc)) Q (F0 m pc ls rest) q9) :
    W p l e R s m args below meth c H locs u (6 * u) Q (F0 m pc ls st0) := by
  intro T hT X
  have e6 : 6 * (u + mc) = 6 * u + 6 * mc := Nat.mul_add 6 u mc
  rcases hr T hT X with ⟨v, st₀, t, T', L, h0, X', hL, e1, e2, ⟨⟨v1, hv1, hv2⟩, hR, hF⟩, st⟩ | ⟨q, st₀, t, T', L, E, ce, h0, X', hL, e1, e2, ⟨⟨k, hk1, hk2⟩, hR, hF⟩, hce, hcv, hcl, st⟩
  · obtain ⟨k1, k2, k3⟩ := vx_keep h0 e1 hS (fun _ _ h => h) (fun _ h => h) hL hF
    cases hv2
    obtain ⟨t2, a1, b1⟩ := kr v hv1 T'.heap (locs ++ L) (by rw [e1]; exact hR) k3 T' rfl (by rw [e6]; exact X')
    exact ⟨t2, st t2 a1, b1⟩
  · obtain ⟨k1, k2, k3⟩ := vx_keep h0 e1 hS (fun _ _ h => h) (fun _ h => h) hL hF
    subst hk2
    obtain ⟨t2, a1, b1⟩ := kx k hk1 T'.heap (locs ++ L) q ce (by rw [e1]; exact hR) k3 (by rw [e1]; exact hce) hcv hcl T' rfl (by rw [e6]; exact X')
    exact ⟨t2, st.trans a1, b1⟩
end ZW
/-- a method's contract: from a state of the run that holds the picture g, it ends as o says -/
def et_C {α : Type} (w : et_W) (y : MethodName) (c0 : Cond) (rm : Room) (enc : α → et_O) (avs : List Value) (g : et_G) (o : Option (α × et_G)) : Prop :=
  ∀ (l : Launch), l.stackTraces = false → ∀ (a : α) (g2 : et_G), o = some (a, g2) → vx_Met l y [c0] rm (va_Pc avs (fun U => et_U w U ∧ et_R w g U.heap)) (et_Qc w (enc a) g2) (et_XC w (enc a) g2) rm.cells rm.slots (et_A w)
/-- what a callee's words are, once for each method -/
def et_MD (y : MethodName) (b : ByteArray) (nL : Nat) (ret : Option FieldType) (n : Nat) : Prop := Cond.code y b nL ret ∈ et_tb ∧ Cond.initialized y.cls ∈ et_tb ∧ (y.cls ≠ "java/lang/invoke/MethodHandle" ∧ y.cls ≠ "java/lang/invoke/VarHandle") ∧ (∀ sig, parseMethodDescriptor y.desc = some sig → n = sig.parameters.length)
def et_MI (y : MethodName) (ci : Nat) : Prop := Cond.instanceMethod y ∈ et_tb ∧ Cond.selects y.cls y y ∈ et_tb ∧ ∃ (T : u_T) (N : Nat), vwCl[ci]? = some (y.cls, T, N)
section ZC
variable {α β : Type} {X : et_X} {w : et_W} {u pc nL : Nat} {enc : α → et_O} {b : ByteArray} {own : String} {ret : Option FieldType} {tb : List ExceptionTableEntry} {rm : Room} {lv r : List (Option Value)} {st : List Value} {g : et_G} {o : Option (α × et_G)} {k idx ci j n : Nat} {ty : FieldType}
theorem zi_ret {a : α} {x v2 : Int32} (hX : et_Gd X w b own nL (some ty) tb rm) (hd : decode b pc = .ok (.ireturn, 1)) (hn : narrow ty (.int x) = .int v2) (he : enc a = .inl (some (.int v2))) (hc : Nat.ble u rm.cells = true) (hs : Nat.ble (6 * u) rm.slots = true) : et_Z X w u enc pc lv [.int x] g (some (a, g)) := by
  obtain ⟨p, l, e, R, s, m, args, below, meth, c⟩ := X
  intro a1 g1 ho H locs ls hP hS hl
  cases ho
  obtain ⟨hx, hb, hml, hown, hts, hr, hlocks, hsane, hU, htb, hlt, rfl⟩ := hX
  have h1 := Nat.le_of_ble_eq_true hc
  refine W.widen (k := R.cells) (n := R.slots) h1 (Nat.le_of_ble_eq_true hs) (vx_ret (et_Wz hx hb hr hn (fun t ht hW => ⟨⟨_, he, rfl⟩, by rw [ht]; exact hP, hS.F ht⟩) hS.2.2 hd hlocks))
theorem zi_vret {a : α} (hX : et_Gd X w b own nL none tb rm) (hd : decode b pc = .ok (.return_, 1)) (he : enc a = .inl none) (hc : Nat.ble u rm.cells = true) (hs : Nat.ble (6 * u) rm.slots = true) : et_Z X w u enc pc lv [] g (some (a, g)) := by
  obtain ⟨p, l, e, R, s, m, args, below, meth, c⟩ := X
  intro a1 g1 ho H locs ls hP hS hl
  cases ho
  obtain ⟨hx, hb, hml, hown, hts, hr, hlocks, hsane, hU, htb, hlt, rfl⟩ := hX
  have h1 := Nat.le_of_ble_eq_true hc
  refine W.widen (k := R.cells) (n := R.slots) h1 (Nat.le_of_ble_eq_true hs) (vx_ret (W.vret hx hb hr (fun t ht hW => ⟨⟨_, he, rfl⟩, by rw [ht]; exact hP, hS.F ht⟩) hS.2.2 hd hlocks))
theorem zi_lret {a : α} {x : Int64} (hX : et_Gd X w b own nL (some .long) tb rm) (hd : decode b pc = .ok (.lreturn, 1)) (he : enc a = .inl (some (.long x))) (hc : Nat.ble u rm.cells = true) (hs : Nat.ble (6 * u) rm.slots = true) : et_Z X w u enc pc lv [.long x] g (some (a, g)) := by
  obtain ⟨p, l, e, R, s, m, args, below, meth, c⟩ := X
  intro a1 g1 ho H locs ls hP hS hl
  cases ho
  obtain ⟨hx, hb, hml, hown, hts, hr, hlocks, hsane, hU, htb, hlt, rfl⟩ := hX
  have h1 := Nat.le_of_ble_eq_true hc
  refine W.widen (k := R.cells) (n := R.slots) h1 (Nat.le_of_ble_eq_true hs) (vx_ret (W.lret hx hb hr (fun t ht hW => ⟨⟨_, he, rfl⟩, by rw [ht]; exact hP, hS.F ht⟩) hS.2.2 hd hlocks))
/-- a contract out of a walk -/
theorem et_mk {y : MethodName} {avs : List Value} {lv0 : List (Option Value)} (hw : et_Sane w) (hy : plainName y.cls = true) (hn : Nat.ble (lg_sl avs).length nL = true) (hlv : et_L lv0 = lv_args 0 avs)
    (body : ∀ X : et_X, et_Gd X w b y.cls nL ret [] rm → et_Z X w 0 enc 0 lv0 [] g o) : et_C w y (Cond.code y b nL ret) rm enc avs g o := by
  intro l hl a g2 ho
  refine vx_ofW (cc := b) (maxL := nL) (ret := ret) (ws' := []) hy rfl ?_
  intro p e s m args below meth c s₁ B hml hnt hv
  obtain ⟨rfl, hU, hP⟩ := hv
  have hlk := B.notSynchronized
  have hgd : et_Gd (p, l, e, rm, s, m, avs.toArray, below, meth, c) w b y.cls nL ret [] rm :=
    ⟨B.exec, B.bytes, hml, findClass_of_methodNamed B.named, et_words hw hU _, B.returns, hlk, hw, hU, List.eq_nil_iff_forall_not_mem.mpr (fun x hx => hnt x hx), hl, rfl⟩
  have h0 := lv_entry avs (n := nL) (Nat.le_of_ble_eq_true hn)
  rw [lg_entry_eq]
  rw [← hlv] at h0
  have hz := body _ hgd a g2 ho s.heap [] _ hP va_S.rf (by rw [hml]; exact h0)
  exact hz
/-- the words of a call -/
theorem et_cb {s : State} {args : Array Value} {R : Room} {y : MethodName} {b1 : ByteArray} {nL1 : Nat} {ret1 : Option FieldType} {rm1 : Room} (hts : ∀ q ∈ et_tb, q.before args s = true) (hm : et_MD y b1 nL1 ret1 n) (hl : Cond.methodLink own idx y ∈ et_tb) (hR : rm1.frames + 1 ≤ R.frames ∧ 8 + (nL1 + 11) + rm1.locals ≤ R.locals) (hs : rm1.slots = 6 * rm1.cells) : CallB R s args own idx y b1 nL1 ret1 [Cond.code y b1 nL1 ret1] rm1 rm1.cells (6 * rm1.cells) n := by
  obtain ⟨m1, m2, m3, m4⟩ := hm
  refine ⟨rfl, hs, hR.1, hR.2, fun q hq a U hW => ?_, List.mem_cons_self, hts _ m1, hts _ m2, m3, m4, hts _ hl⟩
  rw [List.mem_singleton.mp hq]
  exact word_at hW (Or.inl rfl) (hts _ m1)
theorem et_pre {s : State} {H : Heap} {locs : List Loc} {avs : List Value} (hU : et_U w s) (hS : va_S (et_A w) s.heap H locs) (hP : et_R w g H) : FrameBlind (va_Pc avs (fun U => et_U w U ∧ et_R w g U.heap)) ∧ ∀ U : State, U.heap = H → s.WarmedH U.vm → va_Pc avs (fun U => et_U w U ∧ et_R w g U.heap) avs.toArray U :=
  ⟨fun a U g mk h => h, fun U hH hW => ⟨rfl, hU.next hS hH hW, by rw [hH]; exact hP⟩⟩
def et_rs (R rm1 : Room) (nL1 : Nat) (u : Nat) : Bool := Nat.ble (rm1.frames + 1) R.frames && (Nat.ble (8 + (nL1 + 11) + rm1.locals) R.locals && (Nat.ble (u + rm1.cells) R.cells && (Nat.ble (6 * u + 6 * rm1.cells) R.slots && Nat.beq rm1.slots (6 * rm1.cells))))
theorem et_rs_ok {R rm1 : Room} {nL1 u : Nat} (h : et_rs R rm1 nL1 u = true) : (rm1.frames + 1 ≤ R.frames ∧ 8 + (nL1 + 11) + rm1.locals ≤ R.locals) ∧ u + rm1.cells ≤ R.cells ∧ 6 * u + 6 * rm1.cells ≤ R.slots ∧ rm1.slots = 6 * rm1.cells := by
  simp only [et_rs, Bool.and_eq_true] at h
  obtain ⟨h1, h2, h3, h4, h5⟩ := h
  have e1 := Nat.le_of_ble_eq_true h1
  have e2 := Nat.le_of_ble_eq_true h2
  have e3 := Nat.le_of_ble_eq_true h3
  have e4 := Nat.le_of_ble_eq_true h4
  have e5 := Nat.eq_of_beq_eq_true h5
  exact ⟨⟨e1, e2⟩, e3, e4, e5⟩
/-- a call's run, whatever its kind: what the next rows take -/
def et_Call (X : et_X) (w : et_W) (u pc mc : Nat) (lv : List (Option Value)) (st0 rest : List Value) (g : et_G) (enc : β → et_O) (F : Option (β × et_G)) : Prop := match X with
  | (p, l, e, R, s, m, args, below, meth, c) => ∀ (x : β) (g1 : et_G), F = some (x, g1) → ∀ (H : Heap) (locs : List Loc) (ls : Array Slot), et_R w g H → va_S (et_A w) s.heap H locs → lv_has ls c.maxLocals (et_L lv) → ∃ a : Array Value, vx_Run p l e R s m args below meth c H locs u (6 * u) mc (6 * mc) (F0 m pc ls st0) rest (et_Qc w (enc x) g1 a) (et_XC w (enc x) g1) (et_A w)
theorem zc_virt {encC : β → et_O} {y : MethodName} {b1 : ByteArray} {nL1 : Nat} {ret1 : Option FieldType} {rm1 : Room} {As : List Value} {F : Option (β × et_G)} {ks : List Nat} (hX : et_Gd X w b own nL ret tb rm) (hd : decode b pc = .ok (.invokevirtual idx, 3)) (hl : Cond.methodLink own idx y ∈ et_tb) (hm : et_MD y b1 nL1 ret1 n) (hi : et_MI y ci) (hk : et_lay[k]? = some (.inr (ci, ks)))
    (hC : et_C w y (Cond.code y b1 nL1 ret1) rm1 encC (.ref (et_ad w k) :: As) g F) (hn : As.length = n) (hst : Nat.ble ((st.map fun v => v.category).sum) 8 = true) (hrs : et_rs rm rm1 nL1 u = true) : et_Call X w u pc rm1.cells lv (As.reverse ++ .ref (et_ad w k) :: st) st g encC F := by
  obtain ⟨p, l, e, R, s, m, args, below, meth, c⟩ := X
  intro x g1 hF H locs ls hP hS hlv
  obtain ⟨hx, hb, hml, hown, hts, hr, hlocks, hsane, hU, htb, hlt, rfl⟩ := hX
  obtain ⟨i1, i2, T, N, i3⟩ := hi
  obtain ⟨r1, r2, r3, r4⟩ := et_rs_ok hrs
  have hpre := et_pre (w := w) (g := g) (avs := .ref (et_ad w k) :: As) hU hS hP
  have hM := hC l hlt x g1 hF
  rw [r4] at hM
  exact ⟨_, vx_runV (C := y.cls) (n := n) (nL := c.maxLocals) (Ts := et_tb) ⟨hx, hb, rfl, hown, hts⟩ hM ⟨et_cb hts hm hl r1 r4, hts _ i1, hts _ i2⟩ ⟨hpre.1, va_recv (et_Kof hsane hU) hP i3 (et_at hk), hpre.2⟩ rfl hn hlv.1 rfl (by simpa using Nat.le_of_ble_eq_true hst) hd ⟨r2, r3⟩⟩
theorem zc_stat {encC : β → et_O} {y : MethodName} {b1 : ByteArray} {nL1 : Nat} {ret1 : Option FieldType} {rm1 : Room} {As : List Value} {F : Option (β × et_G)} (hX : et_Gd X w b own nL ret tb rm) (hd : decode b pc = .ok (.invokestatic idx, 3)) (hl : Cond.methodLink own idx y ∈ et_tb) (hm : et_MD y b1 nL1 ret1 n) (hi : Cond.static y ∈ et_tb)
    (hC : et_C w y (Cond.code y b1 nL1 ret1) rm1 encC As g F) (hn : As.length = n) (hst : Nat.ble ((st.map fun v => v.category).sum) 8 = true) (hrs : et_rs rm rm1 nL1 u = true) : et_Call X w u pc rm1.cells lv (As.reverse ++ st) st g encC F := by
  obtain ⟨p, l, e, R, s, m, args, below, meth, c⟩ := X
  intro x g1 hF H locs ls hP hS hlv
  obtain ⟨hx, hb, hml, hown, hts, hr, hlocks, hsane, hU, htb, hlt, rfl⟩ := hX
  obtain ⟨r1, r2, r3, r4⟩ := et_rs_ok hrs
  have hpre := et_pre (w := w) (g := g) (avs := As) hU hS hP
  have hM := hC l hlt x g1 hF
  rw [r4] at hM
  exact ⟨_, vx_runS (n := n) (nL := c.maxLocals) (Ts := et_tb) ⟨hx, hb, rfl, hown, hts⟩ hM ⟨et_cb hts hm hl r1 r4, hts _ hi⟩ hpre rfl hn hlv.1 rfl (by simpa using Nat.le_of_ble_eq_true hst) hd ⟨r2, r3⟩⟩
theorem zi_callI {F : Option (Int32 × et_G)} {f : Int32 → et_G → Option (α × et_G)} {mc : Nat} {st0 : List Value} (hc : et_Call X w u pc mc lv st0 st g et_eI F) (kk : ∀ (x : Int32) (g1 : et_G), et_Z X w (u + mc) enc (pc + 3) lv (.int x :: st) g1 (f x g1)) : et_Z X w u enc pc lv st0 g (et_bd F f) := by
  obtain ⟨p, l, e, R, s, m, args, below, meth, c⟩ := X
  intro a1 g2 ho H locs ls hP hS hlv
  cases hF : F with
  | none => rw [hF] at ho; cases ho
  | some q =>
    obtain ⟨x, g1⟩ := q
    rw [hF] at ho
    obtain ⟨a, hr⟩ := hc x g1 hF H locs ls hP hS hlv
    exact et_callE hr hS (fun v hv H1 locs1 hP1 hS1 => by cases hv; exact kk x g1 a1 g2 ho H1 locs1 ls hP1 hS1 hlv) (fun k hk => by cases hk)
theorem zi_callJ {F : Option (Int64 × et_G)} {f : Int64 → et_G → Option (α × et_G)} {mc : Nat} {st0 : List Value} (hc : et_Call X w u pc mc lv st0 st g et_eJ F) (kk : ∀ (x : Int64) (g1 : et_G), et_Z X w (u + mc) enc (pc + 3) lv (.long x :: st) g1 (f x g1)) : et_Z X w u enc pc lv st0 g (et_bd F f) := by
  obtain ⟨p, l, e, R, s, m, args, below, meth, c⟩ := X
  intro a1 g2 ho H locs ls hP hS hlv
  cases hF : F with
  | none => rw [hF] at ho; cases ho
  | some q =>
    obtain ⟨x, g1⟩ := q
    rw [hF] at ho
    obtain ⟨a, hr⟩ := hc x g1 hF H locs ls hP hS hlv
    exact et_callE hr hS (fun v hv H1 locs1 hP1 hS1 => by cases hv; exact kk x g1 a1 g2 ho H1 locs1 ls hP1 hS1 hlv) (fun k hk => by cases hk)
theorem zi_callU {F : Option (Unit × et_G)} {f : Unit → et_G → Option (α × et_G)} {mc : Nat} {st0 : List Value} (hc : et_Call X w u pc mc lv st0 st g et_eU F) (kk : ∀ (g1 : et_G), et_Z X w (u + mc) enc (pc + 3) lv st g1 (f () g1)) : et_Z X w u enc pc lv st0 g (et_bd F f) := by
  obtain ⟨p, l, e, R, s, m, args, below, meth, c⟩ := X
  intro a1 g2 ho H locs ls hP hS hlv
  cases hF : F with
  | none => rw [hF] at ho; cases ho
  | some q =>
    obtain ⟨x, g1⟩ := q
    rw [hF] at ho
    obtain ⟨a, hr⟩ := hc x g1 hF H locs ls hP hS hlv
    exact et_callE hr hS (fun v hv H1 locs1 hP1 hS1 => by cases hv; exact kk g1 a1 g2 ho H1 locs1 ls hP1 hS1 hlv) (fun k hk => by cases hk)
/-- what leaves this method too -/
theorem et_outX {γ : Type} {encT : Nat ⊕ γ → et_O} {p : Program} {l : Launch} {e : Env} {R : Room} {s : State} {m : MethodId} {args : Array Value} {below : List Frame} {meth : Method} {c : Code} {H1 : Heap} {locs1 : List Loc} {g1 : et_G} {k1 u1 : Nat} {ls : Array Slot} {rest : List Value} {q9 : Addr} {ce : Cell}
    (he : encT (.inl k1) = .inr k1) (hX : et_Gd (p, l, e, R, s, m, args, below, meth, c) w b own nL ret [] rm) (hP1 : et_R w g1 H1) (hS1 : va_S (et_A w) s.heap H1 locs1) (hce : H1[q9]? = some ce) (hcv : ce.vm = .none) (hcl : s.vm.findClass (et_xn k1) = some ce.cls) (h1 : u1 ≤ R.cells) (h2 : 6 * u1 ≤ R.slots) :
    vx_W p l e R s m args below meth c H1 locs1 u1 (6 * u1) (et_Q (p, l, e, R, s, m, args, below, meth, c) w (encT (.inl k1)) g1) (F0 m pc ls rest) q9 := by
  obtain ⟨hx, hb, hml, hown, hts, hr, hlocks, hsane, hU, htb, hlt, -⟩ := hX
  exact vx_out (by rw [htb]; intro x hx; cases hx) hlocks hce hcv hcl (fun t ht _ => ⟨⟨k1, he, rfl⟩, by rw [ht]; exact hP1, hS1.F ht⟩) hS1.2.2 h1 h2
theorem zi_callTI {γ : Type} {encT : Nat ⊕ γ → et_O} {F : Option ((Nat ⊕ Int32) × et_G)} {f : Int32 → et_G → Option ((Nat ⊕ γ) × et_G)} {mc : Nat} {st0 : List Value} (hX : et_Gd X w b own nL ret [] rm) (he : ∀ k, encT (.inl k) = .inr k) (hu : Nat.ble (u + mc) rm.cells = true) (hs : Nat.ble (6 * (u + mc)) rm.slots = true) (hc : et_Call X w u pc mc lv st0 st g et_tI F) (kk : ∀ (x : Int32) (g1 : et_G), et_Z X w (u + mc) encT (pc + 3) lv (.int x :: st) g1 (f x g1)) : et_Z X w u encT pc lv st0 g (et_bt F f) := by
  obtain ⟨p, l, e, R, s, m, args, below, meth, c⟩ := X
  intro a1 g2 ho H locs ls hP hS hlv
  have hR : R = rm := hX.2.2.2.2.2.2.2.2.2.2.2
  have hu1 := Nat.le_of_ble_eq_true hu
  cases hF : F with
  | none => rw [hF] at ho; cases ho
  | some q =>
    obtain ⟨x, g1⟩ := q
    rw [hF] at ho
    obtain ⟨a, hr⟩ := hc x g1 hF H locs ls hP hS hlv
    cases x with
    | inl k1 =>
      cases ho
      exact et_callE hr hS (fun v hv => by cases hv) (fun k hk H1 locs1 q9 ce hP1 hS1 hce hcv hcl => by cases hk; exact et_outX (he k1) hX hP1 hS1 hce hcv hcl (by rw [hR]; exact hu1) (by rw [hR]; exact Nat.le_of_ble_eq_true hs))
    | inr y => exact et_callE hr hS (fun v hv H1 locs1 hP1 hS1 => by cases hv; exact kk y g1 a1 g2 ho H1 locs1 ls hP1 hS1 hlv) (fun k hk => by cases hk)
theorem zi_callTU {γ : Type} {encT : Nat ⊕ γ → et_O} {F : Option ((Nat ⊕ Unit) × et_G)} {f : Unit → et_G → Option ((Nat ⊕ γ) × et_G)} {mc : Nat} {st0 : List Value} (hX : et_Gd X w b own nL ret [] rm) (he : ∀ k, encT (.inl k) = .inr k) (hu : Nat.ble (u + mc) rm.cells = true) (hs : Nat.ble (6 * (u + mc)) rm.slots = true) (hc : et_Call X w u pc mc lv st0 st g et_tU F) (kk : ∀ (g1 : et_G), et_Z X w (u + mc) encT (pc + 3) lv st g1 (f () g1)) : et_Z X w u encT pc lv st0 g (et_bt F f) := by
  obtain ⟨p, l, e, R, s, m, args, below, meth, c⟩ := X
  intro a1 g2 ho H locs ls hP hS hlv
  have hR : R = rm := hX.2.2.2.2.2.2.2.2.2.2.2
  have hu1 := Nat.le_of_ble_eq_true hu
  cases hF : F with
  | none => rw [hF] at ho; cases ho
  | some q =>
    obtain ⟨x, g1⟩ := q
    rw [hF] at ho
    obtain ⟨a, hr⟩ := hc x g1 hF H locs ls hP hS hlv
    cases x with
    | inl k1 =>
      cases ho
      exact et_callE hr hS (fun v hv => by cases hv) (fun k hk H1 locs1 q9 ce hP1 hS1 hce hcv hcl => by cases hk; exact et_outX (he k1) hX hP1 hS1 hce hcv hcl (by rw [hR]; exact hu1) (by rw [hR]; exact Nat.le_of_ble_eq_true hs))
    | inr y => exact et_callE hr hS (fun v hv H1 locs1 hP1 hS1 => by cases hv; exact kk g1 a1 g2 ho H1 locs1 ls hP1 hS1 hlv) (fun k hk => by cases hk)
end ZC
