/-! a static call of a nest mate's private method; an exception made and thrown; switches -/
def et_xs : List String := ["java/lang/RuntimeException", "java/lang/Exception"]
def et_TH (own : String) (kx ik ic : Nat) : Prop := Cond.classLink own ik (et_xn kx) ∈ et_tb ∧ Cond.initialized (et_xn kx) ∈ et_tb ∧ (∀ q ∈ vx_at0 own ic (et_xn kx) et_xs, q ∈ et_tb) ∧ (∀ q ∈ Cond.classLink own ik (et_xn kx) :: Cond.initialized (et_xn kx) :: vx_at0 own ic (et_xn kx) et_xs, vx_ot q = true) ∧ Bundle.fit (et_xn kx) = true ∧ ∀ n ∈ et_xs, Bundle.fit n = true
section ZT
variable {α β : Type} {X : et_X} {w : et_W} {u pc nL : Nat} {enc : α → et_O} {b : ByteArray} {own : String} {ret : Option FieldType} {tb : List ExceptionTableEntry} {rm : Room} {lv r : List (Option Value)} {st : List Value} {g : et_G} {o : Option (α × et_G)} {k idx ci j n : Nat} {ty : FieldType}
theorem zc_nest {encC : β → et_O} {y : MethodName} {b1 : ByteArray} {nL1 : Nat} {ret1 : Option FieldType} {rm1 : Room} {As : List Value} {F : Option (β × et_G)} {host : String} (hX : et_Gd X w b own nL ret tb rm) (hd : decode b pc = .ok (.invokestatic idx, 3)) (hl : Cond.methodLinkNest own idx y host ∈ lw_tbl) (hm : et_MD y b1 nL1 ret1 n) (hi : Cond.static y ∈ et_tb)
    (hC : et_C w y (Cond.code y b1 nL1 ret1) rm1 encC As g F) (hn : As.length = n) (hst : Nat.ble ((st.map fun v => v.category).sum) 8 = true) (hrs : et_rs rm rm1 nL1 u = true) : et_Call X w u pc rm1.cells lv (As.reverse ++ st) st g encC F := by
  obtain ⟨p, l, e, R, s, m, args, below, meth, c⟩ := X
  intro x g1 hF H locs ls hP hS hlv
  obtain ⟨hx, hb, hml, hown, hts, hr, hlocks, hsane, hU, htb, hlt, rfl⟩ := hX
  obtain ⟨r1, r2, r3, r4⟩ := et_rs_ok hrs
  have hpre := et_pre (w := w) (g := g) (avs := As) hU hS hP
  have hM := hC l hlt x g1 hF
  rw [r4] at hM
  obtain ⟨⟨a0, h0⟩, -⟩ := id hsane
  have hlink : (Cond.methodLinkNest own idx y host).before args s = true := va_Nw.use rfl (va_Nw.warmM hU.1 (va_Nw.of rfl (h0 _ hl)))
  obtain ⟨m1, m2, m3, m4⟩ := hm
  have hcode := hts _ m1
  have hini := hts _ m2
  have hK := vx_back (bytes := b1) (maxL := nL1) (ret := ret1) (R := R) (p := p) (e := e) (below := below) (s := s) (sargs := args) (len := 3) (W9 := 8) hM hpre.1 rfl r4 r1.1 r1.2 (fun q hq a U hW => by rw [List.mem_singleton.mp hq]; exact word_at hW (Or.inl rfl) hcode) List.mem_cons_self (fun a' U hW => word_at hW (Or.inl (by first | rfl | simp [Cond.onTables, Cond.keeps, Cond.steady])) hini)
  refine ⟨As.toArray, ?_⟩
  intro T hT Y
  obtain ⟨mk, hnamed⟩ := Cond.code_named hcode
  obtain ⟨methM, cM, hmethM, -, -, -, -, -, -, hsigM⟩ := Cond.code_spec hnamed hcode
  have hstatic : methM.isStatic = true := Cond.static_spec hnamed hmethM (hts _ hi)
  obtain ⟨kP, hkP, -⟩ := className_of_methodNamed hnamed
  have hinitP : kP.init = .initialized := Cond.initialized_spec (findClass_of_methodNamed hnamed) hkP hini
  have hdc : decode c.code pc = .ok (.invokestatic idx, 3) := by rw [hb]; exact hd
  have hW8 : 2 * (F0 m pc ls st).monitorRoom + (st.map fun v => v.category).sum ≤ 8 := by simpa using Nat.le_of_ble_eq_true hst
  obtain ⟨vm₁, X₁, hstep₁⟩ := Y.invokestaticNest hx hown hlink hnamed hmethM hstatic hkP hinitP m3 (g := F0 m pc ls (As.reverse ++ st)) rfl (argsL := As) (rest := st) (hn.trans (m4 _ hsigM)) rfl hdc
  rcases hK m meth c ⟨T.setVm vm₁, locs, u, 6 * u⟩ (F0 m pc ls st) (.invokestatic idx) mk As.toArray X₁ rfl hlv.1 hdc hW8 (X₁.named hnamed) ⟨r2, r3, hpre.2 (T.setVm vm₁) hT X₁.warmed⟩ with ⟨v, ⟨U', l2, c2, s2⟩, X', ⟨g', mk', t, L, e1, e2, hq, h1, hL, h2, h3⟩, st1⟩ | ⟨q, ⟨U', l2, c2, s2⟩, X', ⟨g', mk', t, L, E, ce, e1, e2, hq, hce, hcv, hcl, h1, hL, h2, h3⟩, st1⟩
  · dsimp only [Pt.U, Pt.locs, Pt.cells, Pt.slots] at X' e1 e2 h1 h2 h3 st1
    subst h1; subst h2; subst h3
    exact Or.inl ⟨v, (T.setVm vm₁).calling g' mk' As.toArray, t, U', L, hT, X', hL, e1, e2, hq, fun target h => hstep₁ _ fun acts => by rw [doInvoke_state]; exact st1.trans h⟩
  · dsimp only [Pt.U, Pt.locs, Pt.cells, Pt.slots] at X' e1 e2 h1 h2 h3 st1 hcl
    subst h1; subst h2; subst h3
    exact Or.inr ⟨q, (T.setVm vm₁).calling g' mk' As.toArray, t, U', L, E, ce, hT, X', hL, e1, e2, hq, hce, hcv, vx_cls X₁.warmed hcl, hstep₁ _ fun acts => by rw [doInvoke_state]; exact st1⟩
theorem zi_thr {γ : Type} {encT : Nat ⊕ γ → et_O} {kx ik ic : Nat} (hX : et_Gd X w b own nL ret [] rm) (d0 : decode b pc = .ok (.new ik, 3)) (d3 : decode b (pc + 3) = .ok (.dup, 1)) (d4 : decode b (pc + 4) = .ok (.invokespecial ic, 3)) (d7 : decode b (pc + 7) = .ok (.athrow, 1))
    (ht : et_TH own kx ik ic) (he : encT (.inl kx) = .inr kx) (hr1 : Nat.ble 6 rm.frames = true) (hr2 : Nat.ble ((st.map fun v => v.category).sum + 81) rm.locals = true) (hr3 : Nat.ble (u + 1) rm.cells = true) (hs : Nat.ble (6 * (u + 1)) rm.slots = true) : et_Z X w u encT pc lv st g (some (.inl kx, g)) := by
  obtain ⟨p, l, e, R, s, m, args, below, meth, c⟩ := X
  intro a1 g1 ho H locs ls hP hS hlv
  cases ho
  obtain ⟨hx, hb, hml, hown, hts, hr, hlocks, hsane, hU, htb, hlt, rfl⟩ := hX
  obtain ⟨t1, t2, t3, t4, t5, t6⟩ := ht
  have e1 := Nat.le_of_ble_eq_true hr1
  have e2 := Nat.le_of_ble_eq_true hr2
  have e3 := Nat.le_of_ble_eq_true hr3
  have e4 := Nat.le_of_ble_eq_true hs
  refine vx_throw0 (names := et_xs) (A := et_A w) hx hb hlt hown t5 t6 (hts _ t1) (hts _ t2) (fun q hq => hts q (t3 q hq)) t4 (et_U.zq hsane.2.2.2.2.1 hU) (et_U.zq hsane.2.2.2.2.2.1 hU) hS hlv.1 d0 d3 d4 d7 (by rw [htb]; intro x h; cases h) (Nat.lt_of_lt_of_le (by decide) e1) (by show _ + (13 * 3 + 42) ≤ _; omega) e3 (by omega) hlocks
    (fun t hvm hz hk => ⟨⟨kx, he, rfl⟩, hP.kept (fun k q hq => hk q.1 (hP k q hq).lt), Nat.le_trans hS.1 hz, fun q h1 h2 => by rw [hk q (Nat.lt_of_lt_of_le h1 hS.1)]; exact hS.2.1 q h1 h2⟩) hS.2.2 e3 (by omega)
theorem zi_tabI {dflt lo hi off : Int} {offs : Array Int} {len : Nat} {x : Int32} (tgt : Nat) (hX : et_Gd X w b own nL ret tb rm) (hd : decode b pc = .ok (.tableswitch dflt lo hi offs, len)) (v : Int32) (hx : x = v) (h1 : ¬ v.toInt < lo) (h2 : ¬ hi < v.toInt) (ho : offs[(v.toInt - lo).toNat]? = some off) (ht : (pc : Int) + off = (tgt : Int)) (kk : et_Z X w u enc tgt lv st g o) : et_Z X w u enc pc lv (.int x :: st) g o := by
  subst hx
  obtain ⟨p, l, e, R, s, m, args, below, meth, c⟩ := X
  intro a1 g1 ho1 H locs ls hP hS hl
  exact lv_tableIn hX.1 hX.2.1 hd h1 h2 ho ht (kk a1 g1 ho1 H locs ls hP hS hl)
theorem zi_tabO {dflt lo hi : Int} {offs : Array Int} {len : Nat} {x : Int32} (tgt : Nat) (hX : et_Gd X w b own nL ret tb rm) (hd : decode b pc = .ok (.tableswitch dflt lo hi offs, len)) (h : x.toInt < lo ∨ hi < x.toInt) (ht : (pc : Int) + dflt = (tgt : Int)) (kk : et_Z X w u enc tgt lv st g o) : et_Z X w u enc pc lv (.int x :: st) g o := by
  obtain ⟨p, l, e, R, s, m, args, below, meth, c⟩ := X
  intro a1 g1 ho1 H locs ls hP hS hl
  exact lv_tableOut hX.1 hX.2.1 hd h ht (kk a1 g1 ho1 H locs ls hP hS hl)
theorem zi_lkp {dflt : Int} {ps : Array (Int × Int)} {len : Nat} {x : Int32} {off : Int} (tgt : Nat) (hX : et_Gd X w b own nL ret tb rm) (hd : decode b pc = .ok (.lookupswitch dflt ps, len)) (hp : (ps.toList.zip (ps.toList.drop 1)).all (fun (a, next) => a.1 < next.1) = true) (ho : Op.lookupswitch.offset ps.toList dflt x.toInt = off) (ht : (pc : Int) + off = (tgt : Int)) (kk : et_Z X w u enc tgt lv st g o) : et_Z X w u enc pc lv (.int x :: st) g o := by
  obtain ⟨p, l, e, R, s, m, args, below, meth, c⟩ := X
  intro a1 g1 ho1 H locs ls hP hS hl
  exact lv_lookup hX.1 hX.2.1 hd hp ho ht (kk a1 g1 ho1 H locs ls hP hS hl)
/-- loops: the walk of the body, going round as the function does -/
theorem zi_lp {σ : Type} {body : (σ → Option (α × et_G)) → σ → Option (α × et_G)} {lvs : σ → List (Option Value)} {gs : σ → et_G} (hb : ∀ (rec : σ → Option (α × et_G)), (∀ s, et_Z X w u enc pc (lvs s) st (gs s) (rec s)) → ∀ s, et_Z X w u enc pc (lvs s) st (gs s) (body rec s)) : ∀ (n : Nat) (s : σ), et_Z X w u enc pc (lvs s) st (gs s) (et_lp body n s)
  | 0, s => by intro a g2 h; cases h
  | n + 1, s => hb (et_lp body n) (zi_lp hb n) s
end ZT
