theorem md_X9_init : et_MD yX9_init cX9_init 1 none 0 := ⟨et_mt 140 (by decide +kernel) rfl, et_mt 112 (by decide +kernel) rfl, ⟨by decide, by decide⟩, fun sig h => by have h2 : (parseMethodDescriptor (yX9_init).desc).map (fun d => d.parameters.length) = some 0 := (by decide +kernel); rw [h] at h2; exact (Option.some.inj h2).symm⟩
theorem mo_X9_init : Cond.instanceMethod yX9_init ∈ et_tb := et_mt 139 (by decide +kernel) rfl
theorem tm_138 : Cond.methodLink RL 75 yX9_init ∈ et_tb := et_mt 138 (by decide +kernel) rfl
theorem md_X10_init : et_MD yX10_init cX10_init 1 none 0 := ⟨et_mt 1346 (by decide +kernel) rfl, et_mt 122 (by decide +kernel) rfl, ⟨by decide, by decide⟩, fun sig h => by have h2 : (parseMethodDescriptor (yX10_init).desc).map (fun d => d.parameters.length) = some 0 := (by decide +kernel); rw [h] at h2; exact (Option.some.inj h2).symm⟩
theorem mo_X10_init : Cond.instanceMethod yX10_init ∈ et_tb := et_mt 1345 (by decide +kernel) rfl
theorem tm_1344 : Cond.methodLink RL 78 yX10_init ∈ et_tb := et_mt 1344 (by decide +kernel) rfl
/-! THE CLAIM OUT OF ONE WALK OF THE LAW'S BODY. Your part is whole_start (and what it stands on); all else here is the same for every law, but numbers. -/
def R_law : String := "EndingTownLaw"
def lw_P (b : Addr) (xs : List Int32) (args : Array Value) (s : State) : Prop := args = #[.ref b] ∧ s.IntsAt b xs ∧ xs.length ≤ 3072 ∧ (Jvm.Cond.and given_1 narrow_1).before args s = true
def lw_Q (_ : Array Value) (s : State) (o : Outcome) (t : State) : Prop := o = .returned (some (.int 1)) ∧ Framed s o t [] 601024 7293034
def lw_Z (below : List Frame) (a : Array Value) (s : State) : State → Prop := fun t => ∃ o, t.status = .running ∧ Ended t below o ∧ lw_Q a s o t
/-- what holds at the law's entry: the machine, the code, the tables' words (any of lw_tbl by 'hts w (by decide +kernel)'), the script of L ints xs at the cell b, what the Statement gives of the start (any of its parts by flat_of_before) -/
def lw_At (p : Program) (s : State) (m : MethodId) (meth : Method) (c : Code) (b L : Nat) (xs : Nat → Int32) : Prop :=
  p.tables.exec = Jvm.exec ∧ c.code = code ∧ meth.sig.returnType = ret ∧ c.maxLocals = 7 ∧ s.vm.findClass R_law = some m.cls ∧ (∀ w ∈ lw_tbl, w.before #[Value.ref b] s = true) ∧ va_X b L xs s s.heap ∧ b < s.heap.size ∧ meth.locks = false ∧ (Jvm.Cond.and given_1 narrow_1).before #[Value.ref b] s = true ∧ c.exceptionTable.toList = []
/-- the claim's pure half: on every script the law's own function ends with 1 -/
def et_HP : Prop := ∀ (L : Nat) (xs : Nat → Int32), L ≤ 3072 → ∃ g2, fn_La_law_L L xs 1000000 0 et_g0 = some ((1 : Int32), g2)
theorem et_Uof {w : et_W} : et_U w w.1 := ⟨State.WarmedH.refl _, Nat.le_refl _, fun _ _ => rfl⟩
theorem whole_start (hp : et_HP) {p : Program} {e : Env} {s : State} {m : MethodId} {below : List Frame} {meth : Method} {c : Code} (l : Launch) (hlt : l.stackTraces = false) {b L : Nat} {xs : Nat → Int32} (hL : L ≤ 3072) (C0 : lw_At p s m meth c b L xs) : W p l e room_1 s m #[Value.ref b] below meth c s.heap [] 0 0 (lw_Z below #[Value.ref b] s) (entryFrame m ([Value.ref b] : List Value).toArray 7) := by
  obtain ⟨hx, hb, hr, hml, hown, hts, hX, hbl, hlk, hgv, htb⟩ := C0
  obtain ⟨w, hw1, hsane, hrow, had⟩ := et_start hts hgv hbl
  subst hw1
  subst had
  obtain ⟨g2, hg2⟩ := hp L xs hL
  have hGd : et_Gd (p, l, e, room_1, w.1, m, #[Value.ref (et_ad w 3000)], below, meth, c) w code RL 7 (some .boolean) [] room_1 :=
    ⟨hx, hb, hml, hown, et_words hsane et_Uof _, hr, hlk, hsane, et_Uof, htb, hlt, rfl⟩
  have hsc : et_Sc (p, l, e, room_1, w.1, m, #[Value.ref (et_ad w 3000)], below, meth, c) w L xs := ⟨hX, hbl, fun h => Nat.not_lt.mpr h hbl⟩
  have key : et_KV (p, l, e, room_1, w.1, m, #[Value.ref (et_ad w 3000)], below, meth, c) w 0 0 (et_Q (p, l, e, room_1, w.1, m, #[Value.ref (et_ad w 3000)], below, meth, c) w (et_eI 1) g2) 0 [some (.ref (et_ad w 3000)), none, none, none, none, none, none] [] (fun _ _ => 0) 0 := by
    generalize hXe : (p, l, e, room_1, w.1, m, #[Value.ref (et_ad w 3000)], below, meth, c) = X at hGd hsc ⊢
    have hX := hGd
    refine kz_new (pc := 0) (tyf := tyX9) hX dL_law_0 RX9 TX9 rfl iw_9 tyX9_ok tm_136 ti_9.1 ti_9.2 ly_0 df_9_0 rfl rfl ?_
    refine kz_dup (pc := 3) hX dL_law_3 rfl ?_
    refine kz_call (As := []) (pc := 4) hX dL_law_4 rfl tm_138 md_X9_init mo_X9_init (kc_Et_0 hX.sane _) rfl rfl rfl ?_
    refine kz_astore1 (pc := 7) hX dL_law_7 rfl rfl ?_
    refine kz_new (pc := 8) (tyf := tyX10) hX dL_law_8 RX10 TX10 rfl iw_10 tyX10_ok tm_1342 ti_10.1 ti_10.2 ly_61 df_10_61 rfl rfl ?_
    refine kz_dup (pc := 11) hX dL_law_11 rfl ?_
    refine kz_call (As := []) (pc := 12) hX dL_law_12 rfl tm_1344 md_X10_init mo_X10_init (kc_Mo_61 hX.sane _) rfl rfl rfl ?_
    refine kz_astore2 (pc := 15) hX dL_law_15 rfl rfl ?_
    refine kz_iconst (pc := 16) hX dL_law_16 ki_1 ?_
    refine kz_newa (pc := 17) (t0 := 3) hX dL_law_17 rfl ta_long ly_96 (et_t3 w) (tz_long 1) (by decide) (by decide) (by decide) rfl rfl ?_
    refine kz_astore3 (pc := 19) hX dL_law_19 rfl rfl ?_
    refine kz_main (u := 2000) (g0 := et_g0) (et_c0_ws w) (by decide) (by decide) ?_
    refine (?_ : et_Z X w 2000 et_eI 20 _ _ et_g0 (fn_La_law_L L xs 1000000 0 et_g0)) 1 g2 hg2
    refine zi_iconst (pc := 20) hX dL_law_20 ki_0 ?_
    refine zi_istore4 (pc := 21) hX dL_law_21 rfl rfl ?_
    exact zl_loop hX hsc hL 1000000 0 2000 0 et_g0 rfl (Nat.le_refl _) (by decide)
  have h0 := lv_entry [Value.ref (et_ad w 3000)] (n := 7) (Nat.le_of_ble_eq_true rfl)
  have hW := key hrow (fun k _ => rfl) w.1.heap [] _ rfl (fun k q hq => by simp [et_pw] at hq) va_S.rf (by rw [hml]; exact h0)
  rw [lg_entry_eq]
  intro T hT X
  obtain ⟨t, a1, oc, b1, b2, b3⟩ := hW T hT X
  refine ⟨t, a1, oc, b1, b2, ?_⟩
  rcases b3 with ⟨⟨⟨v, hv, hoc⟩, -, -⟩, Lc, hF, hLc⟩ | ⟨q, hq, hT2⟩
  · cases hv
    exact ⟨hoc, hF.1, hF.2.1, hF.2.2.weaken (fun y hy hlt => absurd hlt (Nat.not_lt.mpr (hLc y hy))) (Nat.le_refl _) (Nat.le_refl _)⟩
  · obtain ⟨E, ce, Lc, hXC, -⟩ := hT2
    obtain ⟨⟨k, hk, -⟩, -⟩ := hXC
    cases hk
set_option maxHeartbeats 4000000 in
theorem lw_walk (hp : et_HP) (l : Launch) (hlt : l.stackTraces = false) (b : Addr) (xs : List Int32) : MetFree l x (headSpec (Jvm.Cond.code x code maxLocals ret :: tables_1) room_1) (lw_P b xs) (fun _ _ _ _ _ => True) lw_Q := by
  refine MetFree.of_bodyS (code := code) (maxLocals := maxLocals) (ret := ret) (by decide) ?_ ?_
  · intro args s m h hn
    obtain ⟨meth, c, h1, h2, h3, h4, h5, h6, -, -⟩ := Cond.code_spec hn (atoms_spec (ws := Jvm.Cond.code x code maxLocals ret :: tables_1) h _ List.mem_cons_self)
    exact ⟨meth, c, h1, h2, h3, h4, h5, h6⟩
  · intro p e s m args below meth c s₁ B hml0 hP _
    obtain ⟨rfl, hx, hbd, hgv⟩ := hP
    obtain ⟨scr, harrAt, hlist, hof, hsmall⟩ := hx
    obtain ⟨hcb, hkn, -, -⟩ := State.arrayAt?_spec harrAt
    have hown : s.vm.findClass R_law = some m.cls := findClass_of_methodNamed B.named
    have hts0 : ∀ c ∈ (Jvm.Cond.code x code maxLocals ret :: tables_1), c.before #[Value.ref b] s = true := atoms_spec (ws := Jvm.Cond.code x code maxLocals ret :: tables_1) B.pre
    have hts : ∀ w ∈ lw_tbl, w.before #[Value.ref b] s = true := k2_hts_sels lw_privs (fun w hw => hts0 w (List.mem_cons_of_mem _ hw)) lw_privs_ok
    have hml : c.maxLocals = 7 := B.maxLocals_eq (hts0 _ List.mem_cons_self)
    have hemp := BodyLoose.noHandlers B (hts0 _ List.mem_cons_self)
    have htb : c.exceptionTable.toList = [] := by rw [Array.isEmpty_iff.mp hemp]
    have X₀ : Stand p l e room_1 s m #[Value.ref b] below meth c s₁ [] 0 0 := Stand.of_body B
    have hh0 : s₁.heap = s.heap := by rw [B.state]; rfl
    have hsz : scr.slots.size = xs.length := by rw [← Array.length_toList, hlist, List.length_map]
    have hval : ∀ j : Nat, j < xs.length → scr.slots[j]? = some (.int (xs.getD j 0)) := fun j hj => by
      rw [← Array.getElem?_toList, hlist]
      simp [hj]
    have hbl : b < s.heap.size := (Array.getElem?_eq_some_iff.mp hcb).1
    have hX : va_X b xs.length (fun j => xs.getD j 0) s s.heap := ⟨scr, hcb, hof, hkn, hsz, hval⟩
    have K : W p l e room_1 s m #[Value.ref b] below meth c s₁.heap [] 0 0 (lw_Z below #[Value.ref b] s) (entryFrame m ([Value.ref b] : List Value).toArray 7) := by
      rw [hh0]
      exact whole_start hp l hlt hbd ⟨B.exec, B.bytes, B.returns, hml, hown, hts, hX, hbl, B.notSynchronized, hgv, htb⟩
    obtain ⟨t, a1, o, b1, b2, b3⟩ := K s₁ rfl X₀
    exact ⟨t, o, a1, b1, b2, b3⟩
theorem lw_pre_spec {args : Array Value} {s : State} (h : (Jvm.Cond.and given_1 narrow_1).before args s = true) (hr : rest_1_c.before args s = true) : ∃ (b : Addr) (xs : List Int32), lw_P b xs args s := by
  have hs := flat_of_before _ h
  have hq := flat_of_before _ hr
  have hc : (Cond.count 1).before args s = true := hs _ (by decide +kernel)
  have harr : (Cond.arrayOf (.arg 0) .int).before args s = true := hs _ (by decide +kernel)
  have hle : (Cond.le (.length (.arg 0)) (.int 3072)).before args s = true := hs _ (by decide +kernel)
  have hlen : (Cond.isInt (.length (.arg 0))).before args s = true := hq _ (by decide +kernel)
  have hall : (Cond.all (.arg 0) (.isInt (.elem (.arg 0) (.index 0)))).before args s = true := hq _ (by decide +kernel)
  obtain ⟨b, xs, hb, hx⟩ := State.ints_of_pre rfl harr hlen hall
  have hsm : xs.length < 2 ^ 31 := hx.choose_spec.2.2.2
  have hev : (Term.length (.arg 0)).eval args s none [] s = some (.int xs.length.toInt32) := hx.length_eval hb
  have hv := Cond.le_ints hev (show (Term.int 3072).eval args s none [] s = some (.int 3072) from rfl)
  have hd : xs.length.toInt32 ≤ 3072 := by
    simpa [Cond.before, Cond.holds, hv] using hle
  have hN : xs.length ≤ 3072 := (Int32.ofNat_le_ofNat hsm (by decide)).mp (show Int32.ofNat xs.length ≤ Int32.ofNat 3072 from hd)
  exact ⟨b, xs, Cond.one_arg hc (show args[0]? = some (.ref b) from hb), hx, hN, h⟩
theorem lw_comes (hp : et_HP) (l : Launch) (hlt : l.stackTraces = false) : Comes l x (Jvm.Cond.code x code maxLocals ret :: tables_1) room_1 (fun tb e args s => Calls_1 tb e args s ∧ rest_1 tb e args s ∧ Pre_1 tb e args s)
    (fun _ _ args s o t => lw_Q args s o t) := by
  intro p e ha hc hk s m args below hf hfit hheap happ hpre
  obtain ⟨b, xs, hP⟩ := lw_pre_spec hpre.2.2 hpre.2.1
  obtain ⟨k, o, h1, h2, h3, hQ⟩ := lw_walk hp l hlt b xs p e ha hc hk s m args below hf ((Spec.applies_iff_loose hf).mp happ).1 hP trivial
  exact ⟨k, o, h1, h2, h3, hQ⟩
theorem lw_frame {s t : State} {o : Outcome} {args : Array Value} (h : Framed s o t [] 601024 7293034) :
    Framed s o t (fieldLocs frame_1_writes args s ++ arrayLocs frame_1_arrays args s ++ staticLocs frame_1_statics s) 601024 7293034 := h
theorem lw_limb (hp : et_HP) (L : Cond) (hL : ∀ (args : Array Value) (s t : State), L.after args s (.returned (some (.int 1))) t = true) :
    ArmFor flags0 classFile x code maxLocals ret World_1 tables_1 room_1 Calls_1 rest_1 Pre_1
      (fun tb e a s o t => postC L tb e a s o t ∧ Framed s o t (fieldLocs frame_1_writes a s ++ arrayLocs frame_1_arrays a s ++ staticLocs frame_1_statics s) 601024 7293034) := by
  intro l hfl _ _ p e ha hc hk s m args below hf hfit hheap happ hpre
  obtain ⟨k, o, h1, h2, h3, rfl, hF⟩ := lw_comes hp l (by unfold Launch.stackTraces; rw [hfl]; decide) p e ha hc hk s m args below hf hfit hheap happ hpre
  exact ⟨k, _, h1, h2, h3, hL args s _, lw_frame hF⟩
theorem et_vc (hp : et_HP) : Claimed_1_1 ∧ Claimed_1_2 := ⟨lw_limb hp limb_1_1 (fun args s t => by simp [limb_1_1, Cond.after, Cond.holds, Cond.value]), lw_limb hp limb_1_2 (fun args s t => Cond.after_iff.mpr (by
  first | (rw [show limb_1_2 = Cond.eq .result (.int 1) from rfl, Cond.eq_ints (x := 1) (y := 1) rfl rfl]; simp; done) | (simp [limb_1_2, Cond.value, Term.eval]; done)))⟩
