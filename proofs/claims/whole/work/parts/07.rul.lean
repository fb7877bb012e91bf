theorem et_st1 {ls : Array Slot} {n i : Nat} {lv lv2 : List (Option Value)} {v : Value} (h : lv_has ls n ((i, v) :: (et_L lv).filter (fun q => !(q.1 == i) && !(q.1 + 1 == i && q.2.category == 2)))) (hn : ∀ j v2, lv2[j]? = some (some v2) → (j = i ∧ v2 = v) ∨ (j ≠ i ∧ lv[j]? = some (some v2) ∧ (j + 1 = i → v2.category = 1))) : lv_has ls n (et_L lv2) := by
  refine ⟨h.1, h.2.1, fun q hq => h.2.2 q ?_⟩
  obtain ⟨j, v2⟩ := q
  rcases hn j v2 (et_L_mem.mp hq) with ⟨rfl, rfl⟩ | ⟨h1, h2, h3⟩
  · exact List.mem_cons_self
  · refine List.mem_cons_of_mem _ (List.mem_filter.mpr ⟨et_L_mem.mpr h2, ?_⟩)
    by_cases hj : j + 1 = i
    · simp [h1, hj, h3 hj]
    · simp [h1, hj]
theorem et_st2 {ls : Array Slot} {n i : Nat} {lv lv2 : List (Option Value)} {v : Value} (h : lv_has ls n ((i, v) :: (et_L lv).filter (fun q => !(q.1 == i) && (!(q.1 == i + 1) && !(q.1 + 1 == i && q.2.category == 2))))) (hn : ∀ j v2, lv2[j]? = some (some v2) → (j = i ∧ v2 = v) ∨ (j ≠ i ∧ j ≠ i + 1 ∧ lv[j]? = some (some v2) ∧ (j + 1 = i → v2.category = 1))) : lv_has ls n (et_L lv2) := by
  refine ⟨h.1, h.2.1, fun q hq => h.2.2 q ?_⟩
  obtain ⟨j, v2⟩ := q
  rcases hn j v2 (et_L_mem.mp hq) with ⟨rfl, rfl⟩ | ⟨h1, h0, h2, h3⟩
  · exact List.mem_cons_self
  · refine List.mem_cons_of_mem _ (List.mem_filter.mpr ⟨et_L_mem.mpr h2, ?_⟩)
    by_cases hj : j + 1 = i
    · simp [h1, h0, hj, h3 hj]
    · simp [h1, h0, hj]
section ZR
variable {α : Type} {X : et_X} {w : et_W} {u pc nL : Nat} {enc : α → et_O} {b : ByteArray} {own : String} {ret : Option FieldType} {tb : List ExceptionTableEntry} {rm : Room} {lv r : List (Option Value)} {st : List Value} {g : et_G} {o : Option (α × et_G)}
theorem zi_iconst {n : Int} {v : Int32} (hX : et_Gd X w b own nL ret tb rm) (hd : decode b pc = .ok (.iconst n, 1)) (hv : Int32.ofInt n = v) (k : et_Z X w u enc (pc + 1) lv (.int v :: st) g o) : et_Z X w u enc pc lv (st) g o := by
  obtain ⟨p, l, e, R, s, m, args, below, meth, c⟩ := X
  intro a1 g1 ho H locs ls hP hS hl
  exact lv_iconst hX.1 hX.2.1 hd hv (k a1 g1 ho H locs ls hP hS hl)
theorem zi_bipush {n : Int} {v : Int32} (hX : et_Gd X w b own nL ret tb rm) (hd : decode b pc = .ok (.bipush n, 2)) (hv : (Int8.ofInt n).toInt32 = v) (k : et_Z X w u enc (pc + 2) lv (.int v :: st) g o) : et_Z X w u enc pc lv (st) g o := by
  obtain ⟨p, l, e, R, s, m, args, below, meth, c⟩ := X
  intro a1 g1 ho H locs ls hP hS hl
  exact lv_bipush hX.1 hX.2.1 hd hv (k a1 g1 ho H locs ls hP hS hl)
theorem zi_sipush {n : Int} {v : Int32} (hX : et_Gd X w b own nL ret tb rm) (hd : decode b pc = .ok (.sipush n, 3)) (hv : (Int16.ofInt n).toInt32 = v) (k : et_Z X w u enc (pc + 3) lv (.int v :: st) g o) : et_Z X w u enc pc lv (st) g o := by
  obtain ⟨p, l, e, R, s, m, args, below, meth, c⟩ := X
  intro a1 g1 ho H locs ls hP hS hl
  exact lv_sipush hX.1 hX.2.1 hd hv (k a1 g1 ho H locs ls hP hS hl)
theorem zi_lconst {n : Fin 2} {v : Int64} (hX : et_Gd X w b own nL ret tb rm) (hd : decode b pc = .ok (.lconst n, 1)) (hv : Int64.ofNat (n : Nat) = v) (k : et_Z X w u enc (pc + 1) lv (.long v :: st) g o) : et_Z X w u enc pc lv (st) g o := by
  obtain ⟨p, l, e, R, s, m, args, below, meth, c⟩ := X
  intro a1 g1 ho H locs ls hP hS hl
  exact lv_lconst hX.1 hX.2.1 hd hv (k a1 g1 ho H locs ls hP hS hl)
theorem zi_ldc {idx : Nat} {v : Int32} (hX : et_Gd X w b own nL ret tb rm) (hd : decode b pc = .ok (.ldc idx, 2)) (hm : Cond.constant own idx v ∈ et_tb) (k : et_Z X w u enc (pc + 2) lv (.int v :: st) g o) : et_Z X w u enc pc lv (st) g o := by
  obtain ⟨p, l, e, R, s, m, args, below, meth, c⟩ := X
  intro a1 g1 ho H locs ls hP hS hl
  exact lv_ldc hX.1 hX.2.1 hX.2.2.2.1 (hX.2.2.2.2.1 _ hm) hd (k a1 g1 ho H locs ls hP hS hl)
theorem zi_ldcw {idx : Nat} {v : Int32} (hX : et_Gd X w b own nL ret tb rm) (hd : decode b pc = .ok (.ldc_w idx, 3)) (hm : Cond.constant own idx v ∈ et_tb) (k : et_Z X w u enc (pc + 3) lv (.int v :: st) g o) : et_Z X w u enc pc lv (st) g o := by
  obtain ⟨p, l, e, R, s, m, args, below, meth, c⟩ := X
  intro a1 g1 ho H locs ls hP hS hl
  exact lv_ldcw hX.1 hX.2.1 hX.2.2.2.1 (hX.2.2.2.2.1 _ hm) hd (k a1 g1 ho H locs ls hP hS hl)
theorem zi_ldc2 {idx : Nat} {v : Int64} (hX : et_Gd X w b own nL ret tb rm) (hd : decode b pc = .ok (.ldc2_w idx, 3)) (hm : Cond.constantLong own idx v ∈ et_tb) (k : et_Z X w u enc (pc + 3) lv (.long v :: st) g o) : et_Z X w u enc pc lv (st) g o := by
  obtain ⟨p, l, e, R, s, m, args, below, meth, c⟩ := X
  intro a1 g1 ho H locs ls hP hS hl
  exact lv_ldc2 hX.1 hX.2.1 hX.2.2.2.1 (hX.2.2.2.2.1 _ hm) hd (k a1 g1 ho H locs ls hP hS hl)
theorem zi_iadd {x y : Int32} (hX : et_Gd X w b own nL ret tb rm) (hd : decode b pc = .ok (.iadd, 1)) (k : et_Z X w u enc (pc + 1) lv (.int (x + y) :: st) g o) : et_Z X w u enc pc lv (.int y :: .int x :: st) g o := by
  obtain ⟨p, l, e, R, s, m, args, below, meth, c⟩ := X
  intro a1 g1 ho H locs ls hP hS hl
  exact lv_iadd hX.1 hX.2.1 hd (k a1 g1 ho H locs ls hP hS hl)
theorem zi_isub {x y : Int32} (hX : et_Gd X w b own nL ret tb rm) (hd : decode b pc = .ok (.isub, 1)) (k : et_Z X w u enc (pc + 1) lv (.int (x - y) :: st) g o) : et_Z X w u enc pc lv (.int y :: .int x :: st) g o := by
  obtain ⟨p, l, e, R, s, m, args, below, meth, c⟩ := X
  intro a1 g1 ho H locs ls hP hS hl
  exact lv_isub hX.1 hX.2.1 hd (k a1 g1 ho H locs ls hP hS hl)
theorem zi_imul {x y : Int32} (hX : et_Gd X w b own nL ret tb rm) (hd : decode b pc = .ok (.imul, 1)) (k : et_Z X w u enc (pc + 1) lv (.int (x * y) :: st) g o) : et_Z X w u enc pc lv (.int y :: .int x :: st) g o := by
  obtain ⟨p, l, e, R, s, m, args, below, meth, c⟩ := X
  intro a1 g1 ho H locs ls hP hS hl
  exact lv_imul hX.1 hX.2.1 hd (k a1 g1 ho H locs ls hP hS hl)
theorem zi_iand {x y : Int32} (hX : et_Gd X w b own nL ret tb rm) (hd : decode b pc = .ok (.iand, 1)) (k : et_Z X w u enc (pc + 1) lv (.int (x &&& y) :: st) g o) : et_Z X w u enc pc lv (.int y :: .int x :: st) g o := by
  obtain ⟨p, l, e, R, s, m, args, below, meth, c⟩ := X
  intro a1 g1 ho H locs ls hP hS hl
  exact lv_iand hX.1 hX.2.1 hd (k a1 g1 ho H locs ls hP hS hl)
theorem zi_ior {x y : Int32} (hX : et_Gd X w b own nL ret tb rm) (hd : decode b pc = .ok (.ior, 1)) (k : et_Z X w u enc (pc + 1) lv (.int (x ||| y) :: st) g o) : et_Z X w u enc pc lv (.int y :: .int x :: st) g o := by
  obtain ⟨p, l, e, R, s, m, args, below, meth, c⟩ := X
  intro a1 g1 ho H locs ls hP hS hl
  exact lv_ior hX.1 hX.2.1 hd (k a1 g1 ho H locs ls hP hS hl)
theorem zi_ixor {x y : Int32} (hX : et_Gd X w b own nL ret tb rm) (hd : decode b pc = .ok (.ixor, 1)) (k : et_Z X w u enc (pc + 1) lv (.int (x ^^^ y) :: st) g o) : et_Z X w u enc pc lv (.int y :: .int x :: st) g o := by
  obtain ⟨p, l, e, R, s, m, args, below, meth, c⟩ := X
  intro a1 g1 ho H locs ls hP hS hl
  exact lv_ixor hX.1 hX.2.1 hd (k a1 g1 ho H locs ls hP hS hl)
theorem zi_ishl {x y : Int32} (hX : et_Gd X w b own nL ret tb rm) (hd : decode b pc = .ok (.ishl, 1)) (k : et_Z X w u enc (pc + 1) lv (.int (x <<< (y &&& 31)) :: st) g o) : et_Z X w u enc pc lv (.int y :: .int x :: st) g o := by
  obtain ⟨p, l, e, R, s, m, args, below, meth, c⟩ := X
  intro a1 g1 ho H locs ls hP hS hl
  exact lv_ishl hX.1 hX.2.1 hd (k a1 g1 ho H locs ls hP hS hl)
theorem zi_ishr {x y : Int32} (hX : et_Gd X w b own nL ret tb rm) (hd : decode b pc = .ok (.ishr, 1)) (k : et_Z X w u enc (pc + 1) lv (.int (x >>> (y &&& 31)) :: st) g o) : et_Z X w u enc pc lv (.int y :: .int x :: st) g o := by
  obtain ⟨p, l, e, R, s, m, args, below, meth, c⟩ := X
  intro a1 g1 ho H locs ls hP hS hl
  exact lv_ishr hX.1 hX.2.1 hd (k a1 g1 ho H locs ls hP hS hl)
theorem zi_idiv {x y : Int32} (hX : et_Gd X w b own nL ret tb rm) (hd : decode b pc = .ok (.idiv, 1)) (hne : ¬ y = 0) (k : et_Z X w u enc (pc + 1) lv (.int (x / y) :: st) g o) : et_Z X w u enc pc lv (.int y :: .int x :: st) g o := by
  obtain ⟨p, l, e, R, s, m, args, below, meth, c⟩ := X
  intro a1 g1 ho H locs ls hP hS hl
  exact lv_idiv hX.1 hX.2.1 hd hne (k a1 g1 ho H locs ls hP hS hl)
theorem zi_irem {x y : Int32} (hX : et_Gd X w b own nL ret tb rm) (hd : decode b pc = .ok (.irem, 1)) (hne : ¬ y = 0) (k : et_Z X w u enc (pc + 1) lv (.int (x - x / y * y) :: st) g o) : et_Z X w u enc pc lv (.int y :: .int x :: st) g o := by
  obtain ⟨p, l, e, R, s, m, args, below, meth, c⟩ := X
  intro a1 g1 ho H locs ls hP hS hl
  exact lv_irem hX.1 hX.2.1 hd hne (k a1 g1 ho H locs ls hP hS hl)
theorem zi_ladd {x y : Int64} (hX : et_Gd X w b own nL ret tb rm) (hd : decode b pc = .ok (.ladd, 1)) (k : et_Z X w u enc (pc + 1) lv (.long (x + y) :: st) g o) : et_Z X w u enc pc lv (.long y :: .long x :: st) g o := by
  obtain ⟨p, l, e, R, s, m, args, below, meth, c⟩ := X
  intro a1 g1 ho H locs ls hP hS hl
  exact lv_ladd hX.1 hX.2.1 hd (k a1 g1 ho H locs ls hP hS hl)
theorem zi_lsub {x y : Int64} (hX : et_Gd X w b own nL ret tb rm) (hd : decode b pc = .ok (.lsub, 1)) (k : et_Z X w u enc (pc + 1) lv (.long (x - y) :: st) g o) : et_Z X w u enc pc lv (.long y :: .long x :: st) g o := by
  obtain ⟨p, l, e, R, s, m, args, below, meth, c⟩ := X
  intro a1 g1 ho H locs ls hP hS hl
  exact lv_lsub hX.1 hX.2.1 hd (k a1 g1 ho H locs ls hP hS hl)
theorem zi_lmul {x y : Int64} (hX : et_Gd X w b own nL ret tb rm) (hd : decode b pc = .ok (.lmul, 1)) (k : et_Z X w u enc (pc + 1) lv (.long (x * y) :: st) g o) : et_Z X w u enc pc lv (.long y :: .long x :: st) g o := by
  obtain ⟨p, l, e, R, s, m, args, below, meth, c⟩ := X
  intro a1 g1 ho H locs ls hP hS hl
  exact lv_lmul hX.1 hX.2.1 hd (k a1 g1 ho H locs ls hP hS hl)
theorem zi_lor {x y : Int64} (hX : et_Gd X w b own nL ret tb rm) (hd : decode b pc = .ok (.lor, 1)) (k : et_Z X w u enc (pc + 1) lv (.long (x ||| y) :: st) g o) : et_Z X w u enc pc lv (.long y :: .long x :: st) g o := by
  obtain ⟨p, l, e, R, s, m, args, below, meth, c⟩ := X
  intro a1 g1 ho H locs ls hP hS hl
  exact lv_lor hX.1 hX.2.1 hd (k a1 g1 ho H locs ls hP hS hl)
theorem zi_iushr {x y : Int32} (hX : et_Gd X w b own nL ret tb rm) (hd : decode b pc = .ok (.iushr, 1)) (k : et_Z X w u enc (pc + 1) lv (.int (et_us x y) :: st) g o) : et_Z X w u enc pc lv (.int y :: .int x :: st) g o := by
  obtain ⟨p, l, e, R, s, m, args, below, meth, c⟩ := X
  intro a1 g1 ho H locs ls hP hS hl
  exact lv_iushr hX.1 hX.2.1 hd rfl (k a1 g1 ho H locs ls hP hS hl)
theorem zi_lshl {x : Int64} {y : Int32} (hX : et_Gd X w b own nL ret tb rm) (hd : decode b pc = .ok (.lshl, 1)) (k : et_Z X w u enc (pc + 1) lv (.long (x <<< (y.toInt64 &&& 63)) :: st) g o) : et_Z X w u enc pc lv (.int y :: .long x :: st) g o := by
  obtain ⟨p, l, e, R, s, m, args, below, meth, c⟩ := X
  intro a1 g1 ho H locs ls hP hS hl
  exact lv_lshl hX.1 hX.2.1 hd rfl (k a1 g1 ho H locs ls hP hS hl)
theorem zi_lcmp {x y : Int64} (hX : et_Gd X w b own nL ret tb rm) (hd : decode b pc = .ok (.lcmp, 1)) (k : et_Z X w u enc (pc + 1) lv (.int (lg_cmp x y) :: st) g o) : et_Z X w u enc pc lv (.long y :: .long x :: st) g o := by
  obtain ⟨p, l, e, R, s, m, args, below, meth, c⟩ := X
  intro a1 g1 ho H locs ls hP hS hl
  exact W.lcmp hX.1 hX.2.1 hd (k a1 g1 ho H locs ls hP hS hl)
theorem zi_i2l {x : Int32} (hX : et_Gd X w b own nL ret tb rm) (hd : decode b pc = .ok (.i2l, 1)) (k : et_Z X w u enc (pc + 1) lv (.long x.toInt64 :: st) g o) : et_Z X w u enc pc lv (.int x :: st) g o := by
  obtain ⟨p, l, e, R, s, m, args, below, meth, c⟩ := X
  intro a1 g1 ho H locs ls hP hS hl
  exact lv_i2l hX.1 hX.2.1 hd rfl (k a1 g1 ho H locs ls hP hS hl)
theorem zi_l2i {x : Int64} (hX : et_Gd X w b own nL ret tb rm) (hd : decode b pc = .ok (.l2i, 1)) (k : et_Z X w u enc (pc + 1) lv (.int x.toInt32 :: st) g o) : et_Z X w u enc pc lv (.long x :: st) g o := by
  obtain ⟨p, l, e, R, s, m, args, below, meth, c⟩ := X
  intro a1 g1 ho H locs ls hP hS hl
  exact lv_l2i hX.1 hX.2.1 hd rfl (k a1 g1 ho H locs ls hP hS hl)
theorem zi_i2b {x : Int32} (hX : et_Gd X w b own nL ret tb rm) (hd : decode b pc = .ok (.i2b, 1)) (k : et_Z X w u enc (pc + 1) lv (.int x.toInt8.toInt32 :: st) g o) : et_Z X w u enc pc lv (.int x :: st) g o := by
  obtain ⟨p, l, e, R, s, m, args, below, meth, c⟩ := X
  intro a1 g1 ho H locs ls hP hS hl
  exact lv_i2b hX.1 hX.2.1 hd rfl (k a1 g1 ho H locs ls hP hS hl)
theorem zi_i2c {x : Int32} (hX : et_Gd X w b own nL ret tb rm) (hd : decode b pc = .ok (.i2c, 1)) (k : et_Z X w u enc (pc + 1) lv (.int (x.toUInt32 % 65536).toInt32 :: st) g o) : et_Z X w u enc pc lv (.int x :: st) g o := by
  obtain ⟨p, l, e, R, s, m, args, below, meth, c⟩ := X
  intro a1 g1 ho H locs ls hP hS hl
  exact lv_i2c hX.1 hX.2.1 hd rfl (k a1 g1 ho H locs ls hP hS hl)
theorem zi_dup {va : Value} (hX : et_Gd X w b own nL ret tb rm) (hd : decode b pc = .ok (.dup, 1)) (hc : va.category = 1) (k : et_Z X w u enc (pc + 1) lv (va :: va :: st) g o) : et_Z X w u enc pc lv (va :: st) g o := by
  obtain ⟨p, l, e, R, s, m, args, below, meth, c⟩ := X
  intro a1 g1 ho H locs ls hP hS hl
  exact lv_dup hX.1 hX.2.1 hd hc (k a1 g1 ho H locs ls hP hS hl)
theorem zi_pop {va : Value} (hX : et_Gd X w b own nL ret tb rm) (hd : decode b pc = .ok (.pop, 1)) (hc : va.category = 1) (k : et_Z X w u enc (pc + 1) lv (st) g o) : et_Z X w u enc pc lv (va :: st) g o := by
  obtain ⟨p, l, e, R, s, m, args, below, meth, c⟩ := X
  intro a1 g1 ho H locs ls hP hS hl
  exact lv_pop hX.1 hX.2.1 hd hc (k a1 g1 ho H locs ls hP hS hl)
theorem zi_dup2 {va vb : Value} (hX : et_Gd X w b own nL ret tb rm) (hd : decode b pc = .ok (.dup2, 1)) (hc : va.category = 1) (hc2 : vb.category = 1) (k : et_Z X w u enc (pc + 1) lv (va :: vb :: va :: vb :: st) g o) : et_Z X w u enc pc lv (va :: vb :: st) g o := by
  obtain ⟨p, l, e, R, s, m, args, below, meth, c⟩ := X
  intro a1 g1 ho H locs ls hP hS hl
  exact lv_dup2_11 hX.1 hX.2.1 hd hc hc2 (k a1 g1 ho H locs ls hP hS hl)
theorem zi_goto {off : Int} (tgt : Nat) (hX : et_Gd X w b own nL ret tb rm) (hd : decode b pc = .ok (.goto off, 3)) (ht : (pc : Int) + off = (tgt : Int)) (k : et_Z X w u enc tgt lv st g o) : et_Z X w u enc pc lv st g o := by
  obtain ⟨p, l, e, R, s, m, args, below, meth, c⟩ := X
  intro a1 g1 ho H locs ls hP hS hl
  exact lv_goto hX.1 hX.2.1 hd ht (k a1 g1 ho H locs ls hP hS hl)
/-- a case without a step -/
theorem zi_ite {c : Prop} {i1 : Decidable c} {o1 o2 : Option (α × et_G)} (h1 : c → et_Z X w u enc pc lv st g o1) (h2 : ¬ c → et_Z X w u enc pc lv st g o2) : et_Z X w u enc pc lv st g (if c then o1 else o2) := by
  by_cases h : c
  · rw [if_pos h]; exact h1 h
  · rw [if_neg h]; exact h2 h
theorem zi_if_eq {x : Int32} {off : Int} {i1 : Decidable (x = 0)} {o1 o2 : Option (α × et_G)} (tgt : Nat) (hX : et_Gd X w b own nL ret tb rm) (hd : decode b pc = .ok (.ifCond .eq off, 3)) (ht : (pc : Int) + off = (tgt : Int)) (kt : x = 0 → et_Z X w u enc tgt lv st g o1) (kf : ¬ (x = 0) → et_Z X w u enc (pc + 3) lv st g o2) : et_Z X w u enc pc lv (.int x :: st) g (if x = 0 then o1 else o2) := by
  refine zi_ite (fun h => ?_) (fun h => ?_)
  · obtain ⟨p, l, e, R, s, m, args, below, meth, c⟩ := X
    intro a1 g1 ho H locs ls hP hS hl
    exact lv_if_eq hX.1 hX.2.1 hd ht (fun _ => kt h a1 g1 ho H locs ls hP hS hl) (fun h2 => absurd h h2)
  · obtain ⟨p, l, e, R, s, m, args, below, meth, c⟩ := X
    intro a1 g1 ho H locs ls hP hS hl
    exact lv_if_eq hX.1 hX.2.1 hd ht (fun h2 => absurd h2 h) (fun _ => kf h a1 g1 ho H locs ls hP hS hl)
theorem zi_if_ne {x : Int32} {off : Int} {i1 : Decidable (x = 0)} {o1 o2 : Option (α × et_G)} (tgt : Nat) (hX : et_Gd X w b own nL ret tb rm) (hd : decode b pc = .ok (.ifCond .ne off, 3)) (ht : (pc : Int) + off = (tgt : Int)) (kf : x = 0 → et_Z X w u enc (pc + 3) lv st g o1) (kt : ¬ (x = 0) → et_Z X w u enc tgt lv st g o2) : et_Z X w u enc pc lv (.int x :: st) g (if x = 0 then o1 else o2) := by
  refine zi_ite (fun h => ?_) (fun h => ?_)
  · obtain ⟨p, l, e, R, s, m, args, below, meth, c⟩ := X
    intro a1 g1 ho H locs ls hP hS hl
    exact lv_if_ne hX.1 hX.2.1 hd ht (fun h2 => absurd h h2) (fun _ => kf h a1 g1 ho H locs ls hP hS hl)
  · obtain ⟨p, l, e, R, s, m, args, below, meth, c⟩ := X
    intro a1 g1 ho H locs ls hP hS hl
    exact lv_if_ne hX.1 hX.2.1 hd ht (fun _ => kt h a1 g1 ho H locs ls hP hS hl) (fun h2 => absurd h2 h)
theorem zi_if_lt {x : Int32} {off : Int} {i1 : Decidable (x < 0)} {o1 o2 : Option (α × et_G)} (tgt : Nat) (hX : et_Gd X w b own nL ret tb rm) (hd : decode b pc = .ok (.ifCond .lt off, 3)) (ht : (pc : Int) + off = (tgt : Int)) (kt : x < 0 → et_Z X w u enc tgt lv st g o1) (kf : ¬ (x < 0) → et_Z X w u enc (pc + 3) lv st g o2) : et_Z X w u enc pc lv (.int x :: st) g (if x < 0 then o1 else o2) := by
  refine zi_ite (fun h => ?_) (fun h => ?_)
  · obtain ⟨p, l, e, R, s, m, args, below, meth, c⟩ := X
    intro a1 g1 ho H locs ls hP hS hl
    exact lv_if_lt hX.1 hX.2.1 hd ht (fun _ => kt h a1 g1 ho H locs ls hP hS hl) (fun h2 => absurd h h2)
  · obtain ⟨p, l, e, R, s, m, args, below, meth, c⟩ := X
    intro a1 g1 ho H locs ls hP hS hl
    exact lv_if_lt hX.1 hX.2.1 hd ht (fun h2 => absurd h2 h) (fun _ => kf h a1 g1 ho H locs ls hP hS hl)
theorem zi_if_ge {x : Int32} {off : Int} {i1 : Decidable (0 ≤ x)} {o1 o2 : Option (α × et_G)} (tgt : Nat) (hX : et_Gd X w b own nL ret tb rm) (hd : decode b pc = .ok (.ifCond .ge off, 3)) (ht : (pc : Int) + off = (tgt : Int)) (kt : 0 ≤ x → et_Z X w u enc tgt lv st g o1) (kf : ¬ (0 ≤ x) → et_Z X w u enc (pc + 3) lv st g o2) : et_Z X w u enc pc lv (.int x :: st) g (if 0 ≤ x then o1 else o2) := by
  refine zi_ite (fun h => ?_) (fun h => ?_)
  · obtain ⟨p, l, e, R, s, m, args, below, meth, c⟩ := X
    intro a1 g1 ho H locs ls hP hS hl
    exact lv_if_ge hX.1 hX.2.1 hd ht (fun _ => kt h a1 g1 ho H locs ls hP hS hl) (fun h2 => absurd h h2)
  · obtain ⟨p, l, e, R, s, m, args, below, meth, c⟩ := X
    intro a1 g1 ho H locs ls hP hS hl
    exact lv_if_ge hX.1 hX.2.1 hd ht (fun h2 => absurd h2 h) (fun _ => kf h a1 g1 ho H locs ls hP hS hl)
theorem zi_if_gt {x : Int32} {off : Int} {i1 : Decidable (0 < x)} {o1 o2 : Option (α × et_G)} (tgt : Nat) (hX : et_Gd X w b own nL ret tb rm) (hd : decode b pc = .ok (.ifCond .gt off, 3)) (ht : (pc : Int) + off = (tgt : Int)) (kt : 0 < x → et_Z X w u enc tgt lv st g o1) (kf : ¬ (0 < x) → et_Z X w u enc (pc + 3) lv st g o2) : et_Z X w u enc pc lv (.int x :: st) g (if 0 < x then o1 else o2) := by
  refine zi_ite (fun h => ?_) (fun h => ?_)
  · obtain ⟨p, l, e, R, s, m, args, below, meth, c⟩ := X
    intro a1 g1 ho H locs ls hP hS hl
    exact lv_if_gt hX.1 hX.2.1 hd ht (fun _ => kt h a1 g1 ho H locs ls hP hS hl) (fun h2 => absurd h h2)
  · obtain ⟨p, l, e, R, s, m, args, below, meth, c⟩ := X
    intro a1 g1 ho H locs ls hP hS hl
    exact lv_if_gt hX.1 hX.2.1 hd ht (fun h2 => absurd h2 h) (fun _ => kf h a1 g1 ho H locs ls hP hS hl)
theorem zi_if_le {x : Int32} {off : Int} {i1 : Decidable (x ≤ 0)} {o1 o2 : Option (α × et_G)} (tgt : Nat) (hX : et_Gd X w b own nL ret tb rm) (hd : decode b pc = .ok (.ifCond .le off, 3)) (ht : (pc : Int) + off = (tgt : Int)) (kt : x ≤ 0 → et_Z X w u enc tgt lv st g o1) (kf : ¬ (x ≤ 0) → et_Z X w u enc (pc + 3) lv st g o2) : et_Z X w u enc pc lv (.int x :: st) g (if x ≤ 0 then o1 else o2) := by
  refine zi_ite (fun h => ?_) (fun h => ?_)
  · obtain ⟨p, l, e, R, s, m, args, below, meth, c⟩ := X
    intro a1 g1 ho H locs ls hP hS hl
    exact lv_if_le hX.1 hX.2.1 hd ht (fun _ => kt h a1 g1 ho H locs ls hP hS hl) (fun h2 => absurd h h2)
  · obtain ⟨p, l, e, R, s, m, args, below, meth, c⟩ := X
    intro a1 g1 ho H locs ls hP hS hl
    exact lv_if_le hX.1 hX.2.1 hd ht (fun h2 => absurd h2 h) (fun _ => kf h a1 g1 ho H locs ls hP hS hl)
theorem zi_icmp_eq {x y : Int32} {off : Int} {i1 : Decidable (x = y)} {o1 o2 : Option (α × et_G)} (tgt : Nat) (hX : et_Gd X w b own nL ret tb rm) (hd : decode b pc = .ok (.if_icmp .eq off, 3)) (ht : (pc : Int) + off = (tgt : Int)) (kt : x = y → et_Z X w u enc tgt lv st g o1) (kf : ¬ (x = y) → et_Z X w u enc (pc + 3) lv st g o2) : et_Z X w u enc pc lv (.int y :: .int x :: st) g (if x = y then o1 else o2) := by
  refine zi_ite (fun h => ?_) (fun h => ?_)
  · obtain ⟨p, l, e, R, s, m, args, below, meth, c⟩ := X
    intro a1 g1 ho H locs ls hP hS hl
    exact lv_icmp_eq hX.1 hX.2.1 hd ht (fun _ => kt h a1 g1 ho H locs ls hP hS hl) (fun h2 => absurd h h2)
  · obtain ⟨p, l, e, R, s, m, args, below, meth, c⟩ := X
    intro a1 g1 ho H locs ls hP hS hl
    exact lv_icmp_eq hX.1 hX.2.1 hd ht (fun h2 => absurd h2 h) (fun _ => kf h a1 g1 ho H locs ls hP hS hl)
theorem zi_icmp_ne {x y : Int32} {off : Int} {i1 : Decidable (x = y)} {o1 o2 : Option (α × et_G)} (tgt : Nat) (hX : et_Gd X w b own nL ret tb rm) (hd : decode b pc = .ok (.if_icmp .ne off, 3)) (ht : (pc : Int) + off = (tgt : Int)) (kf : x = y → et_Z X w u enc (pc + 3) lv st g o1) (kt : ¬ (x = y) → et_Z X w u enc tgt lv st g o2) : et_Z X w u enc pc lv (.int y :: .int x :: st) g (if x = y then o1 else o2) := by
  refine zi_ite (fun h => ?_) (fun h => ?_)
  · obtain ⟨p, l, e, R, s, m, args, below, meth, c⟩ := X
    intro a1 g1 ho H locs ls hP hS hl
    exact lv_icmp_ne hX.1 hX.2.1 hd ht (fun h2 => absurd h h2) (fun _ => kf h a1 g1 ho H locs ls hP hS hl)
  · obtain ⟨p, l, e, R, s, m, args, below, meth, c⟩ := X
    intro a1 g1 ho H locs ls hP hS hl
    exact lv_icmp_ne hX.1 hX.2.1 hd ht (fun _ => kt h a1 g1 ho H locs ls hP hS hl) (fun h2 => absurd h2 h)
theorem zi_icmp_lt {x y : Int32} {off : Int} {i1 : Decidable (x < y)} {o1 o2 : Option (α × et_G)} (tgt : Nat) (hX : et_Gd X w b own nL ret tb rm) (hd : decode b pc = .ok (.if_icmp .lt off, 3)) (ht : (pc : Int) + off = (tgt : Int)) (kt : x < y → et_Z X w u enc tgt lv st g o1) (kf : ¬ (x < y) → et_Z X w u enc (pc + 3) lv st g o2) : et_Z X w u enc pc lv (.int y :: .int x :: st) g (if x < y then o1 else o2) := by
  refine zi_ite (fun h => ?_) (fun h => ?_)
  · obtain ⟨p, l, e, R, s, m, args, below, meth, c⟩ := X
    intro a1 g1 ho H locs ls hP hS hl
    exact lv_icmp_lt hX.1 hX.2.1 hd ht (fun _ => kt h a1 g1 ho H locs ls hP hS hl) (fun h2 => absurd h h2)
  · obtain ⟨p, l, e, R, s, m, args, below, meth, c⟩ := X
    intro a1 g1 ho H locs ls hP hS hl
    exact lv_icmp_lt hX.1 hX.2.1 hd ht (fun h2 => absurd h2 h) (fun _ => kf h a1 g1 ho H locs ls hP hS hl)
theorem zi_icmp_ge {x y : Int32} {off : Int} {i1 : Decidable (y ≤ x)} {o1 o2 : Option (α × et_G)} (tgt : Nat) (hX : et_Gd X w b own nL ret tb rm) (hd : decode b pc = .ok (.if_icmp .ge off, 3)) (ht : (pc : Int) + off = (tgt : Int)) (kt : y ≤ x → et_Z X w u enc tgt lv st g o1) (kf : ¬ (y ≤ x) → et_Z X w u enc (pc + 3) lv st g o2) : et_Z X w u enc pc lv (.int y :: .int x :: st) g (if y ≤ x then o1 else o2) := by
  refine zi_ite (fun h => ?_) (fun h => ?_)
  · obtain ⟨p, l, e, R, s, m, args, below, meth, c⟩ := X
    intro a1 g1 ho H locs ls hP hS hl
    exact lv_icmp_ge hX.1 hX.2.1 hd ht (fun _ => kt h a1 g1 ho H locs ls hP hS hl) (fun h2 => absurd h h2)
  · obtain ⟨p, l, e, R, s, m, args, below, meth, c⟩ := X
    intro a1 g1 ho H locs ls hP hS hl
    exact lv_icmp_ge hX.1 hX.2.1 hd ht (fun h2 => absurd h2 h) (fun _ => kf h a1 g1 ho H locs ls hP hS hl)
theorem zi_icmp_gt {x y : Int32} {off : Int} {i1 : Decidable (y < x)} {o1 o2 : Option (α × et_G)} (tgt : Nat) (hX : et_Gd X w b own nL ret tb rm) (hd : decode b pc = .ok (.if_icmp .gt off, 3)) (ht : (pc : Int) + off = (tgt : Int)) (kt : y < x → et_Z X w u enc tgt lv st g o1) (kf : ¬ (y < x) → et_Z X w u enc (pc + 3) lv st g o2) : et_Z X w u enc pc lv (.int y :: .int x :: st) g (if y < x then o1 else o2) := by
  refine zi_ite (fun h => ?_) (fun h => ?_)
  · obtain ⟨p, l, e, R, s, m, args, below, meth, c⟩ := X
    intro a1 g1 ho H locs ls hP hS hl
    exact lv_icmp_gt hX.1 hX.2.1 hd ht (fun _ => kt h a1 g1 ho H locs ls hP hS hl) (fun h2 => absurd h h2)
  · obtain ⟨p, l, e, R, s, m, args, below, meth, c⟩ := X
    intro a1 g1 ho H locs ls hP hS hl
    exact lv_icmp_gt hX.1 hX.2.1 hd ht (fun h2 => absurd h2 h) (fun _ => kf h a1 g1 ho H locs ls hP hS hl)
theorem zi_icmp_le {x y : Int32} {off : Int} {i1 : Decidable (x ≤ y)} {o1 o2 : Option (α × et_G)} (tgt : Nat) (hX : et_Gd X w b own nL ret tb rm) (hd : decode b pc = .ok (.if_icmp .le off, 3)) (ht : (pc : Int) + off = (tgt : Int)) (kt : x ≤ y → et_Z X w u enc tgt lv st g o1) (kf : ¬ (x ≤ y) → et_Z X w u enc (pc + 3) lv st g o2) : et_Z X w u enc pc lv (.int y :: .int x :: st) g (if x ≤ y then o1 else o2) := by
  refine zi_ite (fun h => ?_) (fun h => ?_)
  · obtain ⟨p, l, e, R, s, m, args, below, meth, c⟩ := X
    intro a1 g1 ho H locs ls hP hS hl
    exact lv_icmp_le hX.1 hX.2.1 hd ht (fun _ => kt h a1 g1 ho H locs ls hP hS hl) (fun h2 => absurd h h2)
  · obtain ⟨p, l, e, R, s, m, args, below, meth, c⟩ := X
    intro a1 g1 ho H locs ls hP hS hl
    exact lv_icmp_le hX.1 hX.2.1 hd ht (fun h2 => absurd h2 h) (fun _ => kf h a1 g1 ho H locs ls hP hS hl)
theorem zi_iload0 {x : Int32} (hX : et_Gd X w b own nL ret tb rm) (hd : decode b pc = .ok (.iload_n 0, 1)) (k : et_Z X w u enc (pc + 1) (some (.int x) :: r) (.int x :: st) g o) : et_Z X w u enc pc (some (.int x) :: r) st g o := by
  obtain ⟨p, l, e, R, s, m, args, below, meth, c⟩ := X
  intro a1 g1 ho H locs ls hP hS hl
  exact lv_iload_n hX.1 hX.2.1 hd rfl (hl.2.2 (0, _) (et_L_mem.mpr rfl)) (k a1 g1 ho H locs ls hP hS hl)
theorem zi_lload0 {x : Int64} (hX : et_Gd X w b own nL ret tb rm) (hd : decode b pc = .ok (.lload_n 0, 1)) (k : et_Z X w u enc (pc + 1) (some (.long x) :: r) (.long x :: st) g o) : et_Z X w u enc pc (some (.long x) :: r) st g o := by
  obtain ⟨p, l, e, R, s, m, args, below, meth, c⟩ := X
  intro a1 g1 ho H locs ls hP hS hl
  exact lv_lload_n hX.1 hX.2.1 hd rfl (hl.2.2 (0, _) (et_L_mem.mpr rfl)) (k a1 g1 ho H locs ls hP hS hl)
theorem zi_aload0 {x : Nat} (hX : et_Gd X w b own nL ret tb rm) (hd : decode b pc = .ok (.aload_n 0, 1)) (k : et_Z X w u enc (pc + 1) (some (.ref x) :: r) (.ref x :: st) g o) : et_Z X w u enc pc (some (.ref x) :: r) st g o := by
  obtain ⟨p, l, e, R, s, m, args, below, meth, c⟩ := X
  intro a1 g1 ho H locs ls hP hS hl
  exact lv_aload_n hX.1 hX.2.1 hd rfl (hl.2.2 (0, _) (et_L_mem.mpr rfl)) (k a1 g1 ho H locs ls hP hS hl)
theorem zi_istore0 {z : Option Value} {x : Int32} (hX : et_Gd X w b own nL ret tb rm) (hd : decode b pc = .ok (.istore_n 0, 1)) (hn : Nat.ble 1 nL = true) (k : et_Z X w u enc (pc + 1) (some (.int x) :: r) st g o) : et_Z X w u enc pc (z :: r) (.int x :: st) g o := by
  obtain ⟨p, l, e, R, s, m, args, below, meth, c⟩ := X
  intro az g1 ho H locs ls hP hS hl
  refine lv_istore_n hX.1 hX.2.1 hd rfl hl (by rw [hX.2.2.1]; exact Nat.le_of_ble_eq_true hn) rfl (fun ls2 h2 => k az g1 ho H locs ls2 hP hS (et_st1 h2 fun j v2 hj => ?_))
  match j with
    | 0 => exact Or.inl ⟨rfl, (Option.some.inj (Option.some.inj hj)).symm⟩
    | j + 1 => exact Or.inr ⟨by omega, hj, fun h => by omega⟩
theorem zi_astore0 {z : Option Value} {x : Nat} (hX : et_Gd X w b own nL ret tb rm) (hd : decode b pc = .ok (.astore_n 0, 1)) (hn : Nat.ble 1 nL = true) (k : et_Z X w u enc (pc + 1) (some (.ref x) :: r) st g o) : et_Z X w u enc pc (z :: r) (.ref x :: st) g o := by
  obtain ⟨p, l, e, R, s, m, args, below, meth, c⟩ := X
  intro az g1 ho H locs ls hP hS hl
  refine lv_astore_n hX.1 hX.2.1 hd rfl hl (by rw [hX.2.2.1]; exact Nat.le_of_ble_eq_true hn) rfl (fun ls2 h2 => k az g1 ho H locs ls2 hP hS (et_st1 h2 fun j v2 hj => ?_))
  match j with
    | 0 => exact Or.inl ⟨rfl, (Option.some.inj (Option.some.inj hj)).symm⟩
    | j + 1 => exact Or.inr ⟨by omega, hj, fun h => by omega⟩
theorem zi_iinc0 {x v : Int32} {n : Int} (hX : et_Gd X w b own nL ret tb rm) (hd : decode b pc = .ok (.iinc 0 n, 3)) (hv : x + Int32.ofInt n = v) (hn : Nat.ble 1 nL = true) (k : et_Z X w u enc (pc + 3) (some (.int v) :: r) st g o) : et_Z X w u enc pc (some (.int x) :: r) st g o := by
  obtain ⟨p, l, e, R, s, m, args, below, meth, c⟩ := X
  intro az g1 ho H locs ls hP hS hl
  obtain ⟨q, hq⟩ := List.getElem?_of_mem (et_L_mem.mpr (rfl : (some (.int x) :: r)[0]? = some (some (Value.int x))))
  refine lv_iinc hX.1 hX.2.1 hd hl hq hv (by rw [hX.2.2.1]; exact Nat.le_of_ble_eq_true hn) rfl (fun ls2 h2 => k az g1 ho H locs ls2 hP hS (et_st1 h2 fun j v2 hj => ?_))
  match j with
    | 0 => exact Or.inl ⟨rfl, (Option.some.inj (Option.some.inj hj)).symm⟩
    | j + 1 => exact Or.inr ⟨by omega, hj, fun h => by omega⟩
theorem zi_lstore0 {z z2 : Option Value} {x : Int64} (hX : et_Gd X w b own nL ret tb rm) (hd : decode b pc = .ok (.lstore_n 0, 1)) (hn : Nat.ble 2 nL = true) (k : et_Z X w u enc (pc + 1) (some (.long x) :: none :: r) st g o) : et_Z X w u enc pc (z :: z2 :: r) (.long x :: st) g o := by
  obtain ⟨p, l, e, R, s, m, args, below, meth, c⟩ := X
  intro az g1 ho H locs ls hP hS hl
  refine lv_lstore_n hX.1 hX.2.1 hd rfl hl (by rw [hX.2.2.1]; exact Nat.le_of_ble_eq_true hn) rfl (fun ls2 h2 => k az g1 ho H locs ls2 hP hS (et_st2 h2 fun j v2 hj => ?_))
  match j with
    | 0 => exact Or.inl ⟨rfl, (Option.some.inj (Option.some.inj hj)).symm⟩
    | 1 => cases hj
    | j + 2 => exact Or.inr ⟨by omega, by omega, hj, fun h => by omega⟩
theorem zi_iload1 {a0 : Option Value} {x : Int32} (hX : et_Gd X w b own nL ret tb rm) (hd : decode b pc = .ok (.iload_n 1, 1)) (k : et_Z X w u enc (pc + 1) (a0 :: some (.int x) :: r) (.int x :: st) g o) : et_Z X w u enc pc (a0 :: some (.int x) :: r) st g o := by
  obtain ⟨p, l, e, R, s, m, args, below, meth, c⟩ := X
  intro a1 g1 ho H locs ls hP hS hl
  exact lv_iload_n hX.1 hX.2.1 hd rfl (hl.2.2 (1, _) (et_L_mem.mpr rfl)) (k a1 g1 ho H locs ls hP hS hl)
theorem zi_lload1 {a0 : Option Value} {x : Int64} (hX : et_Gd X w b own nL ret tb rm) (hd : decode b pc = .ok (.lload_n 1, 1)) (k : et_Z X w u enc (pc + 1) (a0 :: some (.long x) :: r) (.long x :: st) g o) : et_Z X w u enc pc (a0 :: some (.long x) :: r) st g o := by
  obtain ⟨p, l, e, R, s, m, args, below, meth, c⟩ := X
  intro a1 g1 ho H locs ls hP hS hl
  exact lv_lload_n hX.1 hX.2.1 hd rfl (hl.2.2 (1, _) (et_L_mem.mpr rfl)) (k a1 g1 ho H locs ls hP hS hl)
theorem zi_aload1 {a0 : Option Value} {x : Nat} (hX : et_Gd X w b own nL ret tb rm) (hd : decode b pc = .ok (.aload_n 1, 1)) (k : et_Z X w u enc (pc + 1) (a0 :: some (.ref x) :: r) (.ref x :: st) g o) : et_Z X w u enc pc (a0 :: some (.ref x) :: r) st g o := by
  obtain ⟨p, l, e, R, s, m, args, below, meth, c⟩ := X
  intro a1 g1 ho H locs ls hP hS hl
  exact lv_aload_n hX.1 hX.2.1 hd rfl (hl.2.2 (1, _) (et_L_mem.mpr rfl)) (k a1 g1 ho H locs ls hP hS hl)
theorem zi_istore1 {a0 : Option Value} {z : Option Value} {x : Int32} (hX : et_Gd X w b own nL ret tb rm) (hd : decode b pc = .ok (.istore_n 1, 1)) (hn : Nat.ble 2 nL = true) (hc : et_c1 a0 = true) (k : et_Z X w u enc (pc + 1) (a0 :: some (.int x) :: r) st g o) : et_Z X w u enc pc (a0 :: z :: r) (.int x :: st) g o := by
  obtain ⟨p, l, e, R, s, m, args, below, meth, c⟩ := X
  intro az g1 ho H locs ls hP hS hl
  refine lv_istore_n hX.1 hX.2.1 hd rfl hl (by rw [hX.2.2.1]; exact Nat.le_of_ble_eq_true hn) rfl (fun ls2 h2 => k az g1 ho H locs ls2 hP hS (et_st1 h2 fun j v2 hj => ?_))
  match j with
    | 0 => exact Or.inr ⟨by decide, hj, fun h => by exact et_c1_cat hc (Option.some.inj hj)⟩
    | 1 => exact Or.inl ⟨rfl, (Option.some.inj (Option.some.inj hj)).symm⟩
    | j + 2 => exact Or.inr ⟨by omega, hj, fun h => by omega⟩
theorem zi_astore1 {a0 : Option Value} {z : Option Value} {x : Nat} (hX : et_Gd X w b own nL ret tb rm) (hd : decode b pc = .ok (.astore_n 1, 1)) (hn : Nat.ble 2 nL = true) (hc : et_c1 a0 = true) (k : et_Z X w u enc (pc + 1) (a0 :: some (.ref x) :: r) st g o) : et_Z X w u enc pc (a0 :: z :: r) (.ref x :: st) g o := by
  obtain ⟨p, l, e, R, s, m, args, below, meth, c⟩ := X
  intro az g1 ho H locs ls hP hS hl
  refine lv_astore_n hX.1 hX.2.1 hd rfl hl (by rw [hX.2.2.1]; exact Nat.le_of_ble_eq_true hn) rfl (fun ls2 h2 => k az g1 ho H locs ls2 hP hS (et_st1 h2 fun j v2 hj => ?_))
  match j with
    | 0 => exact Or.inr ⟨by decide, hj, fun h => by exact et_c1_cat hc (Option.some.inj hj)⟩
    | 1 => exact Or.inl ⟨rfl, (Option.some.inj (Option.some.inj hj)).symm⟩
    | j + 2 => exact Or.inr ⟨by omega, hj, fun h => by omega⟩
theorem zi_iinc1 {a0 : Option Value} {x v : Int32} {n : Int} (hX : et_Gd X w b own nL ret tb rm) (hd : decode b pc = .ok (.iinc 1 n, 3)) (hv : x + Int32.ofInt n = v) (hn : Nat.ble 2 nL = true) (hc : et_c1 a0 = true) (k : et_Z X w u enc (pc + 3) (a0 :: some (.int v) :: r) st g o) : et_Z X w u enc pc (a0 :: some (.int x) :: r) st g o := by
  obtain ⟨p, l, e, R, s, m, args, below, meth, c⟩ := X
  intro az g1 ho H locs ls hP hS hl
  obtain ⟨q, hq⟩ := List.getElem?_of_mem (et_L_mem.mpr (rfl : (a0 :: some (.int x) :: r)[1]? = some (some (Value.int x))))
  refine lv_iinc hX.1 hX.2.1 hd hl hq hv (by rw [hX.2.2.1]; exact Nat.le_of_ble_eq_true hn) rfl (fun ls2 h2 => k az g1 ho H locs ls2 hP hS (et_st1 h2 fun j v2 hj => ?_))
  match j with
    | 0 => exact Or.inr ⟨by decide, hj, fun h => by exact et_c1_cat hc (Option.some.inj hj)⟩
    | 1 => exact Or.inl ⟨rfl, (Option.some.inj (Option.some.inj hj)).symm⟩
    | j + 2 => exact Or.inr ⟨by omega, hj, fun h => by omega⟩
theorem zi_lstore1 {a0 : Option Value} {z z2 : Option Value} {x : Int64} (hX : et_Gd X w b own nL ret tb rm) (hd : decode b pc = .ok (.lstore_n 1, 1)) (hn : Nat.ble 3 nL = true) (hc : et_c1 a0 = true) (k : et_Z X w u enc (pc + 1) (a0 :: some (.long x) :: none :: r) st g o) : et_Z X w u enc pc (a0 :: z :: z2 :: r) (.long x :: st) g o := by
  obtain ⟨p, l, e, R, s, m, args, below, meth, c⟩ := X
  intro az g1 ho H locs ls hP hS hl
  refine lv_lstore_n hX.1 hX.2.1 hd rfl hl (by rw [hX.2.2.1]; exact Nat.le_of_ble_eq_true hn) rfl (fun ls2 h2 => k az g1 ho H locs ls2 hP hS (et_st2 h2 fun j v2 hj => ?_))
  match j with
    | 0 => exact Or.inr ⟨by decide, by decide, hj, fun h => by exact et_c1_cat hc (Option.some.inj hj)⟩
    | 1 => exact Or.inl ⟨rfl, (Option.some.inj (Option.some.inj hj)).symm⟩
    | 2 => cases hj
    | j + 3 => exact Or.inr ⟨by omega, by omega, hj, fun h => by omega⟩
theorem zi_iload2 {a0 a1 : Option Value} {x : Int32} (hX : et_Gd X w b own nL ret tb rm) (hd : decode b pc = .ok (.iload_n 2, 1)) (k : et_Z X w u enc (pc + 1) (a0 :: a1 :: some (.int x) :: r) (.int x :: st) g o) : et_Z X w u enc pc (a0 :: a1 :: some (.int x) :: r) st g o := by
  obtain ⟨p, l, e, R, s, m, args, below, meth, c⟩ := X
  intro a1 g1 ho H locs ls hP hS hl
  exact lv_iload_n hX.1 hX.2.1 hd rfl (hl.2.2 (2, _) (et_L_mem.mpr rfl)) (k a1 g1 ho H locs ls hP hS hl)
theorem zi_lload2 {a0 a1 : Option Value} {x : Int64} (hX : et_Gd X w b own nL ret tb rm) (hd : decode b pc = .ok (.lload_n 2, 1)) (k : et_Z X w u enc (pc + 1) (a0 :: a1 :: some (.long x) :: r) (.long x :: st) g o) : et_Z X w u enc pc (a0 :: a1 :: some (.long x) :: r) st g o := by
  obtain ⟨p, l, e, R, s, m, args, below, meth, c⟩ := X
  intro a1 g1 ho H locs ls hP hS hl
  exact lv_lload_n hX.1 hX.2.1 hd rfl (hl.2.2 (2, _) (et_L_mem.mpr rfl)) (k a1 g1 ho H locs ls hP hS hl)
theorem zi_aload2 {a0 a1 : Option Value} {x : Nat} (hX : et_Gd X w b own nL ret tb rm) (hd : decode b pc = .ok (.aload_n 2, 1)) (k : et_Z X w u enc (pc + 1) (a0 :: a1 :: some (.ref x) :: r) (.ref x :: st) g o) : et_Z X w u enc pc (a0 :: a1 :: some (.ref x) :: r) st g o := by
  obtain ⟨p, l, e, R, s, m, args, below, meth, c⟩ := X
  intro a1 g1 ho H locs ls hP hS hl
  exact lv_aload_n hX.1 hX.2.1 hd rfl (hl.2.2 (2, _) (et_L_mem.mpr rfl)) (k a1 g1 ho H locs ls hP hS hl)
theorem zi_istore2 {a0 a1 : Option Value} {z : Option Value} {x : Int32} (hX : et_Gd X w b own nL ret tb rm) (hd : decode b pc = .ok (.istore_n 2, 1)) (hn : Nat.ble 3 nL = true) (hc : et_c1 a1 = true) (k : et_Z X w u enc (pc + 1) (a0 :: a1 :: some (.int x) :: r) st g o) : et_Z X w u enc pc (a0 :: a1 :: z :: r) (.int x :: st) g o := by
  obtain ⟨p, l, e, R, s, m, args, below, meth, c⟩ := X
  intro az g1 ho H locs ls hP hS hl
  refine lv_istore_n hX.1 hX.2.1 hd rfl hl (by rw [hX.2.2.1]; exact Nat.le_of_ble_eq_true hn) rfl (fun ls2 h2 => k az g1 ho H locs ls2 hP hS (et_st1 h2 fun j v2 hj => ?_))
  match j with
    | 0 => exact Or.inr ⟨by decide, hj, fun h => by omega⟩
    | 1 => exact Or.inr ⟨by decide, hj, fun h => by exact et_c1_cat hc (Option.some.inj hj)⟩
    | 2 => exact Or.inl ⟨rfl, (Option.some.inj (Option.some.inj hj)).symm⟩
    | j + 3 => exact Or.inr ⟨by omega, hj, fun h => by omega⟩
theorem zi_astore2 {a0 a1 : Option Value} {z : Option Value} {x : Nat} (hX : et_Gd X w b own nL ret tb rm) (hd : decode b pc = .ok (.astore_n 2, 1)) (hn : Nat.ble 3 nL = true) (hc : et_c1 a1 = true) (k : et_Z X w u enc (pc + 1) (a0 :: a1 :: some (.ref x) :: r) st g o) : et_Z X w u enc pc (a0 :: a1 :: z :: r) (.ref x :: st) g o := by
  obtain ⟨p, l, e, R, s, m, args, below, meth, c⟩ := X
  intro az g1 ho H locs ls hP hS hl
  refine lv_astore_n hX.1 hX.2.1 hd rfl hl (by rw [hX.2.2.1]; exact Nat.le_of_ble_eq_true hn) rfl (fun ls2 h2 => k az g1 ho H locs ls2 hP hS (et_st1 h2 fun j v2 hj => ?_))
  match j with
    | 0 => exact Or.inr ⟨by decide, hj, fun h => by omega⟩
    | 1 => exact Or.inr ⟨by decide, hj, fun h => by exact et_c1_cat hc (Option.some.inj hj)⟩
    | 2 => exact Or.inl ⟨rfl, (Option.some.inj (Option.some.inj hj)).symm⟩
    | j + 3 => exact Or.inr ⟨by omega, hj, fun h => by omega⟩
theorem zi_iinc2 {a0 a1 : Option Value} {x v : Int32} {n : Int} (hX : et_Gd X w b own nL ret tb rm) (hd : decode b pc = .ok (.iinc 2 n, 3)) (hv : x + Int32.ofInt n = v) (hn : Nat.ble 3 nL = true) (hc : et_c1 a1 = true) (k : et_Z X w u enc (pc + 3) (a0 :: a1 :: some (.int v) :: r) st g o) : et_Z X w u enc pc (a0 :: a1 :: some (.int x) :: r) st g o := by
  obtain ⟨p, l, e, R, s, m, args, below, meth, c⟩ := X
  intro az g1 ho H locs ls hP hS hl
  obtain ⟨q, hq⟩ := List.getElem?_of_mem (et_L_mem.mpr (rfl : (a0 :: a1 :: some (.int x) :: r)[2]? = some (some (Value.int x))))
  refine lv_iinc hX.1 hX.2.1 hd hl hq hv (by rw [hX.2.2.1]; exact Nat.le_of_ble_eq_true hn) rfl (fun ls2 h2 => k az g1 ho H locs ls2 hP hS (et_st1 h2 fun j v2 hj => ?_))
  match j with
    | 0 => exact Or.inr ⟨by decide, hj, fun h => by omega⟩
    | 1 => exact Or.inr ⟨by decide, hj, fun h => by exact et_c1_cat hc (Option.some.inj hj)⟩
    | 2 => exact Or.inl ⟨rfl, (Option.some.inj (Option.some.inj hj)).symm⟩
    | j + 3 => exact Or.inr ⟨by omega, hj, fun h => by omega⟩
theorem zi_lstore2 {a0 a1 : Option Value} {z z2 : Option Value} {x : Int64} (hX : et_Gd X w b own nL ret tb rm) (hd : decode b pc = .ok (.lstore_n 2, 1)) (hn : Nat.ble 4 nL = true) (hc : et_c1 a1 = true) (k : et_Z X w u enc (pc + 1) (a0 :: a1 :: some (.long x) :: none :: r) st g o) : et_Z X w u enc pc (a0 :: a1 :: z :: z2 :: r) (.long x :: st) g o := by
  obtain ⟨p, l, e, R, s, m, args, below, meth, c⟩ := X
  intro az g1 ho H locs ls hP hS hl
  refine lv_lstore_n hX.1 hX.2.1 hd rfl hl (by rw [hX.2.2.1]; exact Nat.le_of_ble_eq_true hn) rfl (fun ls2 h2 => k az g1 ho H locs ls2 hP hS (et_st2 h2 fun j v2 hj => ?_))
  match j with
    | 0 => exact Or.inr ⟨by decide, by decide, hj, fun h => by omega⟩
    | 1 => exact Or.inr ⟨by decide, by decide, hj, fun h => by exact et_c1_cat hc (Option.some.inj hj)⟩
    | 2 => exact Or.inl ⟨rfl, (Option.some.inj (Option.some.inj hj)).symm⟩
    | 3 => cases hj
    | j + 4 => exact Or.inr ⟨by omega, by omega, hj, fun h => by omega⟩
theorem zi_iload3 {a0 a1 a2 : Option Value} {x : Int32} (hX : et_Gd X w b own nL ret tb rm) (hd : decode b pc = .ok (.iload_n 3, 1)) (k : et_Z X w u enc (pc + 1) (a0 :: a1 :: a2 :: some (.int x) :: r) (.int x :: st) g o) : et_Z X w u enc pc (a0 :: a1 :: a2 :: some (.int x) :: r) st g o := by
  obtain ⟨p, l, e, R, s, m, args, below, meth, c⟩ := X
  intro a1 g1 ho H locs ls hP hS hl
  exact lv_iload_n hX.1 hX.2.1 hd rfl (hl.2.2 (3, _) (et_L_mem.mpr rfl)) (k a1 g1 ho H locs ls hP hS hl)
theorem zi_lload3 {a0 a1 a2 : Option Value} {x : Int64} (hX : et_Gd X w b own nL ret tb rm) (hd : decode b pc = .ok (.lload_n 3, 1)) (k : et_Z X w u enc (pc + 1) (a0 :: a1 :: a2 :: some (.long x) :: r) (.long x :: st) g o) : et_Z X w u enc pc (a0 :: a1 :: a2 :: some (.long x) :: r) st g o := by
  obtain ⟨p, l, e, R, s, m, args, below, meth, c⟩ := X
  intro a1 g1 ho H locs ls hP hS hl
  exact lv_lload_n hX.1 hX.2.1 hd rfl (hl.2.2 (3, _) (et_L_mem.mpr rfl)) (k a1 g1 ho H locs ls hP hS hl)
theorem zi_aload3 {a0 a1 a2 : Option Value} {x : Nat} (hX : et_Gd X w b own nL ret tb rm) (hd : decode b pc = .ok (.aload_n 3, 1)) (k : et_Z X w u enc (pc + 1) (a0 :: a1 :: a2 :: some (.ref x) :: r) (.ref x :: st) g o) : et_Z X w u enc pc (a0 :: a1 :: a2 :: some (.ref x) :: r) st g o := by
  obtain ⟨p, l, e, R, s, m, args, below, meth, c⟩ := X
  intro a1 g1 ho H locs ls hP hS hl
  exact lv_aload_n hX.1 hX.2.1 hd rfl (hl.2.2 (3, _) (et_L_mem.mpr rfl)) (k a1 g1 ho H locs ls hP hS hl)
theorem zi_istore3 {a0 a1 a2 : Option Value} {z : Option Value} {x : Int32} (hX : et_Gd X w b own nL ret tb rm) (hd : decode b pc = .ok (.istore_n 3, 1)) (hn : Nat.ble 4 nL = true) (hc : et_c1 a2 = true) (k : et_Z X w u enc (pc + 1) (a0 :: a1 :: a2 :: some (.int x) :: r) st g o) : et_Z X w u enc pc (a0 :: a1 :: a2 :: z :: r) (.int x :: st) g o := by
  obtain ⟨p, l, e, R, s, m, args, below, meth, c⟩ := X
  intro az g1 ho H locs ls hP hS hl
  refine lv_istore_n hX.1 hX.2.1 hd rfl hl (by rw [hX.2.2.1]; exact Nat.le_of_ble_eq_true hn) rfl (fun ls2 h2 => k az g1 ho H locs ls2 hP hS (et_st1 h2 fun j v2 hj => ?_))
  match j with
    | 0 => exact Or.inr ⟨by decide, hj, fun h => by omega⟩
    | 1 => exact Or.inr ⟨by decide, hj, fun h => by omega⟩
    | 2 => exact Or.inr ⟨by decide, hj, fun h => by exact et_c1_cat hc (Option.some.inj hj)⟩
    | 3 => exact Or.inl ⟨rfl, (Option.some.inj (Option.some.inj hj)).symm⟩
    | j + 4 => exact Or.inr ⟨by omega, hj, fun h => by omega⟩
theorem zi_astore3 {a0 a1 a2 : Option Value} {z : Option Value} {x : Nat} (hX : et_Gd X w b own nL ret tb rm) (hd : decode b pc = .ok (.astore_n 3, 1)) (hn : Nat.ble 4 nL = true) (hc : et_c1 a2 = true) (k : et_Z X w u enc (pc + 1) (a0 :: a1 :: a2 :: some (.ref x) :: r) st g o) : et_Z X w u enc pc (a0 :: a1 :: a2 :: z :: r) (.ref x :: st) g o := by
  obtain ⟨p, l, e, R, s, m, args, below, meth, c⟩ := X
  intro az g1 ho H locs ls hP hS hl
  refine lv_astore_n hX.1 hX.2.1 hd rfl hl (by rw [hX.2.2.1]; exact Nat.le_of_ble_eq_true hn) rfl (fun ls2 h2 => k az g1 ho H locs ls2 hP hS (et_st1 h2 fun j v2 hj => ?_))
  match j with
    | 0 => exact Or.inr ⟨by decide, hj, fun h => by omega⟩
    | 1 => exact Or.inr ⟨by decide, hj, fun h => by omega⟩
    | 2 => exact Or.inr ⟨by decide, hj, fun h => by exact et_c1_cat hc (Option.some.inj hj)⟩
    | 3 => exact Or.inl ⟨rfl, (Option.some.inj (Option.some.inj hj)).symm⟩
    | j + 4 => exact Or.inr ⟨by omega, hj, fun h => by omega⟩
theorem zi_iinc3 {a0 a1 a2 : Option Value} {x v : Int32} {n : Int} (hX : et_Gd X w b own nL ret tb rm) (hd : decode b pc = .ok (.iinc 3 n, 3)) (hv : x + Int32.ofInt n = v) (hn : Nat.ble 4 nL = true) (hc : et_c1 a2 = true) (k : et_Z X w u enc (pc + 3) (a0 :: a1 :: a2 :: some (.int v) :: r) st g o) : et_Z X w u enc pc (a0 :: a1 :: a2 :: some (.int x) :: r) st g o := by
  obtain ⟨p, l, e, R, s, m, args, below, meth, c⟩ := X
  intro az g1 ho H locs ls hP hS hl
  obtain ⟨q, hq⟩ := List.getElem?_of_mem (et_L_mem.mpr (rfl : (a0 :: a1 :: a2 :: some (.int x) :: r)[3]? = some (some (Value.int x))))
  refine lv_iinc hX.1 hX.2.1 hd hl hq hv (by rw [hX.2.2.1]; exact Nat.le_of_ble_eq_true hn) rfl (fun ls2 h2 => k az g1 ho H locs ls2 hP hS (et_st1 h2 fun j v2 hj => ?_))
  match j with
    | 0 => exact Or.inr ⟨by decide, hj, fun h => by omega⟩
    | 1 => exact Or.inr ⟨by decide, hj, fun h => by omega⟩
    | 2 => exact Or.inr ⟨by decide, hj, fun h => by exact et_c1_cat hc (Option.some.inj hj)⟩
    | 3 => exact Or.inl ⟨rfl, (Option.some.inj (Option.some.inj hj)).symm⟩
    | j + 4 => exact Or.inr ⟨by omega, hj, fun h => by omega⟩
theorem zi_lstore3 {a0 a1 a2 : Option Value} {z z2 : Option Value} {x : Int64} (hX : et_Gd X w b own nL ret tb rm) (hd : decode b pc = .ok (.lstore_n 3, 1)) (hn : Nat.ble 5 nL = true) (hc : et_c1 a2 = true) (k : et_Z X w u enc (pc + 1) (a0 :: a1 :: a2 :: some (.long x) :: none :: r) st g o) : et_Z X w u enc pc (a0 :: a1 :: a2 :: z :: z2 :: r) (.long x :: st) g o := by
  obtain ⟨p, l, e, R, s, m, args, below, meth, c⟩ := X
  intro az g1 ho H locs ls hP hS hl
  refine lv_lstore_n hX.1 hX.2.1 hd rfl hl (by rw [hX.2.2.1]; exact Nat.le_of_ble_eq_true hn) rfl (fun ls2 h2 => k az g1 ho H locs ls2 hP hS (et_st2 h2 fun j v2 hj => ?_))
  match j with
    | 0 => exact Or.inr ⟨by decide, by decide, hj, fun h => by omega⟩
    | 1 => exact Or.inr ⟨by decide, by decide, hj, fun h => by omega⟩
    | 2 => exact Or.inr ⟨by decide, by decide, hj, fun h => by exact et_c1_cat hc (Option.some.inj hj)⟩
    | 3 => exact Or.inl ⟨rfl, (Option.some.inj (Option.some.inj hj)).symm⟩
    | 4 => cases hj
    | j + 5 => exact Or.inr ⟨by omega, by omega, hj, fun h => by omega⟩
theorem zi_iload4 {a0 a1 a2 a3 : Option Value} {x : Int32} (hX : et_Gd X w b own nL ret tb rm) (hd : decode b pc = .ok (.iload 4, 2)) (k : et_Z X w u enc (pc + 2) (a0 :: a1 :: a2 :: a3 :: some (.int x) :: r) (.int x :: st) g o) : et_Z X w u enc pc (a0 :: a1 :: a2 :: a3 :: some (.int x) :: r) st g o := by
  obtain ⟨p, l, e, R, s, m, args, below, meth, c⟩ := X
  intro a1 g1 ho H locs ls hP hS hl
  exact lv_iload hX.1 hX.2.1 hd (hl.2.2 (4, _) (et_L_mem.mpr rfl)) (k a1 g1 ho H locs ls hP hS hl)
theorem zi_lload4 {a0 a1 a2 a3 : Option Value} {x : Int64} (hX : et_Gd X w b own nL ret tb rm) (hd : decode b pc = .ok (.lload 4, 2)) (k : et_Z X w u enc (pc + 2) (a0 :: a1 :: a2 :: a3 :: some (.long x) :: r) (.long x :: st) g o) : et_Z X w u enc pc (a0 :: a1 :: a2 :: a3 :: some (.long x) :: r) st g o := by
  obtain ⟨p, l, e, R, s, m, args, below, meth, c⟩ := X
  intro a1 g1 ho H locs ls hP hS hl
  exact lv_lload hX.1 hX.2.1 hd (hl.2.2 (4, _) (et_L_mem.mpr rfl)) (k a1 g1 ho H locs ls hP hS hl)
theorem zi_aload4 {a0 a1 a2 a3 : Option Value} {x : Nat} (hX : et_Gd X w b own nL ret tb rm) (hd : decode b pc = .ok (.aload 4, 2)) (k : et_Z X w u enc (pc + 2) (a0 :: a1 :: a2 :: a3 :: some (.ref x) :: r) (.ref x :: st) g o) : et_Z X w u enc pc (a0 :: a1 :: a2 :: a3 :: some (.ref x) :: r) st g o := by
  obtain ⟨p, l, e, R, s, m, args, below, meth, c⟩ := X
  intro a1 g1 ho H locs ls hP hS hl
  exact lv_aload hX.1 hX.2.1 hd (hl.2.2 (4, _) (et_L_mem.mpr rfl)) (k a1 g1 ho H locs ls hP hS hl)
theorem zi_istore4 {a0 a1 a2 a3 : Option Value} {z : Option Value} {x : Int32} (hX : et_Gd X w b own nL ret tb rm) (hd : decode b pc = .ok (.istore 4, 2)) (hn : Nat.ble 5 nL = true) (hc : et_c1 a3 = true) (k : et_Z X w u enc (pc + 2) (a0 :: a1 :: a2 :: a3 :: some (.int x) :: r) st g o) : et_Z X w u enc pc (a0 :: a1 :: a2 :: a3 :: z :: r) (.int x :: st) g o := by
  obtain ⟨p, l, e, R, s, m, args, below, meth, c⟩ := X
  intro az g1 ho H locs ls hP hS hl
  refine lv_istore hX.1 hX.2.1 hd hl (by rw [hX.2.2.1]; exact Nat.le_of_ble_eq_true hn) rfl (fun ls2 h2 => k az g1 ho H locs ls2 hP hS (et_st1 h2 fun j v2 hj => ?_))
  match j with
    | 0 => exact Or.inr ⟨by decide, hj, fun h => by omega⟩
    | 1 => exact Or.inr ⟨by decide, hj, fun h => by omega⟩
    | 2 => exact Or.inr ⟨by decide, hj, fun h => by omega⟩
    | 3 => exact Or.inr ⟨by decide, hj, fun h => by exact et_c1_cat hc (Option.some.inj hj)⟩
    | 4 => exact Or.inl ⟨rfl, (Option.some.inj (Option.some.inj hj)).symm⟩
    | j + 5 => exact Or.inr ⟨by omega, hj, fun h => by omega⟩
theorem zi_astore4 {a0 a1 a2 a3 : Option Value} {z : Option Value} {x : Nat} (hX : et_Gd X w b own nL ret tb rm) (hd : decode b pc = .ok (.astore 4, 2)) (hn : Nat.ble 5 nL = true) (hc : et_c1 a3 = true) (k : et_Z X w u enc (pc + 2) (a0 :: a1 :: a2 :: a3 :: some (.ref x) :: r) st g o) : et_Z X w u enc pc (a0 :: a1 :: a2 :: a3 :: z :: r) (.ref x :: st) g o := by
  obtain ⟨p, l, e, R, s, m, args, below, meth, c⟩ := X
  intro az g1 ho H locs ls hP hS hl
  refine lv_astore hX.1 hX.2.1 hd hl (by rw [hX.2.2.1]; exact Nat.le_of_ble_eq_true hn) rfl (fun ls2 h2 => k az g1 ho H locs ls2 hP hS (et_st1 h2 fun j v2 hj => ?_))
  match j with
    | 0 => exact Or.inr ⟨by decide, hj, fun h => by omega⟩
    | 1 => exact Or.inr ⟨by decide, hj, fun h => by omega⟩
    | 2 => exact Or.inr ⟨by decide, hj, fun h => by omega⟩
    | 3 => exact Or.inr ⟨by decide, hj, fun h => by exact et_c1_cat hc (Option.some.inj hj)⟩
    | 4 => exact Or.inl ⟨rfl, (Option.some.inj (Option.some.inj hj)).symm⟩
    | j + 5 => exact Or.inr ⟨by omega, hj, fun h => by omega⟩
theorem zi_iinc4 {a0 a1 a2 a3 : Option Value} {x v : Int32} {n : Int} (hX : et_Gd X w b own nL ret tb rm) (hd : decode b pc = .ok (.iinc 4 n, 3)) (hv : x + Int32.ofInt n = v) (hn : Nat.ble 5 nL = true) (hc : et_c1 a3 = true) (k : et_Z X w u enc (pc + 3) (a0 :: a1 :: a2 :: a3 :: some (.int v) :: r) st g o) : et_Z X w u enc pc (a0 :: a1 :: a2 :: a3 :: some (.int x) :: r) st g o := by
  obtain ⟨p, l, e, R, s, m, args, below, meth, c⟩ := X
  intro az g1 ho H locs ls hP hS hl
  obtain ⟨q, hq⟩ := List.getElem?_of_mem (et_L_mem.mpr (rfl : (a0 :: a1 :: a2 :: a3 :: some (.int x) :: r)[4]? = some (some (Value.int x))))
  refine lv_iinc hX.1 hX.2.1 hd hl hq hv (by rw [hX.2.2.1]; exact Nat.le_of_ble_eq_true hn) rfl (fun ls2 h2 => k az g1 ho H locs ls2 hP hS (et_st1 h2 fun j v2 hj => ?_))
  match j with
    | 0 => exact Or.inr ⟨by decide, hj, fun h => by omega⟩
    | 1 => exact Or.inr ⟨by decide, hj, fun h => by omega⟩
    | 2 => exact Or.inr ⟨by decide, hj, fun h => by omega⟩
    | 3 => exact Or.inr ⟨by decide, hj, fun h => by exact et_c1_cat hc (Option.some.inj hj)⟩
    | 4 => exact Or.inl ⟨rfl, (Option.some.inj (Option.some.inj hj)).symm⟩
    | j + 5 => exact Or.inr ⟨by omega, hj, fun h => by omega⟩
theorem zi_lstore4 {a0 a1 a2 a3 : Option Value} {z z2 : Option Value} {x : Int64} (hX : et_Gd X w b own nL ret tb rm) (hd : decode b pc = .ok (.lstore 4, 2)) (hn : Nat.ble 6 nL = true) (hc : et_c1 a3 = true) (k : et_Z X w u enc (pc + 2) (a0 :: a1 :: a2 :: a3 :: some (.long x) :: none :: r) st g o) : et_Z X w u enc pc (a0 :: a1 :: a2 :: a3 :: z :: z2 :: r) (.long x :: st) g o := by
  obtain ⟨p, l, e, R, s, m, args, below, meth, c⟩ := X
  intro az g1 ho H locs ls hP hS hl
  refine lv_lstore hX.1 hX.2.1 hd hl (by rw [hX.2.2.1]; exact Nat.le_of_ble_eq_true hn) rfl (fun ls2 h2 => k az g1 ho H locs ls2 hP hS (et_st2 h2 fun j v2 hj => ?_))
  match j with
    | 0 => exact Or.inr ⟨by decide, by decide, hj, fun h => by omega⟩
    | 1 => exact Or.inr ⟨by decide, by decide, hj, fun h => by omega⟩
    | 2 => exact Or.inr ⟨by decide, by decide, hj, fun h => by omega⟩
    | 3 => exact Or.inr ⟨by decide, by decide, hj, fun h => by exact et_c1_cat hc (Option.some.inj hj)⟩
    | 4 => exact Or.inl ⟨rfl, (Option.some.inj (Option.some.inj hj)).symm⟩
    | 5 => cases hj
    | j + 6 => exact Or.inr ⟨by omega, by omega, hj, fun h => by omega⟩
theorem zi_iload5 {a0 a1 a2 a3 a4 : Option Value} {x : Int32} (hX : et_Gd X w b own nL ret tb rm) (hd : decode b pc = .ok (.iload 5, 2)) (k : et_Z X w u enc (pc + 2) (a0 :: a1 :: a2 :: a3 :: a4 :: some (.int x) :: r) (.int x :: st) g o) : et_Z X w u enc pc (a0 :: a1 :: a2 :: a3 :: a4 :: some (.int x) :: r) st g o := by
  obtain ⟨p, l, e, R, s, m, args, below, meth, c⟩ := X
  intro a1 g1 ho H locs ls hP hS hl
  exact lv_iload hX.1 hX.2.1 hd (hl.2.2 (5, _) (et_L_mem.mpr rfl)) (k a1 g1 ho H locs ls hP hS hl)
theorem zi_lload5 {a0 a1 a2 a3 a4 : Option Value} {x : Int64} (hX : et_Gd X w b own nL ret tb rm) (hd : decode b pc = .ok (.lload 5, 2)) (k : et_Z X w u enc (pc + 2) (a0 :: a1 :: a2 :: a3 :: a4 :: some (.long x) :: r) (.long x :: st) g o) : et_Z X w u enc pc (a0 :: a1 :: a2 :: a3 :: a4 :: some (.long x) :: r) st g o := by
  obtain ⟨p, l, e, R, s, m, args, below, meth, c⟩ := X
  intro a1 g1 ho H locs ls hP hS hl
  exact lv_lload hX.1 hX.2.1 hd (hl.2.2 (5, _) (et_L_mem.mpr rfl)) (k a1 g1 ho H locs ls hP hS hl)
theorem zi_aload5 {a0 a1 a2 a3 a4 : Option Value} {x : Nat} (hX : et_Gd X w b own nL ret tb rm) (hd : decode b pc = .ok (.aload 5, 2)) (k : et_Z X w u enc (pc + 2) (a0 :: a1 :: a2 :: a3 :: a4 :: some (.ref x) :: r) (.ref x :: st) g o) : et_Z X w u enc pc (a0 :: a1 :: a2 :: a3 :: a4 :: some (.ref x) :: r) st g o := by
  obtain ⟨p, l, e, R, s, m, args, below, meth, c⟩ := X
  intro a1 g1 ho H locs ls hP hS hl
  exact lv_aload hX.1 hX.2.1 hd (hl.2.2 (5, _) (et_L_mem.mpr rfl)) (k a1 g1 ho H locs ls hP hS hl)
theorem zi_istore5 {a0 a1 a2 a3 a4 : Option Value} {z : Option Value} {x : Int32} (hX : et_Gd X w b own nL ret tb rm) (hd : decode b pc = .ok (.istore 5, 2)) (hn : Nat.ble 6 nL = true) (hc : et_c1 a4 = true) (k : et_Z X w u enc (pc + 2) (a0 :: a1 :: a2 :: a3 :: a4 :: some (.int x) :: r) st g o) : et_Z X w u enc pc (a0 :: a1 :: a2 :: a3 :: a4 :: z :: r) (.int x :: st) g o := by
  obtain ⟨p, l, e, R, s, m, args, below, meth, c⟩ := X
  intro az g1 ho H locs ls hP hS hl
  refine lv_istore hX.1 hX.2.1 hd hl (by rw [hX.2.2.1]; exact Nat.le_of_ble_eq_true hn) rfl (fun ls2 h2 => k az g1 ho H locs ls2 hP hS (et_st1 h2 fun j v2 hj => ?_))
  match j with
    | 0 => exact Or.inr ⟨by decide, hj, fun h => by omega⟩
    | 1 => exact Or.inr ⟨by decide, hj, fun h => by omega⟩
    | 2 => exact Or.inr ⟨by decide, hj, fun h => by omega⟩
    | 3 => exact Or.inr ⟨by decide, hj, fun h => by omega⟩
    | 4 => exact Or.inr ⟨by decide, hj, fun h => by exact et_c1_cat hc (Option.some.inj hj)⟩
    | 5 => exact Or.inl ⟨rfl, (Option.some.inj (Option.some.inj hj)).symm⟩
    | j + 6 => exact Or.inr ⟨by omega, hj, fun h => by omega⟩
theorem zi_astore5 {a0 a1 a2 a3 a4 : Option Value} {z : Option Value} {x : Nat} (hX : et_Gd X w b own nL ret tb rm) (hd : decode b pc = .ok (.astore 5, 2)) (hn : Nat.ble 6 nL = true) (hc : et_c1 a4 = true) (k : et_Z X w u enc (pc + 2) (a0 :: a1 :: a2 :: a3 :: a4 :: some (.ref x) :: r) st g o) : et_Z X w u enc pc (a0 :: a1 :: a2 :: a3 :: a4 :: z :: r) (.ref x :: st) g o := by
  obtain ⟨p, l, e, R, s, m, args, below, meth, c⟩ := X
  intro az g1 ho H locs ls hP hS hl
  refine lv_astore hX.1 hX.2.1 hd hl (by rw [hX.2.2.1]; exact Nat.le_of_ble_eq_true hn) rfl (fun ls2 h2 => k az g1 ho H locs ls2 hP hS (et_st1 h2 fun j v2 hj => ?_))
  match j with
    | 0 => exact Or.inr ⟨by decide, hj, fun h => by omega⟩
    | 1 => exact Or.inr ⟨by decide, hj, fun h => by omega⟩
    | 2 => exact Or.inr ⟨by decide, hj, fun h => by omega⟩
    | 3 => exact Or.inr ⟨by decide, hj, fun h => by omega⟩
    | 4 => exact Or.inr ⟨by decide, hj, fun h => by exact et_c1_cat hc (Option.some.inj hj)⟩
    | 5 => exact Or.inl ⟨rfl, (Option.some.inj (Option.some.inj hj)).symm⟩
    | j + 6 => exact Or.inr ⟨by omega, hj, fun h => by omega⟩
theorem zi_iinc5 {a0 a1 a2 a3 a4 : Option Value} {x v : Int32} {n : Int} (hX : et_Gd X w b own nL ret tb rm) (hd : decode b pc = .ok (.iinc 5 n, 3)) (hv : x + Int32.ofInt n = v) (hn : Nat.ble 6 nL = true) (hc : et_c1 a4 = true) (k : et_Z X w u enc (pc + 3) (a0 :: a1 :: a2 :: a3 :: a4 :: some (.int v) :: r) st g o) : et_Z X w u enc pc (a0 :: a1 :: a2 :: a3 :: a4 :: some (.int x) :: r) st g o := by
  obtain ⟨p, l, e, R, s, m, args, below, meth, c⟩ := X
  intro az g1 ho H locs ls hP hS hl
  obtain ⟨q, hq⟩ := List.getElem?_of_mem (et_L_mem.mpr (rfl : (a0 :: a1 :: a2 :: a3 :: a4 :: some (.int x) :: r)[5]? = some (some (Value.int x))))
  refine lv_iinc hX.1 hX.2.1 hd hl hq hv (by rw [hX.2.2.1]; exact Nat.le_of_ble_eq_true hn) rfl (fun ls2 h2 => k az g1 ho H locs ls2 hP hS (et_st1 h2 fun j v2 hj => ?_))
  match j with
    | 0 => exact Or.inr ⟨by decide, hj, fun h => by omega⟩
    | 1 => exact Or.inr ⟨by decide, hj, fun h => by omega⟩
    | 2 => exact Or.inr ⟨by decide, hj, fun h => by omega⟩
    | 3 => exact Or.inr ⟨by decide, hj, fun h => by omega⟩
    | 4 => exact Or.inr ⟨by decide, hj, fun h => by exact et_c1_cat hc (Option.some.inj hj)⟩
    | 5 => exact Or.inl ⟨rfl, (Option.some.inj (Option.some.inj hj)).symm⟩
    | j + 6 => exact Or.inr ⟨by omega, hj, fun h => by omega⟩
theorem zi_lstore5 {a0 a1 a2 a3 a4 : Option Value} {z z2 : Option Value} {x : Int64} (hX : et_Gd X w b own nL ret tb rm) (hd : decode b pc = .ok (.lstore 5, 2)) (hn : Nat.ble 7 nL = true) (hc : et_c1 a4 = true) (k : et_Z X w u enc (pc + 2) (a0 :: a1 :: a2 :: a3 :: a4 :: some (.long x) :: none :: r) st g o) : et_Z X w u enc pc (a0 :: a1 :: a2 :: a3 :: a4 :: z :: z2 :: r) (.long x :: st) g o := by
  obtain ⟨p, l, e, R, s, m, args, below, meth, c⟩ := X
  intro az g1 ho H locs ls hP hS hl
  refine lv_lstore hX.1 hX.2.1 hd hl (by rw [hX.2.2.1]; exact Nat.le_of_ble_eq_true hn) rfl (fun ls2 h2 => k az g1 ho H locs ls2 hP hS (et_st2 h2 fun j v2 hj => ?_))
  match j with
    | 0 => exact Or.inr ⟨by decide, by decide, hj, fun h => by omega⟩
    | 1 => exact Or.inr ⟨by decide, by decide, hj, fun h => by omega⟩
    | 2 => exact Or.inr ⟨by decide, by decide, hj, fun h => by omega⟩
    | 3 => exact Or.inr ⟨by decide, by decide, hj, fun h => by omega⟩
    | 4 => exact Or.inr ⟨by decide, by decide, hj, fun h => by exact et_c1_cat hc (Option.some.inj hj)⟩
    | 5 => exact Or.inl ⟨rfl, (Option.some.inj (Option.some.inj hj)).symm⟩
    | 6 => cases hj
    | j + 7 => exact Or.inr ⟨by omega, by omega, hj, fun h => by omega⟩
theorem zi_iload6 {a0 a1 a2 a3 a4 a5 : Option Value} {x : Int32} (hX : et_Gd X w b own nL ret tb rm) (hd : decode b pc = .ok (.iload 6, 2)) (k : et_Z X w u enc (pc + 2) (a0 :: a1 :: a2 :: a3 :: a4 :: a5 :: some (.int x) :: r) (.int x :: st) g o) : et_Z X w u enc pc (a0 :: a1 :: a2 :: a3 :: a4 :: a5 :: some (.int x) :: r) st g o := by
  obtain ⟨p, l, e, R, s, m, args, below, meth, c⟩ := X
  intro a1 g1 ho H locs ls hP hS hl
  exact lv_iload hX.1 hX.2.1 hd (hl.2.2 (6, _) (et_L_mem.mpr rfl)) (k a1 g1 ho H locs ls hP hS hl)
theorem zi_lload6 {a0 a1 a2 a3 a4 a5 : Option Value} {x : Int64} (hX : et_Gd X w b own nL ret tb rm) (hd : decode b pc = .ok (.lload 6, 2)) (k : et_Z X w u enc (pc + 2) (a0 :: a1 :: a2 :: a3 :: a4 :: a5 :: some (.long x) :: r) (.long x :: st) g o) : et_Z X w u enc pc (a0 :: a1 :: a2 :: a3 :: a4 :: a5 :: some (.long x) :: r) st g o := by
  obtain ⟨p, l, e, R, s, m, args, below, meth, c⟩ := X
  intro a1 g1 ho H locs ls hP hS hl
  exact lv_lload hX.1 hX.2.1 hd (hl.2.2 (6, _) (et_L_mem.mpr rfl)) (k a1 g1 ho H locs ls hP hS hl)
theorem zi_aload6 {a0 a1 a2 a3 a4 a5 : Option Value} {x : Nat} (hX : et_Gd X w b own nL ret tb rm) (hd : decode b pc = .ok (.aload 6, 2)) (k : et_Z X w u enc (pc + 2) (a0 :: a1 :: a2 :: a3 :: a4 :: a5 :: some (.ref x) :: r) (.ref x :: st) g o) : et_Z X w u enc pc (a0 :: a1 :: a2 :: a3 :: a4 :: a5 :: some (.ref x) :: r) st g o := by
  obtain ⟨p, l, e, R, s, m, args, below, meth, c⟩ := X
  intro a1 g1 ho H locs ls hP hS hl
  exact lv_aload hX.1 hX.2.1 hd (hl.2.2 (6, _) (et_L_mem.mpr rfl)) (k a1 g1 ho H locs ls hP hS hl)
theorem zi_istore6 {a0 a1 a2 a3 a4 a5 : Option Value} {z : Option Value} {x : Int32} (hX : et_Gd X w b own nL ret tb rm) (hd : decode b pc = .ok (.istore 6, 2)) (hn : Nat.ble 7 nL = true) (hc : et_c1 a5 = true) (k : et_Z X w u enc (pc + 2) (a0 :: a1 :: a2 :: a3 :: a4 :: a5 :: some (.int x) :: r) st g o) : et_Z X w u enc pc (a0 :: a1 :: a2 :: a3 :: a4 :: a5 :: z :: r) (.int x :: st) g o := by
  obtain ⟨p, l, e, R, s, m, args, below, meth, c⟩ := X
  intro az g1 ho H locs ls hP hS hl
  refine lv_istore hX.1 hX.2.1 hd hl (by rw [hX.2.2.1]; exact Nat.le_of_ble_eq_true hn) rfl (fun ls2 h2 => k az g1 ho H locs ls2 hP hS (et_st1 h2 fun j v2 hj => ?_))
  match j with
    | 0 => exact Or.inr ⟨by decide, hj, fun h => by omega⟩
    | 1 => exact Or.inr ⟨by decide, hj, fun h => by omega⟩
    | 2 => exact Or.inr ⟨by decide, hj, fun h => by omega⟩
    | 3 => exact Or.inr ⟨by decide, hj, fun h => by omega⟩
    | 4 => exact Or.inr ⟨by decide, hj, fun h => by omega⟩
    | 5 => exact Or.inr ⟨by decide, hj, fun h => by exact et_c1_cat hc (Option.some.inj hj)⟩
    | 6 => exact Or.inl ⟨rfl, (Option.some.inj (Option.some.inj hj)).symm⟩
    | j + 7 => exact Or.inr ⟨by omega, hj, fun h => by omega⟩
theorem zi_astore6 {a0 a1 a2 a3 a4 a5 : Option Value} {z : Option Value} {x : Nat} (hX : et_Gd X w b own nL ret tb rm) (hd : decode b pc = .ok (.astore 6, 2)) (hn : Nat.ble 7 nL = true) (hc : et_c1 a5 = true) (k : et_Z X w u enc (pc + 2) (a0 :: a1 :: a2 :: a3 :: a4 :: a5 :: some (.ref x) :: r) st g o) : et_Z X w u enc pc (a0 :: a1 :: a2 :: a3 :: a4 :: a5 :: z :: r) (.ref x :: st) g o := by
  obtain ⟨p, l, e, R, s, m, args, below, meth, c⟩ := X
  intro az g1 ho H locs ls hP hS hl
  refine lv_astore hX.1 hX.2.1 hd hl (by rw [hX.2.2.1]; exact Nat.le_of_ble_eq_true hn) rfl (fun ls2 h2 => k az g1 ho H locs ls2 hP hS (et_st1 h2 fun j v2 hj => ?_))
  match j with
    | 0 => exact Or.inr ⟨by decide, hj, fun h => by omega⟩
    | 1 => exact Or.inr ⟨by decide, hj, fun h => by omega⟩
    | 2 => exact Or.inr ⟨by decide, hj, fun h => by omega⟩
    | 3 => exact Or.inr ⟨by decide, hj, fun h => by omega⟩
    | 4 => exact Or.inr ⟨by decide, hj, fun h => by omega⟩
    | 5 => exact Or.inr ⟨by decide, hj, fun h => by exact et_c1_cat hc (Option.some.inj hj)⟩
    | 6 => exact Or.inl ⟨rfl, (Option.some.inj (Option.some.inj hj)).symm⟩
    | j + 7 => exact Or.inr ⟨by omega, hj, fun h => by omega⟩
theorem zi_iinc6 {a0 a1 a2 a3 a4 a5 : Option Value} {x v : Int32} {n : Int} (hX : et_Gd X w b own nL ret tb rm) (hd : decode b pc = .ok (.iinc 6 n, 3)) (hv : x + Int32.ofInt n = v) (hn : Nat.ble 7 nL = true) (hc : et_c1 a5 = true) (k : et_Z X w u enc (pc + 3) (a0 :: a1 :: a2 :: a3 :: a4 :: a5 :: some (.int v) :: r) st g o) : et_Z X w u enc pc (a0 :: a1 :: a2 :: a3 :: a4 :: a5 :: some (.int x) :: r) st g o := by
  obtain ⟨p, l, e, R, s, m, args, below, meth, c⟩ := X
  intro az g1 ho H locs ls hP hS hl
  obtain ⟨q, hq⟩ := List.getElem?_of_mem (et_L_mem.mpr (rfl : (a0 :: a1 :: a2 :: a3 :: a4 :: a5 :: some (.int x) :: r)[6]? = some (some (Value.int x))))
  refine lv_iinc hX.1 hX.2.1 hd hl hq hv (by rw [hX.2.2.1]; exact Nat.le_of_ble_eq_true hn) rfl (fun ls2 h2 => k az g1 ho H locs ls2 hP hS (et_st1 h2 fun j v2 hj => ?_))
  match j with
    | 0 => exact Or.inr ⟨by decide, hj, fun h => by omega⟩
    | 1 => exact Or.inr ⟨by decide, hj, fun h => by omega⟩
    | 2 => exact Or.inr ⟨by decide, hj, fun h => by omega⟩
    | 3 => exact Or.inr ⟨by decide, hj, fun h => by omega⟩
    | 4 => exact Or.inr ⟨by decide, hj, fun h => by omega⟩
    | 5 => exact Or.inr ⟨by decide, hj, fun h => by exact et_c1_cat hc (Option.some.inj hj)⟩
    | 6 => exact Or.inl ⟨rfl, (Option.some.inj (Option.some.inj hj)).symm⟩
    | j + 7 => exact Or.inr ⟨by omega, hj, fun h => by omega⟩
theorem zi_lstore6 {a0 a1 a2 a3 a4 a5 : Option Value} {z z2 : Option Value} {x : Int64} (hX : et_Gd X w b own nL ret tb rm) (hd : decode b pc = .ok (.lstore 6, 2)) (hn : Nat.ble 8 nL = true) (hc : et_c1 a5 = true) (k : et_Z X w u enc (pc + 2) (a0 :: a1 :: a2 :: a3 :: a4 :: a5 :: some (.long x) :: none :: r) st g o) : et_Z X w u enc pc (a0 :: a1 :: a2 :: a3 :: a4 :: a5 :: z :: z2 :: r) (.long x :: st) g o := by
  obtain ⟨p, l, e, R, s, m, args, below, meth, c⟩ := X
  intro az g1 ho H locs ls hP hS hl
  refine lv_lstore hX.1 hX.2.1 hd hl (by rw [hX.2.2.1]; exact Nat.le_of_ble_eq_true hn) rfl (fun ls2 h2 => k az g1 ho H locs ls2 hP hS (et_st2 h2 fun j v2 hj => ?_))
  match j with
    | 0 => exact Or.inr ⟨by decide, by decide, hj, fun h => by omega⟩
    | 1 => exact Or.inr ⟨by decide, by decide, hj, fun h => by omega⟩
    | 2 => exact Or.inr ⟨by decide, by decide, hj, fun h => by omega⟩
    | 3 => exact Or.inr ⟨by decide, by decide, hj, fun h => by omega⟩
    | 4 => exact Or.inr ⟨by decide, by decide, hj, fun h => by omega⟩
    | 5 => exact Or.inr ⟨by decide, by decide, hj, fun h => by exact et_c1_cat hc (Option.some.inj hj)⟩
    | 6 => exact Or.inl ⟨rfl, (Option.some.inj (Option.some.inj hj)).symm⟩
    | 7 => cases hj
    | j + 8 => exact Or.inr ⟨by omega, by omega, hj, fun h => by omega⟩
theorem zi_iload7 {a0 a1 a2 a3 a4 a5 a6 : Option Value} {x : Int32} (hX : et_Gd X w b own nL ret tb rm) (hd : decode b pc = .ok (.iload 7, 2)) (k : et_Z X w u enc (pc + 2) (a0 :: a1 :: a2 :: a3 :: a4 :: a5 :: a6 :: some (.int x) :: r) (.int x :: st) g o) : et_Z X w u enc pc (a0 :: a1 :: a2 :: a3 :: a4 :: a5 :: a6 :: some (.int x) :: r) st g o := by
  obtain ⟨p, l, e, R, s, m, args, below, meth, c⟩ := X
  intro a1 g1 ho H locs ls hP hS hl
  exact lv_iload hX.1 hX.2.1 hd (hl.2.2 (7, _) (et_L_mem.mpr rfl)) (k a1 g1 ho H locs ls hP hS hl)
theorem zi_lload7 {a0 a1 a2 a3 a4 a5 a6 : Option Value} {x : Int64} (hX : et_Gd X w b own nL ret tb rm) (hd : decode b pc = .ok (.lload 7, 2)) (k : et_Z X w u enc (pc + 2) (a0 :: a1 :: a2 :: a3 :: a4 :: a5 :: a6 :: some (.long x) :: r) (.long x :: st) g o) : et_Z X w u enc pc (a0 :: a1 :: a2 :: a3 :: a4 :: a5 :: a6 :: some (.long x) :: r) st g o := by
  obtain ⟨p, l, e, R, s, m, args, below, meth, c⟩ := X
  intro a1 g1 ho H locs ls hP hS hl
  exact lv_lload hX.1 hX.2.1 hd (hl.2.2 (7, _) (et_L_mem.mpr rfl)) (k a1 g1 ho H locs ls hP hS hl)
theorem zi_aload7 {a0 a1 a2 a3 a4 a5 a6 : Option Value} {x : Nat} (hX : et_Gd X w b own nL ret tb rm) (hd : decode b pc = .ok (.aload 7, 2)) (k : et_Z X w u enc (pc + 2) (a0 :: a1 :: a2 :: a3 :: a4 :: a5 :: a6 :: some (.ref x) :: r) (.ref x :: st) g o) : et_Z X w u enc pc (a0 :: a1 :: a2 :: a3 :: a4 :: a5 :: a6 :: some (.ref x) :: r) st g o := by
  obtain ⟨p, l, e, R, s, m, args, below, meth, c⟩ := X
  intro a1 g1 ho H locs ls hP hS hl
  exact lv_aload hX.1 hX.2.1 hd (hl.2.2 (7, _) (et_L_mem.mpr rfl)) (k a1 g1 ho H locs ls hP hS hl)
theorem zi_istore7 {a0 a1 a2 a3 a4 a5 a6 : Option Value} {z : Option Value} {x : Int32} (hX : et_Gd X w b own nL ret tb rm) (hd : decode b pc = .ok (.istore 7, 2)) (hn : Nat.ble 8 nL = true) (hc : et_c1 a6 = true) (k : et_Z X w u enc (pc + 2) (a0 :: a1 :: a2 :: a3 :: a4 :: a5 :: a6 :: some (.int x) :: r) st g o) : et_Z X w u enc pc (a0 :: a1 :: a2 :: a3 :: a4 :: a5 :: a6 :: z :: r) (.int x :: st) g o := by
  obtain ⟨p, l, e, R, s, m, args, below, meth, c⟩ := X
  intro az g1 ho H locs ls hP hS hl
  refine lv_istore hX.1 hX.2.1 hd hl (by rw [hX.2.2.1]; exact Nat.le_of_ble_eq_true hn) rfl (fun ls2 h2 => k az g1 ho H locs ls2 hP hS (et_st1 h2 fun j v2 hj => ?_))
  match j with
    | 0 => exact Or.inr ⟨by decide, hj, fun h => by omega⟩
    | 1 => exact Or.inr ⟨by decide, hj, fun h => by omega⟩
    | 2 => exact Or.inr ⟨by decide, hj, fun h => by omega⟩
    | 3 => exact Or.inr ⟨by decide, hj, fun h => by omega⟩
    | 4 => exact Or.inr ⟨by decide, hj, fun h => by omega⟩
    | 5 => exact Or.inr ⟨by decide, hj, fun h => by omega⟩
    | 6 => exact Or.inr ⟨by decide, hj, fun h => by exact et_c1_cat hc (Option.some.inj hj)⟩
    | 7 => exact Or.inl ⟨rfl, (Option.some.inj (Option.some.inj hj)).symm⟩
    | j + 8 => exact Or.inr ⟨by omega, hj, fun h => by omega⟩
theorem zi_astore7 {a0 a1 a2 a3 a4 a5 a6 : Option Value} {z : Option Value} {x : Nat} (hX : et_Gd X w b own nL ret tb rm) (hd : decode b pc = .ok (.astore 7, 2)) (hn : Nat.ble 8 nL = true) (hc : et_c1 a6 = true) (k : et_Z X w u enc (pc + 2) (a0 :: a1 :: a2 :: a3 :: a4 :: a5 :: a6 :: some (.ref x) :: r) st g o) : et_Z X w u enc pc (a0 :: a1 :: a2 :: a3 :: a4 :: a5 :: a6 :: z :: r) (.ref x :: st) g o := by
  obtain ⟨p, l, e, R, s, m, args, below, meth, c⟩ := X
  intro az g1 ho H locs ls hP hS hl
  refine lv_astore hX.1 hX.2.1 hd hl (by rw [hX.2.2.1]; exact Nat.le_of_ble_eq_true hn) rfl (fun ls2 h2 => k az g1 ho H locs ls2 hP hS (et_st1 h2 fun j v2 hj => ?_))
  match j with
    | 0 => exact Or.inr ⟨by decide, hj, fun h => by omega⟩
    | 1 => exact Or.inr ⟨by decide, hj, fun h => by omega⟩
    | 2 => exact Or.inr ⟨by decide, hj, fun h => by omega⟩
    | 3 => exact Or.inr ⟨by decide, hj, fun h => by omega⟩
    | 4 => exact Or.inr ⟨by decide, hj, fun h => by omega⟩
    | 5 => exact Or.inr ⟨by decide, hj, fun h => by omega⟩
    | 6 => exact Or.inr ⟨by decide, hj, fun h => by exact et_c1_cat hc (Option.some.inj hj)⟩
    | 7 => exact Or.inl ⟨rfl, (Option.some.inj (Option.some.inj hj)).symm⟩
    | j + 8 => exact Or.inr ⟨by omega, hj, fun h => by omega⟩
theorem zi_iinc7 {a0 a1 a2 a3 a4 a5 a6 : Option Value} {x v : Int32} {n : Int} (hX : et_Gd X w b own nL ret tb rm) (hd : decode b pc = .ok (.iinc 7 n, 3)) (hv : x + Int32.ofInt n = v) (hn : Nat.ble 8 nL = true) (hc : et_c1 a6 = true) (k : et_Z X w u enc (pc + 3) (a0 :: a1 :: a2 :: a3 :: a4 :: a5 :: a6 :: some (.int v) :: r) st g o) : et_Z X w u enc pc (a0 :: a1 :: a2 :: a3 :: a4 :: a5 :: a6 :: some (.int x) :: r) st g o := by
  obtain ⟨p, l, e, R, s, m, args, below, meth, c⟩ := X
  intro az g1 ho H locs ls hP hS hl
  obtain ⟨q, hq⟩ := List.getElem?_of_mem (et_L_mem.mpr (rfl : (a0 :: a1 :: a2 :: a3 :: a4 :: a5 :: a6 :: some (.int x) :: r)[7]? = some (some (Value.int x))))
  refine lv_iinc hX.1 hX.2.1 hd hl hq hv (by rw [hX.2.2.1]; exact Nat.le_of_ble_eq_true hn) rfl (fun ls2 h2 => k az g1 ho H locs ls2 hP hS (et_st1 h2 fun j v2 hj => ?_))
  match j with
    | 0 => exact Or.inr ⟨by decide, hj, fun h => by omega⟩
    | 1 => exact Or.inr ⟨by decide, hj, fun h => by omega⟩
    | 2 => exact Or.inr ⟨by decide, hj, fun h => by omega⟩
    | 3 => exact Or.inr ⟨by decide, hj, fun h => by omega⟩
    | 4 => exact Or.inr ⟨by decide, hj, fun h => by omega⟩
    | 5 => exact Or.inr ⟨by decide, hj, fun h => by omega⟩
    | 6 => exact Or.inr ⟨by decide, hj, fun h => by exact et_c1_cat hc (Option.some.inj hj)⟩
    | 7 => exact Or.inl ⟨rfl, (Option.some.inj (Option.some.inj hj)).symm⟩
    | j + 8 => exact Or.inr ⟨by omega, hj, fun h => by omega⟩
theorem zi_lstore7 {a0 a1 a2 a3 a4 a5 a6 : Option Value} {z z2 : Option Value} {x : Int64} (hX : et_Gd X w b own nL ret tb rm) (hd : decode b pc = .ok (.lstore 7, 2)) (hn : Nat.ble 9 nL = true) (hc : et_c1 a6 = true) (k : et_Z X w u enc (pc + 2) (a0 :: a1 :: a2 :: a3 :: a4 :: a5 :: a6 :: some (.long x) :: none :: r) st g o) : et_Z X w u enc pc (a0 :: a1 :: a2 :: a3 :: a4 :: a5 :: a6 :: z :: z2 :: r) (.long x :: st) g o := by
  obtain ⟨p, l, e, R, s, m, args, below, meth, c⟩ := X
  intro az g1 ho H locs ls hP hS hl
  refine lv_lstore hX.1 hX.2.1 hd hl (by rw [hX.2.2.1]; exact Nat.le_of_ble_eq_true hn) rfl (fun ls2 h2 => k az g1 ho H locs ls2 hP hS (et_st2 h2 fun j v2 hj => ?_))
  match j with
    | 0 => exact Or.inr ⟨by decide, by decide, hj, fun h => by omega⟩
    | 1 => exact Or.inr ⟨by decide, by decide, hj, fun h => by omega⟩
    | 2 => exact Or.inr ⟨by decide, by decide, hj, fun h => by omega⟩
    | 3 => exact Or.inr ⟨by decide, by decide, hj, fun h => by omega⟩
    | 4 => exact Or.inr ⟨by decide, by decide, hj, fun h => by omega⟩
    | 5 => exact Or.inr ⟨by decide, by decide, hj, fun h => by omega⟩
    | 6 => exact Or.inr ⟨by decide, by decide, hj, fun h => by exact et_c1_cat hc (Option.some.inj hj)⟩
    | 7 => exact Or.inl ⟨rfl, (Option.some.inj (Option.some.inj hj)).symm⟩
    | 8 => cases hj
    | j + 9 => exact Or.inr ⟨by omega, by omega, hj, fun h => by omega⟩
theorem zi_iload8 {a0 a1 a2 a3 a4 a5 a6 a7 : Option Value} {x : Int32} (hX : et_Gd X w b own nL ret tb rm) (hd : decode b pc = .ok (.iload 8, 2)) (k : et_Z X w u enc (pc + 2) (a0 :: a1 :: a2 :: a3 :: a4 :: a5 :: a6 :: a7 :: some (.int x) :: r) (.int x :: st) g o) : et_Z X w u enc pc (a0 :: a1 :: a2 :: a3 :: a4 :: a5 :: a6 :: a7 :: some (.int x) :: r) st g o := by
  obtain ⟨p, l, e, R, s, m, args, below, meth, c⟩ := X
  intro a1 g1 ho H locs ls hP hS hl
  exact lv_iload hX.1 hX.2.1 hd (hl.2.2 (8, _) (et_L_mem.mpr rfl)) (k a1 g1 ho H locs ls hP hS hl)
theorem zi_lload8 {a0 a1 a2 a3 a4 a5 a6 a7 : Option Value} {x : Int64} (hX : et_Gd X w b own nL ret tb rm) (hd : decode b pc = .ok (.lload 8, 2)) (k : et_Z X w u enc (pc + 2) (a0 :: a1 :: a2 :: a3 :: a4 :: a5 :: a6 :: a7 :: some (.long x) :: r) (.long x :: st) g o) : et_Z X w u enc pc (a0 :: a1 :: a2 :: a3 :: a4 :: a5 :: a6 :: a7 :: some (.long x) :: r) st g o := by
  obtain ⟨p, l, e, R, s, m, args, below, meth, c⟩ := X
  intro a1 g1 ho H locs ls hP hS hl
  exact lv_lload hX.1 hX.2.1 hd (hl.2.2 (8, _) (et_L_mem.mpr rfl)) (k a1 g1 ho H locs ls hP hS hl)
theorem zi_aload8 {a0 a1 a2 a3 a4 a5 a6 a7 : Option Value} {x : Nat} (hX : et_Gd X w b own nL ret tb rm) (hd : decode b pc = .ok (.aload 8, 2)) (k : et_Z X w u enc (pc + 2) (a0 :: a1 :: a2 :: a3 :: a4 :: a5 :: a6 :: a7 :: some (.ref x) :: r) (.ref x :: st) g o) : et_Z X w u enc pc (a0 :: a1 :: a2 :: a3 :: a4 :: a5 :: a6 :: a7 :: some (.ref x) :: r) st g o := by
  obtain ⟨p, l, e, R, s, m, args, below, meth, c⟩ := X
  intro a1 g1 ho H locs ls hP hS hl
  exact lv_aload hX.1 hX.2.1 hd (hl.2.2 (8, _) (et_L_mem.mpr rfl)) (k a1 g1 ho H locs ls hP hS hl)
theorem zi_istore8 {a0 a1 a2 a3 a4 a5 a6 a7 : Option Value} {z : Option Value} {x : Int32} (hX : et_Gd X w b own nL ret tb rm) (hd : decode b pc = .ok (.istore 8, 2)) (hn : Nat.ble 9 nL = true) (hc : et_c1 a7 = true) (k : et_Z X w u enc (pc + 2) (a0 :: a1 :: a2 :: a3 :: a4 :: a5 :: a6 :: a7 :: some (.int x) :: r) st g o) : et_Z X w u enc pc (a0 :: a1 :: a2 :: a3 :: a4 :: a5 :: a6 :: a7 :: z :: r) (.int x :: st) g o := by
  obtain ⟨p, l, e, R, s, m, args, below, meth, c⟩ := X
  intro az g1 ho H locs ls hP hS hl
  refine lv_istore hX.1 hX.2.1 hd hl (by rw [hX.2.2.1]; exact Nat.le_of_ble_eq_true hn) rfl (fun ls2 h2 => k az g1 ho H locs ls2 hP hS (et_st1 h2 fun j v2 hj => ?_))
  match j with
    | 0 => exact Or.inr ⟨by decide, hj, fun h => by omega⟩
    | 1 => exact Or.inr ⟨by decide, hj, fun h => by omega⟩
    | 2 => exact Or.inr ⟨by decide, hj, fun h => by omega⟩
    | 3 => exact Or.inr ⟨by decide, hj, fun h => by omega⟩
    | 4 => exact Or.inr ⟨by decide, hj, fun h => by omega⟩
    | 5 => exact Or.inr ⟨by decide, hj, fun h => by omega⟩
    | 6 => exact Or.inr ⟨by decide, hj, fun h => by omega⟩
    | 7 => exact Or.inr ⟨by decide, hj, fun h => by exact et_c1_cat hc (Option.some.inj hj)⟩
    | 8 => exact Or.inl ⟨rfl, (Option.some.inj (Option.some.inj hj)).symm⟩
    | j + 9 => exact Or.inr ⟨by omega, hj, fun h => by omega⟩
theorem zi_astore8 {a0 a1 a2 a3 a4 a5 a6 a7 : Option Value} {z : Option Value} {x : Nat} (hX : et_Gd X w b own nL ret tb rm) (hd : decode b pc = .ok (.astore 8, 2)) (hn : Nat.ble 9 nL = true) (hc : et_c1 a7 = true) (k : et_Z X w u enc (pc + 2) (a0 :: a1 :: a2 :: a3 :: a4 :: a5 :: a6 :: a7 :: some (.ref x) :: r) st g o) : et_Z X w u enc pc (a0 :: a1 :: a2 :: a3 :: a4 :: a5 :: a6 :: a7 :: z :: r) (.ref x :: st) g o := by
  obtain ⟨p, l, e, R, s, m, args, below, meth, c⟩ := X
  intro az g1 ho H locs ls hP hS hl
  refine lv_astore hX.1 hX.2.1 hd hl (by rw [hX.2.2.1]; exact Nat.le_of_ble_eq_true hn) rfl (fun ls2 h2 => k az g1 ho H locs ls2 hP hS (et_st1 h2 fun j v2 hj => ?_))
  match j with
    | 0 => exact Or.inr ⟨by decide, hj, fun h => by omega⟩
    | 1 => exact Or.inr ⟨by decide, hj, fun h => by omega⟩
    | 2 => exact Or.inr ⟨by decide, hj, fun h => by omega⟩
    | 3 => exact Or.inr ⟨by decide, hj, fun h => by omega⟩
    | 4 => exact Or.inr ⟨by decide, hj, fun h => by omega⟩
    | 5 => exact Or.inr ⟨by decide, hj, fun h => by omega⟩
    | 6 => exact Or.inr ⟨by decide, hj, fun h => by omega⟩
    | 7 => exact Or.inr ⟨by decide, hj, fun h => by exact et_c1_cat hc (Option.some.inj hj)⟩
    | 8 => exact Or.inl ⟨rfl, (Option.some.inj (Option.some.inj hj)).symm⟩
    | j + 9 => exact Or.inr ⟨by omega, hj, fun h => by omega⟩
theorem zi_iinc8 {a0 a1 a2 a3 a4 a5 a6 a7 : Option Value} {x v : Int32} {n : Int} (hX : et_Gd X w b own nL ret tb rm) (hd : decode b pc = .ok (.iinc 8 n, 3)) (hv : x + Int32.ofInt n = v) (hn : Nat.ble 9 nL = true) (hc : et_c1 a7 = true) (k : et_Z X w u enc (pc + 3) (a0 :: a1 :: a2 :: a3 :: a4 :: a5 :: a6 :: a7 :: some (.int v) :: r) st g o) : et_Z X w u enc pc (a0 :: a1 :: a2 :: a3 :: a4 :: a5 :: a6 :: a7 :: some (.int x) :: r) st g o := by
  obtain ⟨p, l, e, R, s, m, args, below, meth, c⟩ := X
  intro az g1 ho H locs ls hP hS hl
  obtain ⟨q, hq⟩ := List.getElem?_of_mem (et_L_mem.mpr (rfl : (a0 :: a1 :: a2 :: a3 :: a4 :: a5 :: a6 :: a7 :: some (.int x) :: r)[8]? = some (some (Value.int x))))
  refine lv_iinc hX.1 hX.2.1 hd hl hq hv (by rw [hX.2.2.1]; exact Nat.le_of_ble_eq_true hn) rfl (fun ls2 h2 => k az g1 ho H locs ls2 hP hS (et_st1 h2 fun j v2 hj => ?_))
  match j with
    | 0 => exact Or.inr ⟨by decide, hj, fun h => by omega⟩
    | 1 => exact Or.inr ⟨by decide, hj, fun h => by omega⟩
    | 2 => exact Or.inr ⟨by decide, hj, fun h => by omega⟩
    | 3 => exact Or.inr ⟨by decide, hj, fun h => by omega⟩
    | 4 => exact Or.inr ⟨by decide, hj, fun h => by omega⟩
    | 5 => exact Or.inr ⟨by decide, hj, fun h => by omega⟩
    | 6 => exact Or.inr ⟨by decide, hj, fun h => by omega⟩
    | 7 => exact Or.inr ⟨by decide, hj, fun h => by exact et_c1_cat hc (Option.some.inj hj)⟩
    | 8 => exact Or.inl ⟨rfl, (Option.some.inj (Option.some.inj hj)).symm⟩
    | j + 9 => exact Or.inr ⟨by omega, hj, fun h => by omega⟩
theorem zi_lstore8 {a0 a1 a2 a3 a4 a5 a6 a7 : Option Value} {z z2 : Option Value} {x : Int64} (hX : et_Gd X w b own nL ret tb rm) (hd : decode b pc = .ok (.lstore 8, 2)) (hn : Nat.ble 10 nL = true) (hc : et_c1 a7 = true) (k : et_Z X w u enc (pc + 2) (a0 :: a1 :: a2 :: a3 :: a4 :: a5 :: a6 :: a7 :: some (.long x) :: none :: r) st g o) : et_Z X w u enc pc (a0 :: a1 :: a2 :: a3 :: a4 :: a5 :: a6 :: a7 :: z :: z2 :: r) (.long x :: st) g o := by
  obtain ⟨p, l, e, R, s, m, args, below, meth, c⟩ := X
  intro az g1 ho H locs ls hP hS hl
  refine lv_lstore hX.1 hX.2.1 hd hl (by rw [hX.2.2.1]; exact Nat.le_of_ble_eq_true hn) rfl (fun ls2 h2 => k az g1 ho H locs ls2 hP hS (et_st2 h2 fun j v2 hj => ?_))
  match j with
    | 0 => exact Or.inr ⟨by decide, by decide, hj, fun h => by omega⟩
    | 1 => exact Or.inr ⟨by decide, by decide, hj, fun h => by omega⟩
    | 2 => exact Or.inr ⟨by decide, by decide, hj, fun h => by omega⟩
    | 3 => exact Or.inr ⟨by decide, by decide, hj, fun h => by omega⟩
    | 4 => exact Or.inr ⟨by decide, by decide, hj, fun h => by omega⟩
    | 5 => exact Or.inr ⟨by decide, by decide, hj, fun h => by omega⟩
    | 6 => exact Or.inr ⟨by decide, by decide, hj, fun h => by omega⟩
    | 7 => exact Or.inr ⟨by decide, by decide, hj, fun h => by exact et_c1_cat hc (Option.some.inj hj)⟩
    | 8 => exact Or.inl ⟨rfl, (Option.some.inj (Option.some.inj hj)).symm⟩
    | 9 => cases hj
    | j + 10 => exact Or.inr ⟨by omega, by omega, hj, fun h => by omega⟩
theorem zi_iload9 {a0 a1 a2 a3 a4 a5 a6 a7 a8 : Option Value} {x : Int32} (hX : et_Gd X w b own nL ret tb rm) (hd : decode b pc = .ok (.iload 9, 2)) (k : et_Z X w u enc (pc + 2) (a0 :: a1 :: a2 :: a3 :: a4 :: a5 :: a6 :: a7 :: a8 :: some (.int x) :: r) (.int x :: st) g o) : et_Z X w u enc pc (a0 :: a1 :: a2 :: a3 :: a4 :: a5 :: a6 :: a7 :: a8 :: some (.int x) :: r) st g o := by
  obtain ⟨p, l, e, R, s, m, args, below, meth, c⟩ := X
  intro a1 g1 ho H locs ls hP hS hl
  exact lv_iload hX.1 hX.2.1 hd (hl.2.2 (9, _) (et_L_mem.mpr rfl)) (k a1 g1 ho H locs ls hP hS hl)
theorem zi_lload9 {a0 a1 a2 a3 a4 a5 a6 a7 a8 : Option Value} {x : Int64} (hX : et_Gd X w b own nL ret tb rm) (hd : decode b pc = .ok (.lload 9, 2)) (k : et_Z X w u enc (pc + 2) (a0 :: a1 :: a2 :: a3 :: a4 :: a5 :: a6 :: a7 :: a8 :: some (.long x) :: r) (.long x :: st) g o) : et_Z X w u enc pc (a0 :: a1 :: a2 :: a3 :: a4 :: a5 :: a6 :: a7 :: a8 :: some (.long x) :: r) st g o := by
  obtain ⟨p, l, e, R, s, m, args, below, meth, c⟩ := X
  intro a1 g1 ho H locs ls hP hS hl
  exact lv_lload hX.1 hX.2.1 hd (hl.2.2 (9, _) (et_L_mem.mpr rfl)) (k a1 g1 ho H locs ls hP hS hl)
theorem zi_aload9 {a0 a1 a2 a3 a4 a5 a6 a7 a8 : Option Value} {x : Nat} (hX : et_Gd X w b own nL ret tb rm) (hd : decode b pc = .ok (.aload 9, 2)) (k : et_Z X w u enc (pc + 2) (a0 :: a1 :: a2 :: a3 :: a4 :: a5 :: a6 :: a7 :: a8 :: some (.ref x) :: r) (.ref x :: st) g o) : et_Z X w u enc pc (a0 :: a1 :: a2 :: a3 :: a4 :: a5 :: a6 :: a7 :: a8 :: some (.ref x) :: r) st g o := by
  obtain ⟨p, l, e, R, s, m, args, below, meth, c⟩ := X
  intro a1 g1 ho H locs ls hP hS hl
  exact lv_aload hX.1 hX.2.1 hd (hl.2.2 (9, _) (et_L_mem.mpr rfl)) (k a1 g1 ho H locs ls hP hS hl)
theorem zi_istore9 {a0 a1 a2 a3 a4 a5 a6 a7 a8 : Option Value} {z : Option Value} {x : Int32} (hX : et_Gd X w b own nL ret tb rm) (hd : decode b pc = .ok (.istore 9, 2)) (hn : Nat.ble 10 nL = true) (hc : et_c1 a8 = true) (k : et_Z X w u enc (pc + 2) (a0 :: a1 :: a2 :: a3 :: a4 :: a5 :: a6 :: a7 :: a8 :: some (.int x) :: r) st g o) : et_Z X w u enc pc (a0 :: a1 :: a2 :: a3 :: a4 :: a5 :: a6 :: a7 :: a8 :: z :: r) (.int x :: st) g o := by
  obtain ⟨p, l, e, R, s, m, args, below, meth, c⟩ := X
  intro az g1 ho H locs ls hP hS hl
  refine lv_istore hX.1 hX.2.1 hd hl (by rw [hX.2.2.1]; exact Nat.le_of_ble_eq_true hn) rfl (fun ls2 h2 => k az g1 ho H locs ls2 hP hS (et_st1 h2 fun j v2 hj => ?_))
  match j with
    | 0 => exact Or.inr ⟨by decide, hj, fun h => by omega⟩
    | 1 => exact Or.inr ⟨by decide, hj, fun h => by omega⟩
    | 2 => exact Or.inr ⟨by decide, hj, fun h => by omega⟩
    | 3 => exact Or.inr ⟨by decide, hj, fun h => by omega⟩
    | 4 => exact Or.inr ⟨by decide, hj, fun h => by omega⟩
    | 5 => exact Or.inr ⟨by decide, hj, fun h => by omega⟩
    | 6 => exact Or.inr ⟨by decide, hj, fun h => by omega⟩
    | 7 => exact Or.inr ⟨by decide, hj, fun h => by omega⟩
    | 8 => exact Or.inr ⟨by decide, hj, fun h => by exact et_c1_cat hc (Option.some.inj hj)⟩
    | 9 => exact Or.inl ⟨rfl, (Option.some.inj (Option.some.inj hj)).symm⟩
    | j + 10 => exact Or.inr ⟨by omega, hj, fun h => by omega⟩
theorem zi_astore9 {a0 a1 a2 a3 a4 a5 a6 a7 a8 : Option Value} {z : Option Value} {x : Nat} (hX : et_Gd X w b own nL ret tb rm) (hd : decode b pc = .ok (.astore 9, 2)) (hn : Nat.ble 10 nL = true) (hc : et_c1 a8 = true) (k : et_Z X w u enc (pc + 2) (a0 :: a1 :: a2 :: a3 :: a4 :: a5 :: a6 :: a7 :: a8 :: some (.ref x) :: r) st g o) : et_Z X w u enc pc (a0 :: a1 :: a2 :: a3 :: a4 :: a5 :: a6 :: a7 :: a8 :: z :: r) (.ref x :: st) g o := by
  obtain ⟨p, l, e, R, s, m, args, below, meth, c⟩ := X
  intro az g1 ho H locs ls hP hS hl
  refine lv_astore hX.1 hX.2.1 hd hl (by rw [hX.2.2.1]; exact Nat.le_of_ble_eq_true hn) rfl (fun ls2 h2 => k az g1 ho H locs ls2 hP hS (et_st1 h2 fun j v2 hj => ?_))
  match j with
    | 0 => exact Or.inr ⟨by decide, hj, fun h => by omega⟩
    | 1 => exact Or.inr ⟨by decide, hj, fun h => by omega⟩
    | 2 => exact Or.inr ⟨by decide, hj, fun h => by omega⟩
    | 3 => exact Or.inr ⟨by decide, hj, fun h => by omega⟩
    | 4 => exact Or.inr ⟨by decide, hj, fun h => by omega⟩
    | 5 => exact Or.inr ⟨by decide, hj, fun h => by omega⟩
    | 6 => exact Or.inr ⟨by decide, hj, fun h => by omega⟩
    | 7 => exact Or.inr ⟨by decide, hj, fun h => by omega⟩
    | 8 => exact Or.inr ⟨by decide, hj, fun h => by exact et_c1_cat hc (Option.some.inj hj)⟩
    | 9 => exact Or.inl ⟨rfl, (Option.some.inj (Option.some.inj hj)).symm⟩
    | j + 10 => exact Or.inr ⟨by omega, hj, fun h => by omega⟩
theorem zi_iinc9 {a0 a1 a2 a3 a4 a5 a6 a7 a8 : Option Value} {x v : Int32} {n : Int} (hX : et_Gd X w b own nL ret tb rm) (hd : decode b pc = .ok (.iinc 9 n, 3)) (hv : x + Int32.ofInt n = v) (hn : Nat.ble 10 nL = true) (hc : et_c1 a8 = true) (k : et_Z X w u enc (pc + 3) (a0 :: a1 :: a2 :: a3 :: a4 :: a5 :: a6 :: a7 :: a8 :: some (.int v) :: r) st g o) : et_Z X w u enc pc (a0 :: a1 :: a2 :: a3 :: a4 :: a5 :: a6 :: a7 :: a8 :: some (.int x) :: r) st g o := by
  obtain ⟨p, l, e, R, s, m, args, below, meth, c⟩ := X
  intro az g1 ho H locs ls hP hS hl
  obtain ⟨q, hq⟩ := List.getElem?_of_mem (et_L_mem.mpr (rfl : (a0 :: a1 :: a2 :: a3 :: a4 :: a5 :: a6 :: a7 :: a8 :: some (.int x) :: r)[9]? = some (some (Value.int x))))
  refine lv_iinc hX.1 hX.2.1 hd hl hq hv (by rw [hX.2.2.1]; exact Nat.le_of_ble_eq_true hn) rfl (fun ls2 h2 => k az g1 ho H locs ls2 hP hS (et_st1 h2 fun j v2 hj => ?_))
  match j with
    | 0 => exact Or.inr ⟨by decide, hj, fun h => by omega⟩
    | 1 => exact Or.inr ⟨by decide, hj, fun h => by omega⟩
    | 2 => exact Or.inr ⟨by decide, hj, fun h => by omega⟩
    | 3 => exact Or.inr ⟨by decide, hj, fun h => by omega⟩
    | 4 => exact Or.inr ⟨by decide, hj, fun h => by omega⟩
    | 5 => exact Or.inr ⟨by decide, hj, fun h => by omega⟩
    | 6 => exact Or.inr ⟨by decide, hj, fun h => by omega⟩
    | 7 => exact Or.inr ⟨by decide, hj, fun h => by omega⟩
    | 8 => exact Or.inr ⟨by decide, hj, fun h => by exact et_c1_cat hc (Option.some.inj hj)⟩
    | 9 => exact Or.inl ⟨rfl, (Option.some.inj (Option.some.inj hj)).symm⟩
    | j + 10 => exact Or.inr ⟨by omega, hj, fun h => by omega⟩
theorem zi_lstore9 {a0 a1 a2 a3 a4 a5 a6 a7 a8 : Option Value} {z z2 : Option Value} {x : Int64} (hX : et_Gd X w b own nL ret tb rm) (hd : decode b pc = .ok (.lstore 9, 2)) (hn : Nat.ble 11 nL = true) (hc : et_c1 a8 = true) (k : et_Z X w u enc (pc + 2) (a0 :: a1 :: a2 :: a3 :: a4 :: a5 :: a6 :: a7 :: a8 :: some (.long x) :: none :: r) st g o) : et_Z X w u enc pc (a0 :: a1 :: a2 :: a3 :: a4 :: a5 :: a6 :: a7 :: a8 :: z :: z2 :: r) (.long x :: st) g o := by
  obtain ⟨p, l, e, R, s, m, args, below, meth, c⟩ := X
  intro az g1 ho H locs ls hP hS hl
  refine lv_lstore hX.1 hX.2.1 hd hl (by rw [hX.2.2.1]; exact Nat.le_of_ble_eq_true hn) rfl (fun ls2 h2 => k az g1 ho H locs ls2 hP hS (et_st2 h2 fun j v2 hj => ?_))
  match j with
    | 0 => exact Or.inr ⟨by decide, by decide, hj, fun h => by omega⟩
    | 1 => exact Or.inr ⟨by decide, by decide, hj, fun h => by omega⟩
    | 2 => exact Or.inr ⟨by decide, by decide, hj, fun h => by omega⟩
    | 3 => exact Or.inr ⟨by decide, by decide, hj, fun h => by omega⟩
    | 4 => exact Or.inr ⟨by decide, by decide, hj, fun h => by omega⟩
    | 5 => exact Or.inr ⟨by decide, by decide, hj, fun h => by omega⟩
    | 6 => exact Or.inr ⟨by decide, by decide, hj, fun h => by omega⟩
    | 7 => exact Or.inr ⟨by decide, by decide, hj, fun h => by omega⟩
    | 8 => exact Or.inr ⟨by decide, by decide, hj, fun h => by exact et_c1_cat hc (Option.some.inj hj)⟩
    | 9 => exact Or.inl ⟨rfl, (Option.some.inj (Option.some.inj hj)).symm⟩
    | 10 => cases hj
    | j + 11 => exact Or.inr ⟨by omega, by omega, hj, fun h => by omega⟩
theorem zi_iload10 {a0 a1 a2 a3 a4 a5 a6 a7 a8 a9 : Option Value} {x : Int32} (hX : et_Gd X w b own nL ret tb rm) (hd : decode b pc = .ok (.iload 10, 2)) (k : et_Z X w u enc (pc + 2) (a0 :: a1 :: a2 :: a3 :: a4 :: a5 :: a6 :: a7 :: a8 :: a9 :: some (.int x) :: r) (.int x :: st) g o) : et_Z X w u enc pc (a0 :: a1 :: a2 :: a3 :: a4 :: a5 :: a6 :: a7 :: a8 :: a9 :: some (.int x) :: r) st g o := by
  obtain ⟨p, l, e, R, s, m, args, below, meth, c⟩ := X
  intro a1 g1 ho H locs ls hP hS hl
  exact lv_iload hX.1 hX.2.1 hd (hl.2.2 (10, _) (et_L_mem.mpr rfl)) (k a1 g1 ho H locs ls hP hS hl)
theorem zi_lload10 {a0 a1 a2 a3 a4 a5 a6 a7 a8 a9 : Option Value} {x : Int64} (hX : et_Gd X w b own nL ret tb rm) (hd : decode b pc = .ok (.lload 10, 2)) (k : et_Z X w u enc (pc + 2) (a0 :: a1 :: a2 :: a3 :: a4 :: a5 :: a6 :: a7 :: a8 :: a9 :: some (.long x) :: r) (.long x :: st) g o) : et_Z X w u enc pc (a0 :: a1 :: a2 :: a3 :: a4 :: a5 :: a6 :: a7 :: a8 :: a9 :: some (.long x) :: r) st g o := by
  obtain ⟨p, l, e, R, s, m, args, below, meth, c⟩ := X
  intro a1 g1 ho H locs ls hP hS hl
  exact lv_lload hX.1 hX.2.1 hd (hl.2.2 (10, _) (et_L_mem.mpr rfl)) (k a1 g1 ho H locs ls hP hS hl)
theorem zi_aload10 {a0 a1 a2 a3 a4 a5 a6 a7 a8 a9 : Option Value} {x : Nat} (hX : et_Gd X w b own nL ret tb rm) (hd : decode b pc = .ok (.aload 10, 2)) (k : et_Z X w u enc (pc + 2) (a0 :: a1 :: a2 :: a3 :: a4 :: a5 :: a6 :: a7 :: a8 :: a9 :: some (.ref x) :: r) (.ref x :: st) g o) : et_Z X w u enc pc (a0 :: a1 :: a2 :: a3 :: a4 :: a5 :: a6 :: a7 :: a8 :: a9 :: some (.ref x) :: r) st g o := by
  obtain ⟨p, l, e, R, s, m, args, below, meth, c⟩ := X
  intro a1 g1 ho H locs ls hP hS hl
  exact lv_aload hX.1 hX.2.1 hd (hl.2.2 (10, _) (et_L_mem.mpr rfl)) (k a1 g1 ho H locs ls hP hS hl)
theorem zi_istore10 {a0 a1 a2 a3 a4 a5 a6 a7 a8 a9 : Option Value} {z : Option Value} {x : Int32} (hX : et_Gd X w b own nL ret tb rm) (hd : decode b pc = .ok (.istore 10, 2)) (hn : Nat.ble 11 nL = true) (hc : et_c1 a9 = true) (k : et_Z X w u enc (pc + 2) (a0 :: a1 :: a2 :: a3 :: a4 :: a5 :: a6 :: a7 :: a8 :: a9 :: some (.int x) :: r) st g o) : et_Z X w u enc pc (a0 :: a1 :: a2 :: a3 :: a4 :: a5 :: a6 :: a7 :: a8 :: a9 :: z :: r) (.int x :: st) g o := by
  obtain ⟨p, l, e, R, s, m, args, below, meth, c⟩ := X
  intro az g1 ho H locs ls hP hS hl
  refine lv_istore hX.1 hX.2.1 hd hl (by rw [hX.2.2.1]; exact Nat.le_of_ble_eq_true hn) rfl (fun ls2 h2 => k az g1 ho H locs ls2 hP hS (et_st1 h2 fun j v2 hj => ?_))
  match j with
    | 0 => exact Or.inr ⟨by decide, hj, fun h => by omega⟩
    | 1 => exact Or.inr ⟨by decide, hj, fun h => by omega⟩
    | 2 => exact Or.inr ⟨by decide, hj, fun h => by omega⟩
    | 3 => exact Or.inr ⟨by decide, hj, fun h => by omega⟩
    | 4 => exact Or.inr ⟨by decide, hj, fun h => by omega⟩
    | 5 => exact Or.inr ⟨by decide, hj, fun h => by omega⟩
    | 6 => exact Or.inr ⟨by decide, hj, fun h => by omega⟩
    | 7 => exact Or.inr ⟨by decide, hj, fun h => by omega⟩
    | 8 => exact Or.inr ⟨by decide, hj, fun h => by omega⟩
    | 9 => exact Or.inr ⟨by decide, hj, fun h => by exact et_c1_cat hc (Option.some.inj hj)⟩
    | 10 => exact Or.inl ⟨rfl, (Option.some.inj (Option.some.inj hj)).symm⟩
    | j + 11 => exact Or.inr ⟨by omega, hj, fun h => by omega⟩
theorem zi_astore10 {a0 a1 a2 a3 a4 a5 a6 a7 a8 a9 : Option Value} {z : Option Value} {x : Nat} (hX : et_Gd X w b own nL ret tb rm) (hd : decode b pc = .ok (.astore 10, 2)) (hn : Nat.ble 11 nL = true) (hc : et_c1 a9 = true) (k : et_Z X w u enc (pc + 2) (a0 :: a1 :: a2 :: a3 :: a4 :: a5 :: a6 :: a7 :: a8 :: a9 :: some (.ref x) :: r) st g o) : et_Z X w u enc pc (a0 :: a1 :: a2 :: a3 :: a4 :: a5 :: a6 :: a7 :: a8 :: a9 :: z :: r) (.ref x :: st) g o := by
  obtain ⟨p, l, e, R, s, m, args, below, meth, c⟩ := X
  intro az g1 ho H locs ls hP hS hl
  refine lv_astore hX.1 hX.2.1 hd hl (by rw [hX.2.2.1]; exact Nat.le_of_ble_eq_true hn) rfl (fun ls2 h2 => k az g1 ho H locs ls2 hP hS (et_st1 h2 fun j v2 hj => ?_))
  match j with
    | 0 => exact Or.inr ⟨by decide, hj, fun h => by omega⟩
    | 1 => exact Or.inr ⟨by decide, hj, fun h => by omega⟩
    | 2 => exact Or.inr ⟨by decide, hj, fun h => by omega⟩
    | 3 => exact Or.inr ⟨by decide, hj, fun h => by omega⟩
    | 4 => exact Or.inr ⟨by decide, hj, fun h => by omega⟩
    | 5 => exact Or.inr ⟨by decide, hj, fun h => by omega⟩
    | 6 => exact Or.inr ⟨by decide, hj, fun h => by omega⟩
    | 7 => exact Or.inr ⟨by decide, hj, fun h => by omega⟩
    | 8 => exact Or.inr ⟨by decide, hj, fun h => by omega⟩
    | 9 => exact Or.inr ⟨by decide, hj, fun h => by exact et_c1_cat hc (Option.some.inj hj)⟩
    | 10 => exact Or.inl ⟨rfl, (Option.some.inj (Option.some.inj hj)).symm⟩
    | j + 11 => exact Or.inr ⟨by omega, hj, fun h => by omega⟩
theorem zi_iinc10 {a0 a1 a2 a3 a4 a5 a6 a7 a8 a9 : Option Value} {x v : Int32} {n : Int} (hX : et_Gd X w b own nL ret tb rm) (hd : decode b pc = .ok (.iinc 10 n, 3)) (hv : x + Int32.ofInt n = v) (hn : Nat.ble 11 nL = true) (hc : et_c1 a9 = true) (k : et_Z X w u enc (pc + 3) (a0 :: a1 :: a2 :: a3 :: a4 :: a5 :: a6 :: a7 :: a8 :: a9 :: some (.int v) :: r) st g o) : et_Z X w u enc pc (a0 :: a1 :: a2 :: a3 :: a4 :: a5 :: a6 :: a7 :: a8 :: a9 :: some (.int x) :: r) st g o := by
  obtain ⟨p, l, e, R, s, m, args, below, meth, c⟩ := X
  intro az g1 ho H locs ls hP hS hl
  obtain ⟨q, hq⟩ := List.getElem?_of_mem (et_L_mem.mpr (rfl : (a0 :: a1 :: a2 :: a3 :: a4 :: a5 :: a6 :: a7 :: a8 :: a9 :: some (.int x) :: r)[10]? = some (some (Value.int x))))
  refine lv_iinc hX.1 hX.2.1 hd hl hq hv (by rw [hX.2.2.1]; exact Nat.le_of_ble_eq_true hn) rfl (fun ls2 h2 => k az g1 ho H locs ls2 hP hS (et_st1 h2 fun j v2 hj => ?_))
  match j with
    | 0 => exact Or.inr ⟨by decide, hj, fun h => by omega⟩
    | 1 => exact Or.inr ⟨by decide, hj, fun h => by omega⟩
    | 2 => exact Or.inr ⟨by decide, hj, fun h => by omega⟩
    | 3 => exact Or.inr ⟨by decide, hj, fun h => by omega⟩
    | 4 => exact Or.inr ⟨by decide, hj, fun h => by omega⟩
    | 5 => exact Or.inr ⟨by decide, hj, fun h => by omega⟩
    | 6 => exact Or.inr ⟨by decide, hj, fun h => by omega⟩
    | 7 => exact Or.inr ⟨by decide, hj, fun h => by omega⟩
    | 8 => exact Or.inr ⟨by decide, hj, fun h => by omega⟩
    | 9 => exact Or.inr ⟨by decide, hj, fun h => by exact et_c1_cat hc (Option.some.inj hj)⟩
    | 10 => exact Or.inl ⟨rfl, (Option.some.inj (Option.some.inj hj)).symm⟩
    | j + 11 => exact Or.inr ⟨by omega, hj, fun h => by omega⟩
theorem zi_lstore10 {a0 a1 a2 a3 a4 a5 a6 a7 a8 a9 : Option Value} {z z2 : Option Value} {x : Int64} (hX : et_Gd X w b own nL ret tb rm) (hd : decode b pc = .ok (.lstore 10, 2)) (hn : Nat.ble 12 nL = true) (hc : et_c1 a9 = true) (k : et_Z X w u enc (pc + 2) (a0 :: a1 :: a2 :: a3 :: a4 :: a5 :: a6 :: a7 :: a8 :: a9 :: some (.long x) :: none :: r) st g o) : et_Z X w u enc pc (a0 :: a1 :: a2 :: a3 :: a4 :: a5 :: a6 :: a7 :: a8 :: a9 :: z :: z2 :: r) (.long x :: st) g o := by
  obtain ⟨p, l, e, R, s, m, args, below, meth, c⟩ := X
  intro az g1 ho H locs ls hP hS hl
  refine lv_lstore hX.1 hX.2.1 hd hl (by rw [hX.2.2.1]; exact Nat.le_of_ble_eq_true hn) rfl (fun ls2 h2 => k az g1 ho H locs ls2 hP hS (et_st2 h2 fun j v2 hj => ?_))
  match j with
    | 0 => exact Or.inr ⟨by decide, by decide, hj, fun h => by omega⟩
    | 1 => exact Or.inr ⟨by decide, by decide, hj, fun h => by omega⟩
    | 2 => exact Or.inr ⟨by decide, by decide, hj, fun h => by omega⟩
    | 3 => exact Or.inr ⟨by decide, by decide, hj, fun h => by omega⟩
    | 4 => exact Or.inr ⟨by decide, by decide, hj, fun h => by omega⟩
    | 5 => exact Or.inr ⟨by decide, by decide, hj, fun h => by omega⟩
    | 6 => exact Or.inr ⟨by decide, by decide, hj, fun h => by omega⟩
    | 7 => exact Or.inr ⟨by decide, by decide, hj, fun h => by omega⟩
    | 8 => exact Or.inr ⟨by decide, by decide, hj, fun h => by omega⟩
    | 9 => exact Or.inr ⟨by decide, by decide, hj, fun h => by exact et_c1_cat hc (Option.some.inj hj)⟩
    | 10 => exact Or.inl ⟨rfl, (Option.some.inj (Option.some.inj hj)).symm⟩
    | 11 => cases hj
    | j + 12 => exact Or.inr ⟨by omega, by omega, hj, fun h => by omega⟩
theorem zi_iload11 {a0 a1 a2 a3 a4 a5 a6 a7 a8 a9 a10 : Option Value} {x : Int32} (hX : et_Gd X w b own nL ret tb rm) (hd : decode b pc = .ok (.iload 11, 2)) (k : et_Z X w u enc (pc + 2) (a0 :: a1 :: a2 :: a3 :: a4 :: a5 :: a6 :: a7 :: a8 :: a9 :: a10 :: some (.int x) :: r) (.int x :: st) g o) : et_Z X w u enc pc (a0 :: a1 :: a2 :: a3 :: a4 :: a5 :: a6 :: a7 :: a8 :: a9 :: a10 :: some (.int x) :: r) st g o := by
  obtain ⟨p, l, e, R, s, m, args, below, meth, c⟩ := X
  intro a1 g1 ho H locs ls hP hS hl
  exact lv_iload hX.1 hX.2.1 hd (hl.2.2 (11, _) (et_L_mem.mpr rfl)) (k a1 g1 ho H locs ls hP hS hl)
theorem zi_lload11 {a0 a1 a2 a3 a4 a5 a6 a7 a8 a9 a10 : Option Value} {x : Int64} (hX : et_Gd X w b own nL ret tb rm) (hd : decode b pc = .ok (.lload 11, 2)) (k : et_Z X w u enc (pc + 2) (a0 :: a1 :: a2 :: a3 :: a4 :: a5 :: a6 :: a7 :: a8 :: a9 :: a10 :: some (.long x) :: r) (.long x :: st) g o) : et_Z X w u enc pc (a0 :: a1 :: a2 :: a3 :: a4 :: a5 :: a6 :: a7 :: a8 :: a9 :: a10 :: some (.long x) :: r) st g o := by
  obtain ⟨p, l, e, R, s, m, args, below, meth, c⟩ := X
  intro a1 g1 ho H locs ls hP hS hl
  exact lv_lload hX.1 hX.2.1 hd (hl.2.2 (11, _) (et_L_mem.mpr rfl)) (k a1 g1 ho H locs ls hP hS hl)
theorem zi_aload11 {a0 a1 a2 a3 a4 a5 a6 a7 a8 a9 a10 : Option Value} {x : Nat} (hX : et_Gd X w b own nL ret tb rm) (hd : decode b pc = .ok (.aload 11, 2)) (k : et_Z X w u enc (pc + 2) (a0 :: a1 :: a2 :: a3 :: a4 :: a5 :: a6 :: a7 :: a8 :: a9 :: a10 :: some (.ref x) :: r) (.ref x :: st) g o) : et_Z X w u enc pc (a0 :: a1 :: a2 :: a3 :: a4 :: a5 :: a6 :: a7 :: a8 :: a9 :: a10 :: some (.ref x) :: r) st g o := by
  obtain ⟨p, l, e, R, s, m, args, below, meth, c⟩ := X
  intro a1 g1 ho H locs ls hP hS hl
  exact lv_aload hX.1 hX.2.1 hd (hl.2.2 (11, _) (et_L_mem.mpr rfl)) (k a1 g1 ho H locs ls hP hS hl)
theorem zi_istore11 {a0 a1 a2 a3 a4 a5 a6 a7 a8 a9 a10 : Option Value} {z : Option Value} {x : Int32} (hX : et_Gd X w b own nL ret tb rm) (hd : decode b pc = .ok (.istore 11, 2)) (hn : Nat.ble 12 nL = true) (hc : et_c1 a10 = true) (k : et_Z X w u enc (pc + 2) (a0 :: a1 :: a2 :: a3 :: a4 :: a5 :: a6 :: a7 :: a8 :: a9 :: a10 :: some (.int x) :: r) st g o) : et_Z X w u enc pc (a0 :: a1 :: a2 :: a3 :: a4 :: a5 :: a6 :: a7 :: a8 :: a9 :: a10 :: z :: r) (.int x :: st) g o := by
  obtain ⟨p, l, e, R, s, m, args, below, meth, c⟩ := X
  intro az g1 ho H locs ls hP hS hl
  refine lv_istore hX.1 hX.2.1 hd hl (by rw [hX.2.2.1]; exact Nat.le_of_ble_eq_true hn) rfl (fun ls2 h2 => k az g1 ho H locs ls2 hP hS (et_st1 h2 fun j v2 hj => ?_))
  match j with
    | 0 => exact Or.inr ⟨by decide, hj, fun h => by omega⟩
    | 1 => exact Or.inr ⟨by decide, hj, fun h => by omega⟩
    | 2 => exact Or.inr ⟨by decide, hj, fun h => by omega⟩
    | 3 => exact Or.inr ⟨by decide, hj, fun h => by omega⟩
    | 4 => exact Or.inr ⟨by decide, hj, fun h => by omega⟩
    | 5 => exact Or.inr ⟨by decide, hj, fun h => by omega⟩
    | 6 => exact Or.inr ⟨by decide, hj, fun h => by omega⟩
    | 7 => exact Or.inr ⟨by decide, hj, fun h => by omega⟩
    | 8 => exact Or.inr ⟨by decide, hj, fun h => by omega⟩
    | 9 => exact Or.inr ⟨by decide, hj, fun h => by omega⟩
    | 10 => exact Or.inr ⟨by decide, hj, fun h => by exact et_c1_cat hc (Option.some.inj hj)⟩
    | 11 => exact Or.inl ⟨rfl, (Option.some.inj (Option.some.inj hj)).symm⟩
    | j + 12 => exact Or.inr ⟨by omega, hj, fun h => by omega⟩
theorem zi_astore11 {a0 a1 a2 a3 a4 a5 a6 a7 a8 a9 a10 : Option Value} {z : Option Value} {x : Nat} (hX : et_Gd X w b own nL ret tb rm) (hd : decode b pc = .ok (.astore 11, 2)) (hn : Nat.ble 12 nL = true) (hc : et_c1 a10 = true) (k : et_Z X w u enc (pc + 2) (a0 :: a1 :: a2 :: a3 :: a4 :: a5 :: a6 :: a7 :: a8 :: a9 :: a10 :: some (.ref x) :: r) st g o) : et_Z X w u enc pc (a0 :: a1 :: a2 :: a3 :: a4 :: a5 :: a6 :: a7 :: a8 :: a9 :: a10 :: z :: r) (.ref x :: st) g o := by
  obtain ⟨p, l, e, R, s, m, args, below, meth, c⟩ := X
  intro az g1 ho H locs ls hP hS hl
  refine lv_astore hX.1 hX.2.1 hd hl (by rw [hX.2.2.1]; exact Nat.le_of_ble_eq_true hn) rfl (fun ls2 h2 => k az g1 ho H locs ls2 hP hS (et_st1 h2 fun j v2 hj => ?_))
  match j with
    | 0 => exact Or.inr ⟨by decide, hj, fun h => by omega⟩
    | 1 => exact Or.inr ⟨by decide, hj, fun h => by omega⟩
    | 2 => exact Or.inr ⟨by decide, hj, fun h => by omega⟩
    | 3 => exact Or.inr ⟨by decide, hj, fun h => by omega⟩
    | 4 => exact Or.inr ⟨by decide, hj, fun h => by omega⟩
    | 5 => exact Or.inr ⟨by decide, hj, fun h => by omega⟩
    | 6 => exact Or.inr ⟨by decide, hj, fun h => by omega⟩
    | 7 => exact Or.inr ⟨by decide, hj, fun h => by omega⟩
    | 8 => exact Or.inr ⟨by decide, hj, fun h => by omega⟩
    | 9 => exact Or.inr ⟨by decide, hj, fun h => by omega⟩
    | 10 => exact Or.inr ⟨by decide, hj, fun h => by exact et_c1_cat hc (Option.some.inj hj)⟩
    | 11 => exact Or.inl ⟨rfl, (Option.some.inj (Option.some.inj hj)).symm⟩
    | j + 12 => exact Or.inr ⟨by omega, hj, fun h => by omega⟩
theorem zi_iinc11 {a0 a1 a2 a3 a4 a5 a6 a7 a8 a9 a10 : Option Value} {x v : Int32} {n : Int} (hX : et_Gd X w b own nL ret tb rm) (hd : decode b pc = .ok (.iinc 11 n, 3)) (hv : x + Int32.ofInt n = v) (hn : Nat.ble 12 nL = true) (hc : et_c1 a10 = true) (k : et_Z X w u enc (pc + 3) (a0 :: a1 :: a2 :: a3 :: a4 :: a5 :: a6 :: a7 :: a8 :: a9 :: a10 :: some (.int v) :: r) st g o) : et_Z X w u enc pc (a0 :: a1 :: a2 :: a3 :: a4 :: a5 :: a6 :: a7 :: a8 :: a9 :: a10 :: some (.int x) :: r) st g o := by
  obtain ⟨p, l, e, R, s, m, args, below, meth, c⟩ := X
  intro az g1 ho H locs ls hP hS hl
  obtain ⟨q, hq⟩ := List.getElem?_of_mem (et_L_mem.mpr (rfl : (a0 :: a1 :: a2 :: a3 :: a4 :: a5 :: a6 :: a7 :: a8 :: a9 :: a10 :: some (.int x) :: r)[11]? = some (some (Value.int x))))
  refine lv_iinc hX.1 hX.2.1 hd hl hq hv (by rw [hX.2.2.1]; exact Nat.le_of_ble_eq_true hn) rfl (fun ls2 h2 => k az g1 ho H locs ls2 hP hS (et_st1 h2 fun j v2 hj => ?_))
  match j with
    | 0 => exact Or.inr ⟨by decide, hj, fun h => by omega⟩
    | 1 => exact Or.inr ⟨by decide, hj, fun h => by omega⟩
    | 2 => exact Or.inr ⟨by decide, hj, fun h => by omega⟩
    | 3 => exact Or.inr ⟨by decide, hj, fun h => by omega⟩
    | 4 => exact Or.inr ⟨by decide, hj, fun h => by omega⟩
    | 5 => exact Or.inr ⟨by decide, hj, fun h => by omega⟩
    | 6 => exact Or.inr ⟨by decide, hj, fun h => by omega⟩
    | 7 => exact Or.inr ⟨by decide, hj, fun h => by omega⟩
    | 8 => exact Or.inr ⟨by decide, hj, fun h => by omega⟩
    | 9 => exact Or.inr ⟨by decide, hj, fun h => by omega⟩
    | 10 => exact Or.inr ⟨by decide, hj, fun h => by exact et_c1_cat hc (Option.some.inj hj)⟩
    | 11 => exact Or.inl ⟨rfl, (Option.some.inj (Option.some.inj hj)).symm⟩
    | j + 12 => exact Or.inr ⟨by omega, hj, fun h => by omega⟩
theorem zi_lstore11 {a0 a1 a2 a3 a4 a5 a6 a7 a8 a9 a10 : Option Value} {z z2 : Option Value} {x : Int64} (hX : et_Gd X w b own nL ret tb rm) (hd : decode b pc = .ok (.lstore 11, 2)) (hn : Nat.ble 13 nL = true) (hc : et_c1 a10 = true) (k : et_Z X w u enc (pc + 2) (a0 :: a1 :: a2 :: a3 :: a4 :: a5 :: a6 :: a7 :: a8 :: a9 :: a10 :: some (.long x) :: none :: r) st g o) : et_Z X w u enc pc (a0 :: a1 :: a2 :: a3 :: a4 :: a5 :: a6 :: a7 :: a8 :: a9 :: a10 :: z :: z2 :: r) (.long x :: st) g o := by
  obtain ⟨p, l, e, R, s, m, args, below, meth, c⟩ := X
  intro az g1 ho H locs ls hP hS hl
  refine lv_lstore hX.1 hX.2.1 hd hl (by rw [hX.2.2.1]; exact Nat.le_of_ble_eq_true hn) rfl (fun ls2 h2 => k az g1 ho H locs ls2 hP hS (et_st2 h2 fun j v2 hj => ?_))
  match j with
    | 0 => exact Or.inr ⟨by decide, by decide, hj, fun h => by omega⟩
    | 1 => exact Or.inr ⟨by decide, by decide, hj, fun h => by omega⟩
    | 2 => exact Or.inr ⟨by decide, by decide, hj, fun h => by omega⟩
    | 3 => exact Or.inr ⟨by decide, by decide, hj, fun h => by omega⟩
    | 4 => exact Or.inr ⟨by decide, by decide, hj, fun h => by omega⟩
    | 5 => exact Or.inr ⟨by decide, by decide, hj, fun h => by omega⟩
    | 6 => exact Or.inr ⟨by decide, by decide, hj, fun h => by omega⟩
    | 7 => exact Or.inr ⟨by decide, by decide, hj, fun h => by omega⟩
    | 8 => exact Or.inr ⟨by decide, by decide, hj, fun h => by omega⟩
    | 9 => exact Or.inr ⟨by decide, by decide, hj, fun h => by omega⟩
    | 10 => exact Or.inr ⟨by decide, by decide, hj, fun h => by exact et_c1_cat hc (Option.some.inj hj)⟩
    | 11 => exact Or.inl ⟨rfl, (Option.some.inj (Option.some.inj hj)).symm⟩
    | 12 => cases hj
    | j + 13 => exact Or.inr ⟨by omega, by omega, hj, fun h => by omega⟩
theorem zi_iload12 {a0 a1 a2 a3 a4 a5 a6 a7 a8 a9 a10 a11 : Option Value} {x : Int32} (hX : et_Gd X w b own nL ret tb rm) (hd : decode b pc = .ok (.iload 12, 2)) (k : et_Z X w u enc (pc + 2) (a0 :: a1 :: a2 :: a3 :: a4 :: a5 :: a6 :: a7 :: a8 :: a9 :: a10 :: a11 :: some (.int x) :: r) (.int x :: st) g o) : et_Z X w u enc pc (a0 :: a1 :: a2 :: a3 :: a4 :: a5 :: a6 :: a7 :: a8 :: a9 :: a10 :: a11 :: some (.int x) :: r) st g o := by
  obtain ⟨p, l, e, R, s, m, args, below, meth, c⟩ := X
  intro a1 g1 ho H locs ls hP hS hl
  exact lv_iload hX.1 hX.2.1 hd (hl.2.2 (12, _) (et_L_mem.mpr rfl)) (k a1 g1 ho H locs ls hP hS hl)
theorem zi_lload12 {a0 a1 a2 a3 a4 a5 a6 a7 a8 a9 a10 a11 : Option Value} {x : Int64} (hX : et_Gd X w b own nL ret tb rm) (hd : decode b pc = .ok (.lload 12, 2)) (k : et_Z X w u enc (pc + 2) (a0 :: a1 :: a2 :: a3 :: a4 :: a5 :: a6 :: a7 :: a8 :: a9 :: a10 :: a11 :: some (.long x) :: r) (.long x :: st) g o) : et_Z X w u enc pc (a0 :: a1 :: a2 :: a3 :: a4 :: a5 :: a6 :: a7 :: a8 :: a9 :: a10 :: a11 :: some (.long x) :: r) st g o := by
  obtain ⟨p, l, e, R, s, m, args, below, meth, c⟩ := X
  intro a1 g1 ho H locs ls hP hS hl
  exact lv_lload hX.1 hX.2.1 hd (hl.2.2 (12, _) (et_L_mem.mpr rfl)) (k a1 g1 ho H locs ls hP hS hl)
theorem zi_aload12 {a0 a1 a2 a3 a4 a5 a6 a7 a8 a9 a10 a11 : Option Value} {x : Nat} (hX : et_Gd X w b own nL ret tb rm) (hd : decode b pc = .ok (.aload 12, 2)) (k : et_Z X w u enc (pc + 2) (a0 :: a1 :: a2 :: a3 :: a4 :: a5 :: a6 :: a7 :: a8 :: a9 :: a10 :: a11 :: some (.ref x) :: r) (.ref x :: st) g o) : et_Z X w u enc pc (a0 :: a1 :: a2 :: a3 :: a4 :: a5 :: a6 :: a7 :: a8 :: a9 :: a10 :: a11 :: some (.ref x) :: r) st g o := by
  obtain ⟨p, l, e, R, s, m, args, below, meth, c⟩ := X
  intro a1 g1 ho H locs ls hP hS hl
  exact lv_aload hX.1 hX.2.1 hd (hl.2.2 (12, _) (et_L_mem.mpr rfl)) (k a1 g1 ho H locs ls hP hS hl)
theorem zi_istore12 {a0 a1 a2 a3 a4 a5 a6 a7 a8 a9 a10 a11 : Option Value} {z : Option Value} {x : Int32} (hX : et_Gd X w b own nL ret tb rm) (hd : decode b pc = .ok (.istore 12, 2)) (hn : Nat.ble 13 nL = true) (hc : et_c1 a11 = true) (k : et_Z X w u enc (pc + 2) (a0 :: a1 :: a2 :: a3 :: a4 :: a5 :: a6 :: a7 :: a8 :: a9 :: a10 :: a11 :: some (.int x) :: r) st g o) : et_Z X w u enc pc (a0 :: a1 :: a2 :: a3 :: a4 :: a5 :: a6 :: a7 :: a8 :: a9 :: a10 :: a11 :: z :: r) (.int x :: st) g o := by
  obtain ⟨p, l, e, R, s, m, args, below, meth, c⟩ := X
  intro az g1 ho H locs ls hP hS hl
  refine lv_istore hX.1 hX.2.1 hd hl (by rw [hX.2.2.1]; exact Nat.le_of_ble_eq_true hn) rfl (fun ls2 h2 => k az g1 ho H locs ls2 hP hS (et_st1 h2 fun j v2 hj => ?_))
  match j with
    | 0 => exact Or.inr ⟨by decide, hj, fun h => by omega⟩
    | 1 => exact Or.inr ⟨by decide, hj, fun h => by omega⟩
    | 2 => exact Or.inr ⟨by decide, hj, fun h => by omega⟩
    | 3 => exact Or.inr ⟨by decide, hj, fun h => by omega⟩
    | 4 => exact Or.inr ⟨by decide, hj, fun h => by omega⟩
    | 5 => exact Or.inr ⟨by decide, hj, fun h => by omega⟩
    | 6 => exact Or.inr ⟨by decide, hj, fun h => by omega⟩
    | 7 => exact Or.inr ⟨by decide, hj, fun h => by omega⟩
    | 8 => exact Or.inr ⟨by decide, hj, fun h => by omega⟩
    | 9 => exact Or.inr ⟨by decide, hj, fun h => by omega⟩
    | 10 => exact Or.inr ⟨by decide, hj, fun h => by omega⟩
    | 11 => exact Or.inr ⟨by decide, hj, fun h => by exact et_c1_cat hc (Option.some.inj hj)⟩
    | 12 => exact Or.inl ⟨rfl, (Option.some.inj (Option.some.inj hj)).symm⟩
    | j + 13 => exact Or.inr ⟨by omega, hj, fun h => by omega⟩
theorem zi_astore12 {a0 a1 a2 a3 a4 a5 a6 a7 a8 a9 a10 a11 : Option Value} {z : Option Value} {x : Nat} (hX : et_Gd X w b own nL ret tb rm) (hd : decode b pc = .ok (.astore 12, 2)) (hn : Nat.ble 13 nL = true) (hc : et_c1 a11 = true) (k : et_Z X w u enc (pc + 2) (a0 :: a1 :: a2 :: a3 :: a4 :: a5 :: a6 :: a7 :: a8 :: a9 :: a10 :: a11 :: some (.ref x) :: r) st g o) : et_Z X w u enc pc (a0 :: a1 :: a2 :: a3 :: a4 :: a5 :: a6 :: a7 :: a8 :: a9 :: a10 :: a11 :: z :: r) (.ref x :: st) g o := by
  obtain ⟨p, l, e, R, s, m, args, below, meth, c⟩ := X
  intro az g1 ho H locs ls hP hS hl
  refine lv_astore hX.1 hX.2.1 hd hl (by rw [hX.2.2.1]; exact Nat.le_of_ble_eq_true hn) rfl (fun ls2 h2 => k az g1 ho H locs ls2 hP hS (et_st1 h2 fun j v2 hj => ?_))
  match j with
    | 0 => exact Or.inr ⟨by decide, hj, fun h => by omega⟩
    | 1 => exact Or.inr ⟨by decide, hj, fun h => by omega⟩
    | 2 => exact Or.inr ⟨by decide, hj, fun h => by omega⟩
    | 3 => exact Or.inr ⟨by decide, hj, fun h => by omega⟩
    | 4 => exact Or.inr ⟨by decide, hj, fun h => by omega⟩
    | 5 => exact Or.inr ⟨by decide, hj, fun h => by omega⟩
    | 6 => exact Or.inr ⟨by decide, hj, fun h => by omega⟩
    | 7 => exact Or.inr ⟨by decide, hj, fun h => by omega⟩
    | 8 => exact Or.inr ⟨by decide, hj, fun h => by omega⟩
    | 9 => exact Or.inr ⟨by decide, hj, fun h => by omega⟩
    | 10 => exact Or.inr ⟨by decide, hj, fun h => by omega⟩
    | 11 => exact Or.inr ⟨by decide, hj, fun h => by exact et_c1_cat hc (Option.some.inj hj)⟩
    | 12 => exact Or.inl ⟨rfl, (Option.some.inj (Option.some.inj hj)).symm⟩
    | j + 13 => exact Or.inr ⟨by omega, hj, fun h => by omega⟩
theorem zi_iinc12 {a0 a1 a2 a3 a4 a5 a6 a7 a8 a9 a10 a11 : Option Value} {x v : Int32} {n : Int} (hX : et_Gd X w b own nL ret tb rm) (hd : decode b pc = .ok (.iinc 12 n, 3)) (hv : x + Int32.ofInt n = v) (hn : Nat.ble 13 nL = true) (hc : et_c1 a11 = true) (k : et_Z X w u enc (pc + 3) (a0 :: a1 :: a2 :: a3 :: a4 :: a5 :: a6 :: a7 :: a8 :: a9 :: a10 :: a11 :: some (.int v) :: r) st g o) : et_Z X w u enc pc (a0 :: a1 :: a2 :: a3 :: a4 :: a5 :: a6 :: a7 :: a8 :: a9 :: a10 :: a11 :: some (.int x) :: r) st g o := by
  obtain ⟨p, l, e, R, s, m, args, below, meth, c⟩ := X
  intro az g1 ho H locs ls hP hS hl
  obtain ⟨q, hq⟩ := List.getElem?_of_mem (et_L_mem.mpr (rfl : (a0 :: a1 :: a2 :: a3 :: a4 :: a5 :: a6 :: a7 :: a8 :: a9 :: a10 :: a11 :: some (.int x) :: r)[12]? = some (some (Value.int x))))
  refine lv_iinc hX.1 hX.2.1 hd hl hq hv (by rw [hX.2.2.1]; exact Nat.le_of_ble_eq_true hn) rfl (fun ls2 h2 => k az g1 ho H locs ls2 hP hS (et_st1 h2 fun j v2 hj => ?_))
  match j with
    | 0 => exact Or.inr ⟨by decide, hj, fun h => by omega⟩
    | 1 => exact Or.inr ⟨by decide, hj, fun h => by omega⟩
    | 2 => exact Or.inr ⟨by decide, hj, fun h => by omega⟩
    | 3 => exact Or.inr ⟨by decide, hj, fun h => by omega⟩
    | 4 => exact Or.inr ⟨by decide, hj, fun h => by omega⟩
    | 5 => exact Or.inr ⟨by decide, hj, fun h => by omega⟩
    | 6 => exact Or.inr ⟨by decide, hj, fun h => by omega⟩
    | 7 => exact Or.inr ⟨by decide, hj, fun h => by omega⟩
    | 8 => exact Or.inr ⟨by decide, hj, fun h => by omega⟩
    | 9 => exact Or.inr ⟨by decide, hj, fun h => by omega⟩
    | 10 => exact Or.inr ⟨by decide, hj, fun h => by omega⟩
    | 11 => exact Or.inr ⟨by decide, hj, fun h => by exact et_c1_cat hc (Option.some.inj hj)⟩
    | 12 => exact Or.inl ⟨rfl, (Option.some.inj (Option.some.inj hj)).symm⟩
    | j + 13 => exact Or.inr ⟨by omega, hj, fun h => by omega⟩
theorem zi_lstore12 {a0 a1 a2 a3 a4 a5 a6 a7 a8 a9 a10 a11 : Option Value} {z z2 : Option Value} {x : Int64} (hX : et_Gd X w b own nL ret tb rm) (hd : decode b pc = .ok (.lstore 12, 2)) (hn : Nat.ble 14 nL = true) (hc : et_c1 a11 = true) (k : et_Z X w u enc (pc + 2) (a0 :: a1 :: a2 :: a3 :: a4 :: a5 :: a6 :: a7 :: a8 :: a9 :: a10 :: a11 :: some (.long x) :: none :: r) st g o) : et_Z X w u enc pc (a0 :: a1 :: a2 :: a3 :: a4 :: a5 :: a6 :: a7 :: a8 :: a9 :: a10 :: a11 :: z :: z2 :: r) (.long x :: st) g o := by
  obtain ⟨p, l, e, R, s, m, args, below, meth, c⟩ := X
  intro az g1 ho H locs ls hP hS hl
  refine lv_lstore hX.1 hX.2.1 hd hl (by rw [hX.2.2.1]; exact Nat.le_of_ble_eq_true hn) rfl (fun ls2 h2 => k az g1 ho H locs ls2 hP hS (et_st2 h2 fun j v2 hj => ?_))
  match j with
    | 0 => exact Or.inr ⟨by decide, by decide, hj, fun h => by omega⟩
    | 1 => exact Or.inr ⟨by decide, by decide, hj, fun h => by omega⟩
    | 2 => exact Or.inr ⟨by decide, by decide, hj, fun h => by omega⟩
    | 3 => exact Or.inr ⟨by decide, by decide, hj, fun h => by omega⟩
    | 4 => exact Or.inr ⟨by decide, by decide, hj, fun h => by omega⟩
    | 5 => exact Or.inr ⟨by decide, by decide, hj, fun h => by omega⟩
    | 6 => exact Or.inr ⟨by decide, by decide, hj, fun h => by omega⟩
    | 7 => exact Or.inr ⟨by decide, by decide, hj, fun h => by omega⟩
    | 8 => exact Or.inr ⟨by decide, by decide, hj, fun h => by omega⟩
    | 9 => exact Or.inr ⟨by decide, by decide, hj, fun h => by omega⟩
    | 10 => exact Or.inr ⟨by decide, by decide, hj, fun h => by omega⟩
    | 11 => exact Or.inr ⟨by decide, by decide, hj, fun h => by exact et_c1_cat hc (Option.some.inj hj)⟩
    | 12 => exact Or.inl ⟨rfl, (Option.some.inj (Option.some.inj hj)).symm⟩
    | 13 => cases hj
    | j + 14 => exact Or.inr ⟨by omega, by omega, hj, fun h => by omega⟩
/-- a local is forgotten -/
theorem zi_drop {lv2 : List (Option Value)} (h : ∀ (j : Nat) (v : Value), lv2[j]? = some (some v) → lv[j]? = some (some v)) (k : et_Z X w u enc pc lv2 st g o) : et_Z X w u enc pc lv st g o := by
  obtain ⟨p, l, e, R, s, m, args, below, meth, c⟩ := X
  intro az g1 ho H locs ls hP hS hl
  exact k az g1 ho H locs ls hP hS ⟨hl.1, hl.2.1, fun q hq => hl.2.2 q (et_L_mem.mpr (h _ _ (et_L_mem.mp hq)))⟩
theorem zi_b {β : Type} {x : β} {f : β → Option (α × et_G)} (k : et_Z X w u enc pc lv st g (f x)) : et_Z X w u enc pc lv st g (et_b x f) := k
end ZR
section ZB
variable {α : Type} {X : et_X} {w : et_W} {u pc nL : Nat} {enc : α → et_O} {b : ByteArray} {own : String} {ret : Option FieldType} {tb : List ExceptionTableEntry} {rm : Room} {lv r : List (Option Value)} {st : List Value} {g : et_G} {o : Option (α × et_G)}
theorem zi_bi {e : Int32} {f : Int32 → Option (α × et_G)} (k : ∀ v : Int32, et_Z X w u enc pc lv (.int v :: st) g (f v)) : et_Z X w u enc pc lv (.int e :: st) g (et_b e f) := k e
theorem zi_bl {e : Int64} {f : Int64 → Option (α × et_G)} (k : ∀ v : Int64, et_Z X w u enc pc lv (.long v :: st) g (f v)) : et_Z X w u enc pc lv (.long e :: st) g (et_b e f) := k e
theorem zi_bg {f : et_G → Option (α × et_G)} (k : ∀ g1 : et_G, et_Z X w u enc pc lv st g1 (f g1)) : et_Z X w u enc pc lv st g (et_b g f) := k g
theorem zi_up {u2 : Nat} (h : Nat.ble u u2 = true) (k : et_Z X w u2 enc pc lv st g o) : et_Z X w u enc pc lv st g o := by
  obtain ⟨p, l, e, R, s, m, args, below, meth, c⟩ := X
  intro az g1 ho H locs ls hP hS hl
  exact W.widen (Nat.le_of_ble_eq_true h) (Nat.mul_le_mul_left 6 (Nat.le_of_ble_eq_true h)) (k az g1 ho H locs ls hP hS hl)
def et_le (a b : List (Option Value)) : Prop := ∀ (j : Nat) (v : Value), a[j]? = some (some v) → b[j]? = some (some v)
theorem le_nil : et_le [] [] := fun _ _ h => h
theorem le_n {x : Option Value} {a b : List (Option Value)} (h : et_le a b) : et_le (none :: a) (x :: b) := fun j v q => match j, q with
  | 0, q => by cases q
  | j + 1, q => h j v q
theorem le_s {x : Option Value} {a b : List (Option Value)} (h : et_le a b) : et_le (x :: a) (x :: b) := fun j v q => match j, q with
  | 0, q => q
  | j + 1, q => h j v q
theorem et_z0 : narrow .boolean (.int 0) = .int 0 := by decide
theorem et_z1 : narrow .boolean (.int 1) = .int 1 := by decide
theorem et_f0 : fits .boolean (.int 0) = true := by decide
theorem et_f1 : fits .boolean (.int 1) = true := by decide
theorem zi_ldivc {x y : Int64} (hX : et_Gd X w b own nL ret tb rm) (hd : decode b pc = .ok (.ldiv, 1)) (k : et_Z X w u enc (pc + 1) lv (.long (x / y) :: st) g o) : et_Z X w u enc pc lv (.long y :: .long x :: st) g (et_ck (!decide (y = 0)) o) := by
  unfold et_ck
  refine zi_ite (fun h => ?_) (fun _ => ?_)
  · obtain ⟨p, l, e, R, s, m, args, below, meth, c⟩ := X
    intro az g1 ho H locs ls hP hS hl
    exact lv_ldiv hX.1 hX.2.1 hd (by simpa using h) (k az g1 ho H locs ls hP hS hl)
  · intro a g2 h
    cases h
theorem zi_iincb0 {x v : Int32} {n : Int} {f : Int32 → Option (α × et_G)} (hX : et_Gd X w b own nL ret tb rm) (hd : decode b pc = .ok (.iinc 0 n, 3)) (hv : x + Int32.ofInt n = v) (hn : Nat.ble 1 nL = true) (k : ∀ v : Int32, et_Z X w u enc (pc + 3) (some (.int v) :: r) st g (f v)) : et_Z X w u enc pc (some (.int x) :: r) st g (et_b v f) := zi_iinc0 hX hd hv hn (k v)
theorem zi_iincb1 {a0 : Option Value} {x v : Int32} {n : Int} {f : Int32 → Option (α × et_G)} (hX : et_Gd X w b own nL ret tb rm) (hd : decode b pc = .ok (.iinc 1 n, 3)) (hv : x + Int32.ofInt n = v) (hn : Nat.ble 2 nL = true) (hc : et_c1 a0 = true) (k : ∀ v : Int32, et_Z X w u enc (pc + 3) (a0 :: some (.int v) :: r) st g (f v)) : et_Z X w u enc pc (a0 :: some (.int x) :: r) st g (et_b v f) := zi_iinc1 hX hd hv hn hc (k v)
theorem zi_iincb2 {a0 a1 : Option Value} {x v : Int32} {n : Int} {f : Int32 → Option (α × et_G)} (hX : et_Gd X w b own nL ret tb rm) (hd : decode b pc = .ok (.iinc 2 n, 3)) (hv : x + Int32.ofInt n = v) (hn : Nat.ble 3 nL = true) (hc : et_c1 a1 = true) (k : ∀ v : Int32, et_Z X w u enc (pc + 3) (a0 :: a1 :: some (.int v) :: r) st g (f v)) : et_Z X w u enc pc (a0 :: a1 :: some (.int x) :: r) st g (et_b v f) := zi_iinc2 hX hd hv hn hc (k v)
theorem zi_iincb3 {a0 a1 a2 : Option Value} {x v : Int32} {n : Int} {f : Int32 → Option (α × et_G)} (hX : et_Gd X w b own nL ret tb rm) (hd : decode b pc = .ok (.iinc 3 n, 3)) (hv : x + Int32.ofInt n = v) (hn : Nat.ble 4 nL = true) (hc : et_c1 a2 = true) (k : ∀ v : Int32, et_Z X w u enc (pc + 3) (a0 :: a1 :: a2 :: some (.int v) :: r) st g (f v)) : et_Z X w u enc pc (a0 :: a1 :: a2 :: some (.int x) :: r) st g (et_b v f) := zi_iinc3 hX hd hv hn hc (k v)
theorem zi_iincb4 {a0 a1 a2 a3 : Option Value} {x v : Int32} {n : Int} {f : Int32 → Option (α × et_G)} (hX : et_Gd X w b own nL ret tb rm) (hd : decode b pc = .ok (.iinc 4 n, 3)) (hv : x + Int32.ofInt n = v) (hn : Nat.ble 5 nL = true) (hc : et_c1 a3 = true) (k : ∀ v : Int32, et_Z X w u enc (pc + 3) (a0 :: a1 :: a2 :: a3 :: some (.int v) :: r) st g (f v)) : et_Z X w u enc pc (a0 :: a1 :: a2 :: a3 :: some (.int x) :: r) st g (et_b v f) := zi_iinc4 hX hd hv hn hc (k v)
theorem zi_iincb5 {a0 a1 a2 a3 a4 : Option Value} {x v : Int32} {n : Int} {f : Int32 → Option (α × et_G)} (hX : et_Gd X w b own nL ret tb rm) (hd : decode b pc = .ok (.iinc 5 n, 3)) (hv : x + Int32.ofInt n = v) (hn : Nat.ble 6 nL = true) (hc : et_c1 a4 = true) (k : ∀ v : Int32, et_Z X w u enc (pc + 3) (a0 :: a1 :: a2 :: a3 :: a4 :: some (.int v) :: r) st g (f v)) : et_Z X w u enc pc (a0 :: a1 :: a2 :: a3 :: a4 :: some (.int x) :: r) st g (et_b v f) := zi_iinc5 hX hd hv hn hc (k v)
theorem zi_iincb6 {a0 a1 a2 a3 a4 a5 : Option Value} {x v : Int32} {n : Int} {f : Int32 → Option (α × et_G)} (hX : et_Gd X w b own nL ret tb rm) (hd : decode b pc = .ok (.iinc 6 n, 3)) (hv : x + Int32.ofInt n = v) (hn : Nat.ble 7 nL = true) (hc : et_c1 a5 = true) (k : ∀ v : Int32, et_Z X w u enc (pc + 3) (a0 :: a1 :: a2 :: a3 :: a4 :: a5 :: some (.int v) :: r) st g (f v)) : et_Z X w u enc pc (a0 :: a1 :: a2 :: a3 :: a4 :: a5 :: some (.int x) :: r) st g (et_b v f) := zi_iinc6 hX hd hv hn hc (k v)
theorem zi_iincb7 {a0 a1 a2 a3 a4 a5 a6 : Option Value} {x v : Int32} {n : Int} {f : Int32 → Option (α × et_G)} (hX : et_Gd X w b own nL ret tb rm) (hd : decode b pc = .ok (.iinc 7 n, 3)) (hv : x + Int32.ofInt n = v) (hn : Nat.ble 8 nL = true) (hc : et_c1 a6 = true) (k : ∀ v : Int32, et_Z X w u enc (pc + 3) (a0 :: a1 :: a2 :: a3 :: a4 :: a5 :: a6 :: some (.int v) :: r) st g (f v)) : et_Z X w u enc pc (a0 :: a1 :: a2 :: a3 :: a4 :: a5 :: a6 :: some (.int x) :: r) st g (et_b v f) := zi_iinc7 hX hd hv hn hc (k v)
theorem zi_iincb8 {a0 a1 a2 a3 a4 a5 a6 a7 : Option Value} {x v : Int32} {n : Int} {f : Int32 → Option (α × et_G)} (hX : et_Gd X w b own nL ret tb rm) (hd : decode b pc = .ok (.iinc 8 n, 3)) (hv : x + Int32.ofInt n = v) (hn : Nat.ble 9 nL = true) (hc : et_c1 a7 = true) (k : ∀ v : Int32, et_Z X w u enc (pc + 3) (a0 :: a1 :: a2 :: a3 :: a4 :: a5 :: a6 :: a7 :: some (.int v) :: r) st g (f v)) : et_Z X w u enc pc (a0 :: a1 :: a2 :: a3 :: a4 :: a5 :: a6 :: a7 :: some (.int x) :: r) st g (et_b v f) := zi_iinc8 hX hd hv hn hc (k v)
theorem zi_iincb9 {a0 a1 a2 a3 a4 a5 a6 a7 a8 : Option Value} {x v : Int32} {n : Int} {f : Int32 → Option (α × et_G)} (hX : et_Gd X w b own nL ret tb rm) (hd : decode b pc = .ok (.iinc 9 n, 3)) (hv : x + Int32.ofInt n = v) (hn : Nat.ble 10 nL = true) (hc : et_c1 a8 = true) (k : ∀ v : Int32, et_Z X w u enc (pc + 3) (a0 :: a1 :: a2 :: a3 :: a4 :: a5 :: a6 :: a7 :: a8 :: some (.int v) :: r) st g (f v)) : et_Z X w u enc pc (a0 :: a1 :: a2 :: a3 :: a4 :: a5 :: a6 :: a7 :: a8 :: some (.int x) :: r) st g (et_b v f) := zi_iinc9 hX hd hv hn hc (k v)
theorem zi_iincb10 {a0 a1 a2 a3 a4 a5 a6 a7 a8 a9 : Option Value} {x v : Int32} {n : Int} {f : Int32 → Option (α × et_G)} (hX : et_Gd X w b own nL ret tb rm) (hd : decode b pc = .ok (.iinc 10 n, 3)) (hv : x + Int32.ofInt n = v) (hn : Nat.ble 11 nL = true) (hc : et_c1 a9 = true) (k : ∀ v : Int32, et_Z X w u enc (pc + 3) (a0 :: a1 :: a2 :: a3 :: a4 :: a5 :: a6 :: a7 :: a8 :: a9 :: some (.int v) :: r) st g (f v)) : et_Z X w u enc pc (a0 :: a1 :: a2 :: a3 :: a4 :: a5 :: a6 :: a7 :: a8 :: a9 :: some (.int x) :: r) st g (et_b v f) := zi_iinc10 hX hd hv hn hc (k v)
theorem zi_iincb11 {a0 a1 a2 a3 a4 a5 a6 a7 a8 a9 a10 : Option Value} {x v : Int32} {n : Int} {f : Int32 → Option (α × et_G)} (hX : et_Gd X w b own nL ret tb rm) (hd : decode b pc = .ok (.iinc 11 n, 3)) (hv : x + Int32.ofInt n = v) (hn : Nat.ble 12 nL = true) (hc : et_c1 a10 = true) (k : ∀ v : Int32, et_Z X w u enc (pc + 3) (a0 :: a1 :: a2 :: a3 :: a4 :: a5 :: a6 :: a7 :: a8 :: a9 :: a10 :: some (.int v) :: r) st g (f v)) : et_Z X w u enc pc (a0 :: a1 :: a2 :: a3 :: a4 :: a5 :: a6 :: a7 :: a8 :: a9 :: a10 :: some (.int x) :: r) st g (et_b v f) := zi_iinc11 hX hd hv hn hc (k v)
theorem zi_iincb12 {a0 a1 a2 a3 a4 a5 a6 a7 a8 a9 a10 a11 : Option Value} {x v : Int32} {n : Int} {f : Int32 → Option (α × et_G)} (hX : et_Gd X w b own nL ret tb rm) (hd : decode b pc = .ok (.iinc 12 n, 3)) (hv : x + Int32.ofInt n = v) (hn : Nat.ble 13 nL = true) (hc : et_c1 a11 = true) (k : ∀ v : Int32, et_Z X w u enc (pc + 3) (a0 :: a1 :: a2 :: a3 :: a4 :: a5 :: a6 :: a7 :: a8 :: a9 :: a10 :: a11 :: some (.int v) :: r) st g (f v)) : et_Z X w u enc pc (a0 :: a1 :: a2 :: a3 :: a4 :: a5 :: a6 :: a7 :: a8 :: a9 :: a10 :: a11 :: some (.int x) :: r) st g (et_b v f) := zi_iinc12 hX hd hv hn hc (k v)
end ZB
