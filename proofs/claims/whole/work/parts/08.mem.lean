/-! fields, arrays, answers, throws -/
def et_FL (own : String) (idx ci j : Nat) (ty : FieldType) (fin : Bool) : Prop := ∃ (C : String) (T : u_T) (N : Nat) (ty0 : Nat → FieldType), vwCl[ci]? = some (C, T, N) ∧ j < N ∧ (∀ q ∈ u_ws C T N, q ∈ et_tb) ∧ Cond.fieldLink own idx (T j).1 (T j).2.1 (T j).2.2.1 ∈ et_tb ∧ (∀ k, k < N → parseFieldDescriptor (T k).2.2.1 = some (ty0 k)) ∧ (∀ a, a < N → ∀ b, b < N → a ≠ b → (T a).2.1 ≠ (T b).2.1) ∧ (T j).2.2.2 = fin ∧ ty0 j = ty
section ZM
variable {α : Type} {X : et_X} {w : et_W} {u pc nL : Nat} {enc : α → et_O} {b : ByteArray} {own : String} {ret : Option FieldType} {tb : List ExceptionTableEntry} {rm : Room} {lv r : List (Option Value)} {st : List Value} {g : et_G} {o : Option (α × et_G)} {k idx ci j n : Nat} {ty : FieldType} {fin : Bool} {ks : List Nat}
theorem et_Gd.sane (h : et_Gd X w b own nL ret tb rm) : et_Sane w := by
  obtain ⟨p, l, e, R, s, m, args, below, meth, c⟩ := X
  exact h.2.2.2.2.2.2.2.1
theorem zi_getf {v : Value} {q : Nat} (hX : et_Gd X w b own nL ret tb rm) (hd : decode b pc = .ok (.getfield idx, 3)) (hf : et_FL own idx ci j ty fin) (hk : et_lay[k]? = some (.inr (ci, ks))) (hj : ks[j]? = some q) (hv : et_fv w g k q j = v)
    (kk : et_Z X w u enc (pc + 3) lv (v :: st) g o) : et_Z X w u enc pc lv (.ref (et_ad w k) :: st) g o := by
  obtain ⟨p, l, e, R, s, m, args, below, meth, c⟩ := X
  intro a1 g1 ho H locs ls hP hS hl
  obtain ⟨hx, hb, hml, hown, hts, hr, hlocks, hsane, hU, -⟩ := hX
  obtain ⟨C, T, N, ty0, f1, f2, f3, f4, f5, f6, f7, f8⟩ := hf
  subst hv
  exact va_get hx hb hts f3 hown (et_Kof hsane hU) hP k (et_at hk) f1 j f2 (hts _ f4) (fun _ h => h) (et_fs_at hj) hd (kk a1 g1 ho H locs ls hP hS hl)
theorem zi_geti (hX : et_Gd X w b own nL ret tb rm) (hd : decode b pc = .ok (.getfield idx, 3)) (hf : et_FL own idx ci j ty fin) (hk : et_lay[k]? = some (.inr (ci, ks))) (hj : ks[j]? = some 0)
    (kk : et_Z X w u enc (pc + 3) lv (.int (g.1 k j) :: st) g o) : et_Z X w u enc pc lv (.ref (et_ad w k) :: st) g o := zi_getf hX hd hf hk hj rfl kk
theorem zi_getl (hX : et_Gd X w b own nL ret tb rm) (hd : decode b pc = .ok (.getfield idx, 3)) (hf : et_FL own idx ci j ty fin) (hk : et_lay[k]? = some (.inr (ci, ks))) (hj : ks[j]? = some 1)
    (kk : et_Z X w u enc (pc + 3) lv (.long (g.2 k j) :: st) g o) : et_Z X w u enc pc lv (.ref (et_ad w k) :: st) g o := zi_getf hX hd hf hk hj rfl kk
theorem zi_getr {q : Nat} (hX : et_Gd X w b own nL ret tb rm) (hd : decode b pc = .ok (.getfield idx, 3)) (hf : et_FL own idx ci j ty fin) (hk : et_lay[k]? = some (.inr (ci, ks))) (hj : ks[j]? = some (q + 2))
    (kk : et_Z X w u enc (pc + 3) lv (.ref (et_ad w q) :: st) g o) : et_Z X w u enc pc lv (.ref (et_ad w k) :: st) g o := zi_getf hX hd hf hk hj rfl kk
theorem zi_puti {x : Int32} (hX : et_Gd X w b own nL ret tb rm) (hd : decode b pc = .ok (.putfield idx, 3)) (hf : et_FL own idx ci j ty false) (hk : et_lay[k]? = some (.inr (ci, ks))) (hj : ks[j]? = some 0) (hn : narrow ty (.int x) = .int x) (hfit : fits ty (.int x) = true)
    (kk : et_Z X w u enc (pc + 3) lv st (et_si g k j x) o) : et_Z X w u enc pc lv (.int x :: .ref (et_ad w k) :: st) g o := by
  obtain ⟨p, l, e, R, s, m, args, below, meth, c⟩ := X
  intro a1 g1 ho H locs ls hP hS hl
  obtain ⟨hx, hb, hml, hown, hts, hr, hlocks, hsane, hU, -⟩ := hX
  obtain ⟨C, T, N, ty0, f1, f2, f3, f4, f5, f6, f7, f8⟩ := hf
  have hlt : j < ks.length := (List.getElem?_eq_some_iff.mp hj).1
  have he0 : (et_ws w g)[k]? = some (et_ad w k, .inr (ci, ks.mapIdx (fun j q => et_fv w g k q j))) := et_at hk
  have he := et_set (w := w) (g := g) (g2 := et_si g k j x) hk et_ce_si
  have h2 : et_ce w (et_si g k j x) k (.inr (ci, ks)) = .inr (ci, ks.mapIdx (fun j2 q => et_fv w (et_si g k j x) k q j2)) := rfl
  rw [h2] at he
  have hlen : j < (ks.mapIdx (fun j q => et_fv w g k q j)).length := by rw [List.length_mapIdx]; exact hlt
  have hpd : parseFieldDescriptor (T j).2.2.1 = some ty := by rw [f5 j f2, f8]
  refine va_put (fs := ks.mapIdx (fun j q => et_fv w g k q j)) (ci := ci) (C := C) (T := T) (N := N) hx hb hts f3 ty0 f5 f6 hown (et_Kof hsane hU) hP (et_D hsane g) hS k he0 f1 j f2 (hts _ f4) (fun _ h => h) f7 hpd hn hfit hlen hd (fun H1 locs1 hP1 _ hS1 => ?_)
  rw [et_fs_si hj, he] at hP1
  exact kk a1 g1 ho H1 locs1 ls hP1 hS1 hl
theorem zi_putl {x : Int64} (hX : et_Gd X w b own nL ret tb rm) (hd : decode b pc = .ok (.putfield idx, 3)) (hf : et_FL own idx ci j .long false) (hk : et_lay[k]? = some (.inr (ci, ks))) (hj : ks[j]? = some 1)
    (kk : et_Z X w u enc (pc + 3) lv st (et_sl g k j x) o) : et_Z X w u enc pc lv (.long x :: .ref (et_ad w k) :: st) g o := by
  obtain ⟨p, l, e, R, s, m, args, below, meth, c⟩ := X
  intro a1 g1 ho H locs ls hP hS hl
  obtain ⟨hx, hb, hml, hown, hts, hr, hlocks, hsane, hU, -⟩ := hX
  obtain ⟨C, T, N, ty0, f1, f2, f3, f4, f5, f6, f7, f8⟩ := hf
  have hlt : j < ks.length := (List.getElem?_eq_some_iff.mp hj).1
  have he0 : (et_ws w g)[k]? = some (et_ad w k, .inr (ci, ks.mapIdx (fun j q => et_fv w g k q j))) := et_at hk
  have he := et_set (w := w) (g := g) (g2 := et_sl g k j x) hk et_ce_sl
  have h2 : et_ce w (et_sl g k j x) k (.inr (ci, ks)) = .inr (ci, ks.mapIdx (fun j2 q => et_fv w (et_sl g k j x) k q j2)) := rfl
  rw [h2] at he
  have hlen : j < (ks.mapIdx (fun j q => et_fv w g k q j)).length := by rw [List.length_mapIdx]; exact hlt
  have hpd : parseFieldDescriptor (T j).2.2.1 = some .long := by rw [f5 j f2, f8]
  refine va_put (fs := ks.mapIdx (fun j q => et_fv w g k q j)) (ci := ci) (C := C) (T := T) (N := N) hx hb hts f3 ty0 f5 f6 hown (et_Kof hsane hU) hP (et_D hsane g) hS k he0 f1 j f2 (hts _ f4) (fun _ h => h) f7 hpd rfl rfl hlen hd (fun H1 locs1 hP1 _ hS1 => ?_)
  rw [et_fs_sl hj, he] at hP1
  exact kk a1 g1 ho H1 locs1 ls hP1 hS1 hl
theorem zi_ck {c : Bool} (kk : c = true → et_Z X w u enc pc lv st g o) : et_Z X w u enc pc lv st g (et_ck c o) := by
  unfold et_ck
  refine zi_ite kk (fun _ => ?_)
  intro a g2 h
  cases h
theorem et_t0 (w : et_W) : (et_tys w)[0]? = some (et_ca w .int, .int) := rfl
theorem et_t1 (w : et_W) : (et_tys w)[1]? = some (et_ca w .byte, .byte) := rfl
theorem et_t2 (w : et_W) : (et_tys w)[2]? = some (et_ca w .boolean, .boolean) := rfl
theorem et_t3 (w : et_W) : (et_tys w)[3]? = some (et_ca w .long, .long) := rfl
theorem zi_iald {i : Int32} (hX : et_Gd X w b own nL ret tb rm) (hd : decode b pc = .ok (.iaload, 1)) (hk : et_lay[k]? = some (.inl (.int, n)))
    (kk : et_Z X w u enc (pc + 1) lv (.int (g.1 k i.toNatClampNeg) :: st) g o) : et_Z X w u enc pc lv (.int i :: .ref (et_ad w k) :: st) g (et_ck (et_ib i n) o) := by
  refine zi_ck fun hin => ?_
  obtain ⟨p, l, e, R, s, m, args, below, meth, c⟩ := X
  intro a1 g1 ho H locs ls hP hS hl
  exact va_iald hX.1 hX.2.1 (et_Kof hX.2.2.2.2.2.2.2.1 hX.2.2.2.2.2.2.2.2.1) hP k 0 (et_at hk) (et_t0 w) (et_ib_in hin) hd (kk a1 g1 ho H locs ls hP hS hl)
theorem zi_bald {i : Int32} (hX : et_Gd X w b own nL ret tb rm) (hd : decode b pc = .ok (.baload, 1)) (hk : et_lay[k]? = some (.inl (.byte, n)))
    (kk : et_Z X w u enc (pc + 1) lv (.int (g.1 k i.toNatClampNeg) :: st) g o) : et_Z X w u enc pc lv (.int i :: .ref (et_ad w k) :: st) g (et_ck (et_ib i n) o) := by
  refine zi_ck fun hin => ?_
  obtain ⟨p, l, e, R, s, m, args, below, meth, c⟩ := X
  intro a1 g1 ho H locs ls hP hS hl
  exact va_bald hX.1 hX.2.1 (et_Kof hX.2.2.2.2.2.2.2.1 hX.2.2.2.2.2.2.2.2.1) hP k 1 (et_at hk) (et_t1 w) (et_ib_in hin) hd (kk a1 g1 ho H locs ls hP hS hl)
theorem zi_zald {i : Int32} (hX : et_Gd X w b own nL ret tb rm) (hd : decode b pc = .ok (.baload, 1)) (hk : et_lay[k]? = some (.inl (.boolean, n)))
    (kk : et_Z X w u enc (pc + 1) lv (.int (g.1 k i.toNatClampNeg) :: st) g o) : et_Z X w u enc pc lv (.int i :: .ref (et_ad w k) :: st) g (et_ck (et_ib i n) o) := by
  refine zi_ck fun hin => ?_
  obtain ⟨p, l, e, R, s, m, args, below, meth, c⟩ := X
  intro a1 g1 ho H locs ls hP hS hl
  exact va_zald hX.1 hX.2.1 (et_Kof hX.2.2.2.2.2.2.2.1 hX.2.2.2.2.2.2.2.2.1) hP k 2 (et_at hk) (et_t2 w) (et_ib_in hin) hd (kk a1 g1 ho H locs ls hP hS hl)
theorem zi_lald {i : Int32} (hX : et_Gd X w b own nL ret tb rm) (hd : decode b pc = .ok (.laload, 1)) (hk : et_lay[k]? = some (.inl (.long, n)))
    (kk : et_Z X w u enc (pc + 1) lv (.long (g.2 k i.toNatClampNeg) :: st) g o) : et_Z X w u enc pc lv (.int i :: .ref (et_ad w k) :: st) g (et_ck (et_ib i n) o) := by
  refine zi_ck fun hin => ?_
  obtain ⟨p, l, e, R, s, m, args, below, meth, c⟩ := X
  intro a1 g1 ho H locs ls hP hS hl
  exact va_lald hX.1 hX.2.1 (et_Kof hX.2.2.2.2.2.2.2.1 hX.2.2.2.2.2.2.2.2.1) hP k 3 (et_at hk) (et_t3 w) (et_ib_in hin) hd (kk a1 g1 ho H locs ls hP hS hl)
theorem zi_iast {i x : Int32} (hX : et_Gd X w b own nL ret tb rm) (hd : decode b pc = .ok (.iastore, 1)) (hk : et_lay[k]? = some (.inl (.int, n)))
    (kk : et_Z X w u enc (pc + 1) lv st (et_si g k i.toNatClampNeg x) o) : et_Z X w u enc pc lv (.int x :: .int i :: .ref (et_ad w k) :: st) g (et_ck (et_ib i n) o) := by
  refine zi_ck fun hin => ?_
  obtain ⟨p, l, e, R, s, m, args, below, meth, c⟩ := X
  intro a1 g1 ho H locs ls hP hS hl
  have hsane := hX.2.2.2.2.2.2.2.1
  refine va_iast hX.1 hX.2.1 (et_Kof hsane hX.2.2.2.2.2.2.2.2.1) hP (et_D hsane g) hS k 0 (et_at hk) (et_t0 w) (et_ib_in hin) hd (fun H1 locs1 hP1 _ hS1 => kk a1 g1 ho H1 locs1 ls ?_ hS1 hl)
  have he := et_set (w := w) (g := g) (g2 := et_si g k i.toNatClampNeg x) hk et_ce_si
  have h2 : et_ce w (et_si g k i.toNatClampNeg x) k (.inl (.int, n)) = .inl (et_ca w .int, n, .inl (upd (g.1 k) i.toNatClampNeg x)) := by simp [et_ce, et_si_eq]
  rw [h2] at he
  rw [he] at hP1
  exact hP1
theorem zi_bast {i x : Int32} (hX : et_Gd X w b own nL ret tb rm) (hd : decode b pc = .ok (.bastore, 1)) (hk : et_lay[k]? = some (.inl (.byte, n)))
    (kk : et_Z X w u enc (pc + 1) lv st (et_si g k i.toNatClampNeg (vp_nar .byte x)) o) : et_Z X w u enc pc lv (.int x :: .int i :: .ref (et_ad w k) :: st) g (et_ck (et_ib i n) o) := by
  refine zi_ck fun hin => ?_
  obtain ⟨p, l, e, R, s, m, args, below, meth, c⟩ := X
  intro a1 g1 ho H locs ls hP hS hl
  have hsane := hX.2.2.2.2.2.2.2.1
  refine va_bast hX.1 hX.2.1 (et_Kof hsane hX.2.2.2.2.2.2.2.2.1) hP (et_D hsane g) hS k 1 (et_at hk) (et_t1 w) (et_ib_in hin) hd (fun H1 locs1 hP1 _ hS1 => kk a1 g1 ho H1 locs1 ls ?_ hS1 hl)
  have he := et_set (w := w) (g := g) (g2 := et_si g k i.toNatClampNeg (vp_nar .byte x)) hk et_ce_si
  have h2 : et_ce w (et_si g k i.toNatClampNeg (vp_nar .byte x)) k (.inl (.byte, n)) = .inl (et_ca w .byte, n, .inl (upd (g.1 k) i.toNatClampNeg (vp_nar .byte x))) := by simp [et_ce, et_si_eq]
  rw [h2] at he
  rw [he] at hP1
  exact hP1
theorem zi_zast {i x : Int32} (hX : et_Gd X w b own nL ret tb rm) (hd : decode b pc = .ok (.bastore, 1)) (hk : et_lay[k]? = some (.inl (.boolean, n)))
    (kk : et_Z X w u enc (pc + 1) lv st (et_si g k i.toNatClampNeg (vp_nar .boolean x)) o) : et_Z X w u enc pc lv (.int x :: .int i :: .ref (et_ad w k) :: st) g (et_ck (et_ib i n) o) := by
  refine zi_ck fun hin => ?_
  obtain ⟨p, l, e, R, s, m, args, below, meth, c⟩ := X
  intro a1 g1 ho H locs ls hP hS hl
  have hsane := hX.2.2.2.2.2.2.2.1
  refine va_zast hX.1 hX.2.1 (et_Kof hsane hX.2.2.2.2.2.2.2.2.1) hP (et_D hsane g) hS k 2 (et_at hk) (et_t2 w) (et_ib_in hin) hd (fun H1 locs1 hP1 _ hS1 => kk a1 g1 ho H1 locs1 ls ?_ hS1 hl)
  have he := et_set (w := w) (g := g) (g2 := et_si g k i.toNatClampNeg (vp_nar .boolean x)) hk et_ce_si
  have h2 : et_ce w (et_si g k i.toNatClampNeg (vp_nar .boolean x)) k (.inl (.boolean, n)) = .inl (et_ca w .boolean, n, .inl (upd (g.1 k) i.toNatClampNeg (vp_nar .boolean x))) := by simp [et_ce, et_si_eq]
  rw [h2] at he
  rw [he] at hP1
  exact hP1
theorem zi_last {i : Int32} {x : Int64} (hX : et_Gd X w b own nL ret tb rm) (hd : decode b pc = .ok (.lastore, 1)) (hk : et_lay[k]? = some (.inl (.long, n)))
    (kk : et_Z X w u enc (pc + 1) lv st (et_sl g k i.toNatClampNeg x) o) : et_Z X w u enc pc lv (.long x :: .int i :: .ref (et_ad w k) :: st) g (et_ck (et_ib i n) o) := by
  refine zi_ck fun hin => ?_
  obtain ⟨p, l, e, R, s, m, args, below, meth, c⟩ := X
  intro a1 g1 ho H locs ls hP hS hl
  have hsane := hX.2.2.2.2.2.2.2.1
  refine va_last hX.1 hX.2.1 (et_Kof hsane hX.2.2.2.2.2.2.2.2.1) hP (et_D hsane g) hS k 3 (et_at hk) (et_t3 w) (et_ib_in hin) hd (fun H1 locs1 hP1 _ hS1 => kk a1 g1 ho H1 locs1 ls ?_ hS1 hl)
  have he := et_set (w := w) (g := g) (g2 := et_sl g k i.toNatClampNeg x) hk et_ce_sl
  have h2 : et_ce w (et_sl g k i.toNatClampNeg x) k (.inl (.long, n)) = .inl (et_ca w .long, n, .inr (.inl (vp_updL (g.2 k) i.toNatClampNeg x))) := by simp [et_ce, et_sl_eq]
  rw [h2] at he
  rw [he] at hP1
  exact hP1
theorem zi_alen {v : Int32} {t : FieldType} (hX : et_Gd X w b own nL ret tb rm) (hd : decode b pc = .ok (.arraylength, 1)) (hk : et_lay[k]? = some (.inl (t, n))) (q : Nat) (hq : (et_tys w)[q]? = some (et_ca w t, t)) (hv : Int32.ofNat n = v)
    (kk : et_Z X w u enc (pc + 1) lv (.int v :: st) g o) : et_Z X w u enc pc lv (.ref (et_ad w k) :: st) g o := by
  obtain ⟨p, l, e, R, s, m, args, below, meth, c⟩ := X
  intro a1 g1 ho H locs ls hP hS hl
  have hc : ∃ x : vp_A, et_ce w g k (.inl (t, n)) = .inl (et_ca w t, x) ∧ x.1 = n := by cases t <;> exact ⟨_, rfl, rfl⟩
  obtain ⟨x, hx1, hx2⟩ := hc
  refine va_alen hX.1 hX.2.1 (et_Kof hX.2.2.2.2.2.2.2.1 hX.2.2.2.2.2.2.2.2.1) hP k q (by rw [et_at hk, hx1]) hq (by rw [hx2]; exact hv) hd (kk a1 g1 ho H locs ls hP hS hl)
end ZM
