/-! minds: worlds, tell, known -/
theorem sl_d : ∀ W, W < 256 → ∀ t, t < 9 → pop 31 (W &&& (2 ^ t - 1)) = pop t W := by decide +kernel
theorem pop_d : ∀ W, W < 256 → pop 8 W = pop 31 W := by decide +kernel
def clr : Nat → Nat → Nat
  | 0, v => v
  | k + 1, v => clr k v &&& (clr k v - 1)
theorem clr_d : ∀ W, W < 256 → ∀ k, k < 8 → clr k W < 256 ∧ (k < pop 31 W → clr k W ≠ 0) := by decide +kernel
theorem lo_d : ∀ W, W < 256 → ∀ k, k < 8 → k < pop 31 W → ∃ t, t < 8 ∧ (clr k W).testBit t = true ∧ (∀ u, u < t → (clr k W).testBit u = false) ∧ W.testBit t = true ∧ pop t W = k := by decide +kernel
theorem tb_m (n k : Nat) : n / 2 ^ k % 2 = if n.testBit k = true then 1 else 0 := by
  rw [Nat.testBit_eq_decide_div_mod_eq]
  by_cases h : n / 2 ^ k % 2 = 1
  · simp [h]
  · simp [h]; omega
theorem pop_le {W t u : Nat} (h : t ≤ u) : pop t W ≤ pop u W := by
  obtain ⟨d, rfl⟩ : ∃ d, u = t + d := ⟨u - t, by omega⟩
  induction d with
  | zero => exact Nat.le_refl _
  | succ d ih => exact Nat.le_trans (ih (by omega)) (Nat.le_add_right _ _)
theorem pop_s {W t : Nat} (h : W.testBit t = true) : pop (t + 1) W = pop t W + 1 := by
  show pop t W + W / 2 ^ t % 2 = _
  rw [tb_m, if_pos h]
theorem pop_lt {W t u : Nat} (h : W.testBit t = true) (hu : t < u) : pop t W < pop u W := by
  have := pop_le (W := W) (show t + 1 ≤ u from hu)
  rw [pop_s h] at this
  omega
theorem pop_inj {W t u : Nat} (h1 : W.testBit t = true) (h2 : W.testBit u = true) (e : pop t W = pop u W) : t = u := by
  rcases Nat.lt_trichotomy t u with h | h | h
  · have := pop_lt h1 h; omega
  · exact h
  · have := pop_lt h2 h; omega
theorem nI_x (x : Int32) : x = nI x.toBitVec.toNat := bt_ext fun i _ => by
  rw [bt_n (show x.toBitVec.toNat < 2 ^ 32 from x.toBitVec.isLt)]; rfl
noncomputable def nM (P : Nat → Prop) : Nat := (mI P).toBitVec.toNat
theorem nM_e (P : Nat → Prop) : mI P = nI (nM P) := nI_x _
theorem nM_b (P : Nat → Prop) {i : Nat} (h : i < 32) : (nM P).testBit i = true ↔ P i := mI_b P h
theorem nM_lt {P : Nat → Prop} {k : Nat} (h : ∀ i, i < 32 → P i → i < k) : nM P < 2 ^ k := by
  refine Nat.lt_pow_two_of_testBit _ (fun i hi => ?_)
  by_cases e : i < 32
  · cases q : (nM P).testBit i with
    | false => rfl
    | true => have := h i e ((nM_b P e).mp q); omega
  · exact Nat.testBit_lt_two_pow (Nat.lt_of_lt_of_le (mI P).toBitVec.isLt (Nat.pow_le_pow_right (by decide) (by omega)))
theorem hb_n {n k : Nat} (hn : n < 2 ^ 32) (hk : k < 32) (g : et_G) : fn_Et_hasBit (nI n) (nI k) g = some (bI (n.testBit k = true), g) := by
  rw [mI_n hn, hb_m _ hk]
/-- bits gathered at places -/
theorem sc_p {F : Nat → Int32 → Int32 → et_G → Option (Int32 × et_G)} {g : et_G} {N : Nat} {P : Nat → Prop} {f : Nat → Nat} (hN : N < 1000000) (hf : ∀ k, k < N → P k → f k < 31)
    (he : ∀ m x, F (m + 1) x (nI N) g = some (x, g))
    (hs : ∀ m x k, k < N → F (m + 1) x (nI k) g = io (P k) (F m (x ||| (nI 1 <<< (nI (f k) &&& nI 31))) (nI (k + 1)) g) (F m x (nI (k + 1)) g)) :
    F 1000000 0 0 g = some (mI fun i => ∃ t, t < N ∧ P t ∧ f t = i, g) := by
  refine lp0 (fun m i (x : Int32) => F m x i g) (fun o => o = some (mI fun i => ∃ t, t < N ∧ P t ∧ f t = i, g)) N hN (fun k x => x = mI fun i => ∃ t, t < k ∧ P t ∧ f t = i) 0 ?_ ?_ ?_
  · rw [mI_0]; exact mI_c fun i _ => ⟨fun z => z.elim, fun ⟨t, z, _⟩ => by omega⟩
  · intro m s h
    show F (m + 1) s (nI N) g = _
    rw [he m s, h]
  · intro m k s hk h ih
    show F (m + 1) s (nI k) g = _
    rw [hs m s k hk]
    by_cases p : P k
    · rw [io_t p]
      refine ih _ ?_
      rw [h, mI_1 (hf k hk p), mI_or]
      refine mI_c fun i _ => ⟨fun q => ?_, fun ⟨t, q1, q2, q3⟩ => ?_⟩
      · rcases q with ⟨t, q1, q2⟩ | q
        · exact ⟨t, by omega, q2⟩
        · exact ⟨k, by omega, p, q.symm⟩
      · by_cases e : t = k
        · subst e; exact Or.inr q3.symm
        · exact Or.inl ⟨t, by omega, q2, q3⟩
    · rw [io_f p]
      refine ih _ ?_
      rw [h]
      refine mI_c fun i _ => ⟨fun ⟨t, q1, q2⟩ => ⟨t, by omega, q2⟩, fun ⟨t, q1, q2, q3⟩ => ?_⟩
      by_cases e : t = k
      · subst e; exact absurd q2 p
      · exact ⟨t, by omega, q2, q3⟩
def m4 (S : et_T) : Prop := S 61 67 < 2 ^ S 61 5 ∧ S 61 68 < 65536 ∧ pop 31 (S 61 67) ≤ 4 ∧ (S 61 67 = 0 ↔ S 61 68 = 0)
def a_rw (S : et_T) (i : Nat) : Prop := ∃ t, t < S 61 5 ∧ ((S 61 67).testBit t = true ∧ S 66 (5 * t + 4) = 0) ∧ pop t (S 61 67) = i
def a_se (S : et_T) (p i : Nat) : Prop := ∃ t, t < S 61 5 ∧ ((S 61 67).testBit t = true ∧ a_pl S p (S 66 (5 * t + 2)) = S 66 (5 * t + 1)) ∧ pop t (S 61 67) = i
def a_sm (M : Nat → Prop) (u w : Nat) : Prop := (nI u ^^^ nI w) &&& mI M = nI 0
def a_kn (S : et_T) (p : Nat) (Z : Nat → Prop) (w : Nat) : Prop := w < 16 ∧ (S 61 68).testBit w = true ∧ ∀ u, u < 16 → (S 61 68).testBit u = true → a_sm (a_se S p) u w → Z u
def a_ww (S : et_T) (t nt w : Nat) : Prop := w < 16 ∧ ¬ (w.testBit (pop t (S 61 67)) = true ↔ nt = 1)
theorem m4_w {S : et_T} (h8 : S 61 5 ≤ 8) (h : m4 S) : S 61 67 < 256 := Nat.lt_of_lt_of_le h.1 (Nat.pow_le_pow_right (by decide) h8)
theorem m4_t {S : et_T} (h : m4 S) {t : Nat} (ht : (S 61 67).testBit t = true) : t < S 61 5 := by
  rcases Nat.lt_or_ge t (S 61 5) with z | z
  · exact z
  · rw [Nat.testBit_lt_two_pow (Nat.lt_of_lt_of_le h.1 (Nat.pow_le_pow_right (by decide) z))] at ht
    cases ht
theorem m4_p {S : et_T} (h8 : S 61 5 ≤ 8) (h : m4 S) {t : Nat} (ht : t < 8) : pop t (S 61 67) ≤ 4 := by
  have := pop_le (W := S 61 67) (show t ≤ 8 by omega)
  rw [pop_d _ (m4_w h8 h)] at this
  exact Nat.le_trans this h.2.2.1
theorem m4_q {S : et_T} (h8 : S 61 5 ≤ 8) (h : m4 S) {t : Nat} (ht : t < 8) (hb : (S 61 67).testBit t = true) : pop t (S 61 67) < pop 31 (S 61 67) ∧ pop t (S 61 67) < 4 := by
  have a := pop_lt hb (show t < 8 from ht)
  rw [pop_d _ (m4_w h8 h)] at a
  have := h.2.2.1
  omega
theorem rN_lt {S : et_T} (h8 : S 61 5 ≤ 8) (h : m4 S) : nM (a_rw S) < 16 := nM_lt (k := 4) fun i _ ⟨t, t1, t2, t3⟩ => by
  have := m4_q h8 h (show t < 8 by omega) t2.1
  omega
theorem a_kn_c {S : et_T} {p : Nat} {Z Y : Nat → Prop} (h : ∀ u, u < 16 → (S 61 68).testBit u = true → (Z u ↔ Y u)) : a_kn S p Z = a_kn S p Y := funext fun w => propext ⟨fun ⟨a, b, c⟩ => ⟨a, b, fun u h1 h2 h3 => (h u h1 h2).mp (c u h1 h2 h3)⟩, fun ⟨a, b, c⟩ => ⟨a, b, fun u h1 h2 h3 => (h u h1 h2).mpr (c u h1 h2 h3)⟩⟩
theorem xs_e {M : Nat → Prop} {u w : Nat} : (nI u &&& mI M = nI w &&& mI M) ↔ a_sm M u w := by
  unfold a_sm
  constructor
  · intro h
    refine bt_ext fun i hi => ?_
    have := congrArg (fun x => bt x i) h
    simp only [bt_and] at this
    rw [bt_and, bt_xor, bt_n0]
    cases h1 : bt (nI u) i <;> cases h2 : bt (nI w) i <;> cases h3 : bt (mI M) i <;> simp_all
  · intro h
    refine bt_ext fun i hi => ?_
    have := congrArg (fun x => bt x i) h
    simp only [bt_and, bt_xor, bt_n0] at this
    rw [bt_and, bt_and]
    cases h1 : bt (nI u) i <;> cases h2 : bt (nI w) i <;> cases h3 : bt (mI M) i <;> simp_all
def cM (S : et_T) (g : et_G) : Prop := gA S g ∧ rc_mind S g ∧ m4 S
section CM
variable {S : et_T} {g : et_G}
theorem slt_c (M : cM S g) {t : Nat} (ht : t < 8) : fn_Mi_slot (nI t) g = some (nI (pop t (S 61 67)), g) := by
  have c := gA_c M.1
  have w := m4_w (by omega) M.2.2
  have h2 : (2 : Nat) ^ t ≤ 2 ^ 8 := Nat.pow_le_pow_right (by decide) (by omega)
  have h3 : S 61 67 &&& (2 ^ t - 1) ≤ S 61 67 := Nat.and_le_left
  unfold fn_Mi_slot
  rw [M.2.1.1]
  simp only [ni_of]
  rw [sl_n (by omega), pk_sub Nat.one_le_two_pow, na_n (by omega) (by omega), bc_e (by omega), bd_s, sl_d _ w t (by omega)]
theorem ww_c (M : cM S g) {t nt : Nat} (ht : t < 8) (hn : nt ≤ 1) : fn_Mi_worldsWith (nI t) (nI nt) g = some (mI (fun w => a_ww S t nt w ∧ (S 61 68).testBit w = true), g) := by
  have c := gA_c M.1
  have p4 := m4_p (by omega) M.2.2 ht
  have l := M.2.2.2.1
  unfold fn_Mi_worldsWith
  rw [slt_c M ht, bd_s]
  have := lp0 (fun m i (x : Int32) => fn_Mi_worldsWith_12 (nI nt) (nI (pop t (S 61 67))) m x i g) (fun o => o = some (mI (fun w => a_ww S t nt w ∧ (S 61 68).testBit w = true), g)) 16 (by omega) (fun k x => x = mI fun w => w < k ∧ ¬ (w.testBit (pop t (S 61 67)) = true ↔ nt = 1)) 0 (by rw [mI_0]; exact mI_c fun i _ => ⟨fun z => z.elim, fun z => by omega⟩) (fun m x h => by
      show fn_Mi_worldsWith_12 (nI nt) (nI (pop t (S 61 67))) (m + 1) x (nI 16) g = _
      rw [fn_Mi_worldsWith_12, if_pos (by decide)]
      unfold fn_Mi_worldsWith_44
      rw [h, M.2.1.2, mI_n (n := S 61 68) (by omega), mI_and]
      rfl) (fun m k x hk h ih => by
      show fn_Mi_worldsWith_12 (nI nt) (nI (pop t (S 61 67))) (m + 1) x (nI k) g = _
      rw [fn_Mi_worldsWith_12]
      simp (disch := omega) only [ni_of, nI_clamp, ib_e, ck_t, bd_s, et_b, nI_add, if_p, ni_eq, ni_lt, ni_le, b_e0, b_e1, io_n, hb_n, b_n hn]
      rw [io_f (by omega)]
      by_cases z : (k.testBit (pop t (S 61 67)) = true ↔ nt = 1)
      · rw [io_t z]; exact ih _ (by rw [h]; exact mI_k0 (fun q => q z))
      · rw [io_f z]; exact ih _ (by rw [h]; exact mI_k1 (P := fun w => ¬ (w.testBit (pop t (S 61 67)) = true ↔ nt = 1)) (by omega) z))
  exact this
theorem rw_c (M : cM S g) : fn_Mi_realWorld g = some (mI (a_rw S), g) := by
  have c := gA_c M.1
  have w := m4_w (by omega) M.2.2
  unfold fn_Mi_realWorld
  refine sc_p (F := fn_Mi_realWorld_4) (P := fun t => (S 61 67).testBit t = true ∧ S 66 (5 * t + 4) = 0) (f := fun t => pop t (S 61 67)) (by omega) (fun k hk _ => by have := m4_p (by omega) M.2.2 (show k < 8 by omega); omega) (fun m x => by
    rw [fn_Mi_realWorld_4, c.2.2.1, if_pos (nI_le (Nat.le_refl _) (by omega))]) (fun m x k hk => by
    obtain ⟨-, -, -, e4⟩ := gA_t M.1 hk
    have w4 := (gA_tw M.1 hk).2.2.2
    have hb : bt (g.1 46 1 &&& (g.1 2 10 ^^^ (-1 : Int32))) k = true ↔ ((S 61 67).testBit k = true ∧ S 66 (5 * k + 4) = 0) := by
      rw [bt_and, bt_xor, bt_m1 k (by omega), M.2.1.1, bt_n (by omega)]
      simp only [Bool.and_eq_true, Bool.xor_true, Bool.not_eq_true']
      constructor
      · intro z
        refine ⟨z.1, ?_⟩
        have : ¬ S 66 (5 * k + 4) = 1 := fun q => by rw [e4.mpr q] at z; exact absurd z.2 (by simp)
        omega
      · intro z
        refine ⟨z.1, ?_⟩
        cases q : bt (g.1 2 10) k with
        | false => rfl
        | true => have := e4.mp q; omega
    rw [fn_Mi_realWorld_4, c.2.2.1, if_neg (nI_ge hk (by omega)), hb_p (show k < 32 by omega) hb, bd_s]
    simp (disch := omega) only [ni_of, nI_clamp, ib_e, ck_t, bd_s, et_b, nI_add, if_p, ni_eq, ni_lt, ni_le, b_e0, b_e1, io_n, slt_c M])
theorem di_c (M : cM S g) {p : Nat} (hp : p < S 61 4) : fn_Mi_distinguished (nI p) g = some (mI (a_se S p), g) := by
  have c := gA_c M.1
  have w := m4_w (by omega) M.2.2
  unfold fn_Mi_distinguished
  refine sc_p (F := fn_Mi_distinguished_4 (nI p)) (P := fun t => (S 61 67).testBit t = true ∧ a_pl S p (S 66 (5 * t + 2)) = S 66 (5 * t + 1)) (f := fun t => pop t (S 61 67)) (by omega) (fun k hk _ => by have := m4_p (by omega) M.2.2 (show k < 8 by omega); omega) (fun m x => by
    rw [fn_Mi_distinguished_4, c.2.2.1, if_pos (nI_le (Nat.le_refl _) (by omega))]) (fun m x k hk => by
    rw [fn_Mi_distinguished_4, c.2.2.1, if_neg (nI_ge hk (by omega))]
    simp (disch := omega) only [ni_of, nI_clamp, ib_e, ck_t, bd_s, et_b, nI_add, if_p, ni_eq, ni_lt, ni_le, b_e0, b_e1, io_n, M.2.1.1, hb_n, wth_c M.1 hp hk, slt_c M, io_io])
theorem al_c (M : cM S g) {w : Nat} (hw : w < 16) (Q : Nat → Prop) : fn_Mi_alike (nI w) (mI Q) g = some (mI (fun u => u < 16 ∧ (S 61 68).testBit u = true ∧ a_sm Q u w), g) := by
  have l := M.2.2.2.1
  unfold fn_Mi_alike
  refine sc_m (F := fn_Mi_alike_5 (nI w) (mI Q)) (by omega) (fun m x => by
    rw [fn_Mi_alike_5, if_pos (by decide)]) (fun m x k hk => by
    rw [fn_Mi_alike_5]
    simp (disch := omega) only [ni_of, nI_clamp, ib_e, ck_t, bd_s, et_b, nI_add, if_p, ni_eq, ni_lt, ni_le, b_e0, b_e1, io_n, M.2.1.2, hb_n]
    rw [io_f (by omega)]
    by_cases h1 : (S 61 68).testBit k = true
    · rw [io_t h1]
      by_cases h2 : a_sm Q k w
      · rw [io_t (c := (nI k ^^^ nI w) &&& mI Q = nI 0) h2, io_t ⟨h1, h2⟩]
      · rw [io_f (c := (nI k ^^^ nI w) &&& mI Q = nI 0) h2, io_f (fun z => h2 z.2)]
    · rw [io_f h1, io_f (fun z => h1 z.1)])
theorem kn_c (M : cM S g) {p : Nat} (hp : p < S 61 4) (Z : Nat → Prop) : fn_Mi_knowing (nI p) (mI Z) g = some (mI (a_kn S p Z), g) := by
  have l := M.2.2.2.1
  unfold fn_Mi_knowing
  rw [di_c M hp, bd_s]
  refine sc_m (F := fn_Mi_knowing_12 (mI Z) (mI (a_se S p))) (by omega) (fun m x => by
    rw [fn_Mi_knowing_12, if_pos (by decide)]) (fun m x k hk => by
    rw [fn_Mi_knowing_12]
    simp (disch := omega) only [ni_of, nI_clamp, ib_e, ck_t, bd_s, et_b, nI_add, if_p, ni_eq, ni_lt, ni_le, b_e0, b_e1, io_n, M.2.1.2, hb_n, al_c M hk, mI_not, mI_and]
    rw [io_f (by omega)]
    by_cases h1 : (S 61 68).testBit k = true
    · rw [io_t h1]
      by_cases h2 : ∀ u, u < 16 → (S 61 68).testBit u = true → a_sm (a_se S p) u k → Z u
      · rw [io_t (mI_z.mpr fun u _ z => z.2 (h2 u z.1.1 z.1.2.1 z.1.2.2)), io_t ⟨h1, h2⟩]
      · rw [io_f (fun e => h2 fun u u1 u2 u3 => Classical.byContradiction fun n => mI_z.mp e u (by omega) ⟨⟨u1, u2, u3⟩, n⟩), io_f (fun z => h2 z.2)]
    · rw [io_f h1, io_f (fun z => h1 z.1)])
end CM
def mM (S : et_T) (g : et_G) : Prop := mB S g ∧ m4 S
section MM
variable {S : et_T} {g : et_G}
theorem mM_r (M : mM S g) : g.1 61 67 = nI (S 61 67) ∧ g.1 61 68 = nI (S 61 68) ∧ S 61 67 < 256 ∧ S 61 68 < 65536 := by
  have c := mB_c M.1
  exact ⟨M.1.1.1 61 67 rfl, M.1.1.1 61 68 rfl, m4_w (by omega) M.2, M.2.2.1⟩
theorem pl_m (M : mM S g) {t : Nat} (ht : t < 8) : fn_Mo_placeOf (nI t) g = io ((S 61 67).testBit t = true) (some (nI (pop t (S 61 67)), g)) (some (-1, g)) := by
  have c := mB_c M.1
  obtain ⟨r1, r2, w, l⟩ := mM_r M
  have h2 : (2 : Nat) ^ t ≤ 2 ^ 8 := Nat.pow_le_pow_right (by decide) (by omega)
  have h3 : S 61 67 &&& (2 ^ t - 1) ≤ S 61 67 := Nat.and_le_left
  have z0 := M.2.2.2.2
  have ea : nI (S 61 67) &&& nI (2 ^ t - 1) = nI (S 61 67 &&& (2 ^ t - 1)) := na_n (by omega) (by omega)
  unfold fn_Mo_placeOf
  simp (disch := omega) only [ni_of, r1, r2, mb_n, sl_n, pk_sub Nat.one_le_two_pow, ea, bi_e, sl_d _ w t (show t < 9 by omega), bd_s, if_p, b_e0, io_n, ni_eq]
  by_cases h : S 61 68 = 0
  · rw [io_t h, io_f]
    rw [z0.mpr h]
    simp
  · rw [io_f h]
theorem wo_12 (M : mM S g) {sl nt : Nat} (hs : sl < 32) (hn : nt ≤ 1) : fn_Mo_worldsOf_12 (nI nt) (nI sl) 1000000 0 0 g = some (mI (fun w => w < 16 ∧ ¬ (w.testBit sl = true ↔ nt = 1)), g) := by
  refine sc_m (F := fn_Mo_worldsOf_12 (nI nt) (nI sl)) (by omega) (fun m x => by
    rw [fn_Mo_worldsOf_12, if_pos (by decide)]) (fun m x k hk => by
    rw [fn_Mo_worldsOf_12]
    unfold fn_Mo_worldsOf_36
    simp (disch := omega) only [ni_of, nI_clamp, ib_e, ck_t, bd_s, et_b, nI_add, if_p, ni_eq, ni_lt, ni_le, b_e0, b_e1, io_n, mb_n, or_n0]
    rw [io_f (by omega)]
    by_cases h1 : nt = 0
    · rw [io_t h1]
      by_cases h2 : k.testBit sl = true
      · rw [io_t h2, io_f (fun z => by have := z.mp h2; omega)]
      · rw [io_f h2, io_t ⟨fun q => absurd q h2, fun q => by omega⟩]
    · rw [io_f h1]
      have h1' : nt = 1 := by omega
      by_cases h2 : k.testBit sl = true
      · rw [io_t h2, io_t ⟨fun _ => h1', fun _ => h2⟩]
      · rw [io_f h2, io_f (fun z => h2 (z.mpr h1'))])
theorem wo_m' (M : mM S g) {t nt : Nat} (ht : t < 8) (hb : (S 61 67).testBit t = true) (hn : nt ≤ 1) : fn_Mo_worldsOf (nI t) (nI nt) g = some (mI (a_ww S t nt), g) := by
  have c := mB_c M.1
  have p4 := m4_p (by omega) M.2 ht
  unfold fn_Mo_worldsOf
  rw [pl_m M ht, io_t hb, bd_s, wo_12 M (by omega) hn]
  rfl
theorem low_23 {v t : Nat} (hv : v < 256) (ht : t < 8) (h1 : v.testBit t = true) (h2 : ∀ u, u < t → v.testBit u = false) (g : et_G) : fn_Mo_low_23 (nI v) 1000000 0 g = some (nI t, g) := by
  refine lp0 (fun m i (_ : Unit) => fn_Mo_low_23 (nI v) m i g) (fun o => o = some (nI t, g)) t (by omega) (fun _ _ => True) () trivial ?_ ?_
  · intro m _ _
    show fn_Mo_low_23 (nI v) (m + 1) (nI t) g = _
    rw [fn_Mo_low_23]
    simp (disch := omega) only [ni_of, nI_clamp, ib_e, ck_t, bd_s, et_b, nI_add, if_p, ni_eq, ni_lt, ni_le, b_e0, b_e1, io_n, mb_n]
    rw [io_t h1]
  · intro m k _ hk _ ih
    show fn_Mo_low_23 (nI v) (m + 1) (nI k) g = _
    rw [fn_Mo_low_23]
    simp (disch := omega) only [ni_of, nI_clamp, ib_e, ck_t, bd_s, et_b, nI_add, if_p, ni_eq, ni_lt, ni_le, b_e0, b_e1, io_n, mb_n]
    rw [io_f (by rw [h2 k hk]; simp)]
    exact ih () trivial
theorem low_m {W k t : Nat} (hW : W < 256) (hk : k < 8) (hp : k < pop 31 W) (ht : t < 8) (h1 : (clr k W).testBit t = true) (h2 : ∀ u, u < t → (clr k W).testBit u = false) (g : et_G) : fn_Mo_low (nI W) (nI k) g = some (nI t, g) := by
  unfold fn_Mo_low
  refine lp0 (fun m i (x : Int32) => fn_Mo_low_4 (nI k) m x i g) (fun o => o = some (nI t, g)) k (by omega) (fun j x => x = nI (clr j W)) (nI W) rfl ?_ ?_
  · intro m x h
    show fn_Mo_low_4 (nI k) (m + 1) x (nI k) g = _
    rw [fn_Mo_low_4, if_pos (nI_le (Nat.le_refl _) (by omega)), h]
    exact low_23 (clr_d W hW k hk).1 ht h1 h2 g
  · intro m j x hj h ih
    show fn_Mo_low_4 (nI k) (m + 1) x (nI j) g = _
    have d := clr_d W hW j (by omega)
    have nz := d.2 (by omega)
    rw [fn_Mo_low_4, if_neg (nI_ge hj (by omega)), h]
    simp only [ni_of, et_b, nI_add]
    refine ih _ ?_
    rw [pk_sub (by omega), na_n (by omega) (by omega)]
    rfl
theorem kth {W k : Nat} (hW : W < 256) (hk : k < 8) (hp : k < pop 31 W) : ∃ t, t < 8 ∧ W.testBit t = true ∧ pop t W = k ∧ ∀ g, fn_Mo_low (nI W) (nI k) g = some (nI t, g) := by
  obtain ⟨t, t1, t2, t3, t4, t5⟩ := lo_d W hW k hk hp
  exact ⟨t, t1, t4, t5, fun g => low_m hW hk hp t1 t2 t3 g⟩
theorem rw_m (M : mM S g) : fn_Mo_real g = some (mI (a_rw S), g) := by
  have c := mB_c M.1
  obtain ⟨r1, r2, w, l⟩ := mM_r M
  have h4 := M.2.2.2.1
  have r66 : ∀ j, g.1 66 j = nI (S 66 j) := fun j => M.1.1.1 66 j rfl
  unfold fn_Mo_real
  have := sc_m (F := fn_Mo_real_4) (g := g) (N := pop 31 (S 61 67)) (P := fun k => a_rw S k) (by omega) (fun m x => by
    rw [fn_Mo_real_4, r1, bi_e (by omega), bd_s, if_pos (nI_le (Nat.le_refl _) (by omega))]) (fun m x k hk => by
    obtain ⟨t, t1, t2, t3, t4⟩ := kth w (show k < 8 by omega) hk
    have t5 := m4_t M.2 t2
    have w4 := (mB_t M.1 t5).2.2.2
    rw [fn_Mo_real_4, r1, bi_e (by omega), bd_s, if_neg (nI_ge hk (by omega)), r1, t4, bd_s]
    simp (disch := omega) only [ni_of, nI_clamp, ib_e, ck_t, bd_s, et_b, nI_add, if_p, ni_eq, ni_lt, ni_le, b_e0, b_e1, io_n, pk_mul, r66, or_n0]
    exact io_c ⟨fun z => ⟨t, t5, ⟨t2, z⟩, t3⟩, fun ⟨u, u1, u2, u3⟩ => by rw [pop_inj t2 u2.1 (by omega)]; exact u2.2⟩)
  rw [this]
  refine congrArg some (congrArg (·, g) (mI_c fun i _ => ⟨fun z => z.2, fun z => ⟨?_, z⟩⟩))
  obtain ⟨t, t1, t2, t3⟩ := z
  have := m4_q (by omega) M.2 (show t < 8 by omega) t2.1
  omega
theorem se_m (M : mM S g) {p : Nat} (hp : p < S 61 4) : fn_Mo_seenBy (nI p) g = some (mI (a_se S p), g) := by
  have c := mB_c M.1
  obtain ⟨r1, r2, w, l⟩ := mM_r M
  have h4 := M.2.2.2.1
  have r66 : ∀ j, g.1 66 j = nI (S 66 j) := fun j => M.1.1.1 66 j rfl
  have r69 : ∀ j, g.1 69 j = nI (S 69 j) := fun j => M.1.1.1 69 j rfl
  unfold fn_Mo_seenBy
  have := sc_m (F := fn_Mo_seenBy_4 (nI p)) (g := g) (N := pop 31 (S 61 67)) (P := fun k => a_se S p k) (by omega) (fun m x => by
    rw [fn_Mo_seenBy_4, r1, bi_e (by omega), bd_s, if_pos (nI_le (Nat.le_refl _) (by omega))]) (fun m x k hk => by
    obtain ⟨t, t1, t2, t3, t4⟩ := kth w (show k < 8 by omega) hk
    have t5 := m4_t M.2 t2
    obtain ⟨w1, w2, w3, w4⟩ := mB_t M.1 t5
    have q1 := mB_p M.1 hp w2
    rw [fn_Mo_seenBy_4, r1, bi_e (by omega), bd_s, if_neg (nI_ge hk (by omega)), r1, t4, bd_s]
    simp (disch := omega) only [ni_of, nI_clamp, ib_e, ck_t, bd_s, et_b, nI_add, if_p, ni_eq, ni_lt, ni_le, b_e0, b_e1, io_n, pk_mul, r66, r69, or_n0]
    exact io_c ⟨fun z => ⟨t, t5, ⟨t2, z⟩, t3⟩, fun ⟨u, u1, u2, u3⟩ => by rw [pop_inj t2 u2.1 (by omega)]; exact u2.2⟩)
  rw [this]
  refine congrArg some (congrArg (·, g) (mI_c fun i _ => ⟨fun z => z.2, fun z => ⟨?_, z⟩⟩))
  obtain ⟨t, t1, t2, t3⟩ := z
  have := m4_q (by omega) M.2 (show t < 8 by omega) t2.1
  omega
theorem kn_40 (M : mM S g) {w : Nat} (hw : w < 16) (Z Q : Nat → Prop) (f : Int32 → Int32 → et_G → Option (Int32 × et_G)) (x : Int32) : fn_Mo_knows_40 f (mI Z) (mI Q) x (nI w) 1000000 1 0 g = io (∀ u, u < 16 → (S 61 68).testBit u = true → a_sm Q u w → Z u) (f (x ||| (nI 1 <<< (nI w &&& nI 31))) (nI (w + 1)) g) (f x (nI (w + 1)) g) := by
  obtain ⟨r1, r2, -, l⟩ := mM_r M
  refine lp0 (fun m i (y : Int32) => fn_Mo_knows_40 f (mI Z) (mI Q) x (nI w) m y i g) (fun o => o = io (∀ u, u < 16 → (S 61 68).testBit u = true → a_sm Q u w → Z u) (f (x ||| (nI 1 <<< (nI w &&& nI 31))) (nI (w + 1)) g) (f x (nI (w + 1)) g)) 16 (by omega) (fun k y => y = bI (∀ u, u < k → (S 61 68).testBit u = true → a_sm Q u w → Z u)) (nI 1) (bI_t (fun u hu => by omega)).symm ?_ ?_
  · intro m y h
    show fn_Mo_knows_40 f (mI Z) (mI Q) x (nI w) (m + 1) y (nI 16) g = _
    rw [fn_Mo_knows_40, if_pos (by decide), h]
    unfold fn_Mo_knows_98
    simp (disch := omega) only [ni_of, nI_clamp, ib_e, ck_t, bd_s, et_b, nI_add, if_p, ni_eq, ni_lt, ni_le, b_e0, b_e1, io_n, or_n0]
  · intro m k y hk h ih
    show fn_Mo_knows_40 f (mI Z) (mI Q) x (nI w) (m + 1) y (nI k) g = _
    rw [fn_Mo_knows_40, h]
    unfold fn_Mo_knows_85
    simp (disch := omega) only [ni_of, nI_clamp, ib_e, ck_t, bd_s, et_b, nI_add, if_p, ni_eq, ni_lt, ni_le, b_e0, b_e1, io_n, r2, mb_n, mb_m, xs_e]
    rw [io_f (by omega)]
    have yes : (∀ u, u < k → (S 61 68).testBit u = true → a_sm Q u w → Z u) → ((S 61 68).testBit k = true → a_sm Q k w → Z k) → nI 1 = bI (∀ u, u < k + 1 → (S 61 68).testBit u = true → a_sm Q u w → Z u) := fun a b => (bI_t fun u hu => by
      by_cases e : u = k
      · subst e; exact b
      · exact a u (by omega)).symm
    by_cases h1 : ∀ u, u < k → (S 61 68).testBit u = true → a_sm Q u w → Z u
    · rw [io_t h1]
      by_cases h2 : (S 61 68).testBit k = true
      · rw [io_t h2]
        by_cases h3 : a_sm Q k w
        · rw [io_t h3]
          by_cases h4 : Z k
          · rw [io_t h4]; exact ih _ (yes h1 (fun _ _ => h4))
          · rw [io_f h4]; exact ih _ (bI_f (fun z => h4 (z k (by omega) h2 h3))).symm
        · rw [io_f h3]; exact ih _ (yes h1 (fun _ z => absurd z h3))
      · rw [io_f h2]; exact ih _ (yes h1 (fun z => absurd z h2))
    · rw [io_f h1]; exact ih _ (bI_f (fun z => h1 fun u hu => z u (by omega))).symm
theorem kn_m (M : mM S g) {p : Nat} (hp : p < S 61 4) (Z : Nat → Prop) : fn_Mo_knows (nI p) (mI Z) g = some (mI (a_kn S p Z), g) := by
  obtain ⟨r1, r2, -, l⟩ := mM_r M
  unfold fn_Mo_knows
  rw [se_m M hp, bd_s]
  refine sc_m (F := fn_Mo_knows_12 (mI Z) (mI (a_se S p))) (by omega) (fun m x => by
    rw [fn_Mo_knows_12, if_pos (by decide)]) (fun m x k hk => by
    rw [fn_Mo_knows_12, show (1 : Int32) = nI 1 from rfl, show (0 : Int32) = nI 0 from rfl, show nI 1 = (1 : Int32) from rfl]
    rw [show fn_Mo_knows_40 (fun z4 z5 g => fn_Mo_knows_12 (mI Z) (mI (a_se S p)) m z4 z5 g) (mI Z) (mI (a_se S p)) x (nI k) 1000000 1 (nI 0) g = _ from kn_40 M hk Z (a_se S p) (fun z4 z5 g => fn_Mo_knows_12 (mI Z) (mI (a_se S p)) m z4 z5 g) x]
    simp (disch := omega) only [ni_of, nI_clamp, ib_e, ck_t, bd_s, et_b, nI_add, if_p, ni_eq, ni_lt, ni_le, b_e0, b_e1, io_n, r2, mb_n, io_io]
    rw [io_f (by omega)])
end MM
