/-! likely -/
def wg (K y a b : Nat) : Nat := y * a * K / (y * a + (K - y) * b)
noncomputable def wgh (K : Nat) (S : et_T) (w nt x : Nat) : Nat := io ((io (nt = 0) x (K - x)) * S 70 (2 * w) + (K - (io (nt = 0) x (K - x))) * S 70 (2 * w + 1) = 0) x (io (nt = 0) (wg K (io (nt = 0) x (K - x)) (S 70 (2 * w)) (S 70 (2 * w + 1))) (K - wg K (io (nt = 0) x (K - x)) (S 70 (2 * w)) (S 70 (2 * w + 1))))
theorem wg_le (K y a b : Nat) : wg K y a b ≤ K := by
  unfold wg
  apply Nat.div_le_of_le_mul
  rw [Nat.mul_comm (y * a + _)]
  rw [Nat.mul_comm (y * a)]
  exact Nat.mul_le_mul_left _ (Nat.le_add_right _ _)
section LI
variable {S : et_T} {K : Nat}
theorem wgh_le {w nt x : Nat} (hx : x ≤ K) : wgh K S w nt x ≤ K := by
  unfold wgh
  generalize (io (nt = 0) x (K - x)) = y
  by_cases h : y * S 70 (2 * w) + (K - y) * S 70 (2 * w + 1) = 0
  · rw [io_t h]; exact hx
  · rw [io_f h]
    have := wg_le K y (S 70 (2 * w)) (S 70 (2 * w + 1))
    by_cases q : nt = 0
    · rw [io_t q]; exact this
    · rw [io_f q]; omega
/-- the sums of it, as they are reckoned -/
theorem we_n (hK : K = 1000000) {y a b : Nat} (hy : y ≤ K) (ha : a ≤ 1000) (hb : b ≤ 1000) : lN y * lN a + (lN K - lN y) * lN b = lN (y * a + (K - y) * b) ∧ y * a ≤ 1000000000 ∧ (K - y) * b ≤ 1000000000 ∧ (¬ y * a + (K - y) * b = 0 → (lN (y * a) * lN K) / lN (y * a + (K - y) * b) = lN (wg K y a b)) := by
  have u1 : y * a ≤ K * 1000 := Nat.mul_le_mul hy ha
  have u2 : (K - y) * b ≤ K * 1000 := Nat.mul_le_mul (by omega) hb
  refine ⟨?_, by omega, by omega, fun h => ?_⟩
  · rw [lN_sub hy, lN_mul, lN_mul, lN_add]
  · unfold wg
    rw [lN_mul]
    have u3 : y * a * K ≤ 1000000000 * 1000000 := Nat.mul_le_mul (by omega) (by omega)
    exact pk_lDiv (by omega) (by omega) (by omega)
theorem li_K (hK : K = 1000000) : (1000000 : Int64) = lN K := by rw [hK]; rfl
theorem ii_K (hK : K = 1000000) : (1000000 : Int32) = nI K := by rw [hK]; rfl
theorem we_14 (hK : K = 1000000) {g : et_G} {x y w nt : Nat} (hy : y ≤ K) (hw : w < 5) (hnt : nt ≤ 1) (e1 : g.1 14 (2 * w) = nI (S 70 (2 * w))) (e2 : g.1 14 (2 * w + 1) = nI (S 70 (2 * w + 1))) (ha : S 70 (2 * w) ≤ 1000) (hb : S 70 (2 * w + 1) ≤ 1000) : fn_Tw_weighed_14 (nI x) (nI w) (nI nt) (lN y) g = some (nI (io (y * S 70 (2 * w) + (K - y) * S 70 (2 * w + 1) = 0) x (io (nt = 0) (wg K y (S 70 (2 * w)) (S 70 (2 * w + 1))) (K - wg K y (S 70 (2 * w)) (S 70 (2 * w + 1))))), g) := by
  obtain ⟨n1, n2, n3, n4⟩ := we_n hK hy ha hb
  have wl := wg_le K y (S 70 (2 * w)) (S 70 (2 * w + 1))
  unfold fn_Tw_weighed_14
  rw [li_K hK, ii_K hK, show (2 : Int32) = nI 2 from rfl, pk_mul, show (1 : Int32) = nI 1 from rfl, nI_add, ib_e (2 * w) 10 (by omega) (by decide), ck_t, ib_e (2 * w + 1) 10 (by omega) (by decide), nI_clamp (by omega), nI_clamp (by omega), e1, e2, nI_l (by omega), nI_l (by omega)]
  simp only [et_b]
  rw [ck_t, n1]
  by_cases z : y * S 70 (2 * w) + (K - y) * S 70 (2 * w + 1) = 0
  · rw [if_pos ((lg_cmp_eq _ _).mpr (by rw [z]; rfl)), io_t z]
  · have nz : ¬ lN (y * S 70 (2 * w) + (K - y) * S 70 (2 * w + 1)) = 0 := fun e => z ((pk_lEQ (b := 0) (by omega) (by decide)).mp e)
    rw [if_neg (fun e => nz ((lg_cmp_eq _ _).mp e)), show (!decide (lN (y * S 70 (2 * w) + (K - y) * S 70 (2 * w + 1)) = 0)) = true from by rw [decide_eq_false nz]; rfl, ck_t, lN_mul, n4 z, lN_i, io_f z]
    by_cases q : nt = 0
    · rw [if_pos (show nI nt = 0 by rw [q]; rfl), io_t q]
    · rw [if_neg (show ¬ nI nt = (0 : Int32) from fun e => q ((nI_eq (b := 0) (by omega) (by decide)).mp e)), io_f q, pk_sub wl]
theorem we_c (hK : K = 1000000) {g : et_G} {x w nt : Nat} (hx : x ≤ K) (hw : w < 5) (hnt : nt ≤ 1) (e1 : g.1 14 (2 * w) = nI (S 70 (2 * w))) (e2 : g.1 14 (2 * w + 1) = nI (S 70 (2 * w + 1))) (ha : S 70 (2 * w) ≤ 1000) (hb : S 70 (2 * w + 1) ≤ 1000) : fn_Tw_weighed (nI x) (nI w) (nI nt) g = some (nI (wgh K S w nt x), g) := by
  unfold fn_Tw_weighed wgh
  by_cases q : nt = 0
  · rw [if_pos (show nI nt = 0 by rw [q]; rfl), nI_l (by omega), we_14 hK hx hw hnt e1 e2 ha hb, io_t (a := x) (b := K - x) q]
  · rw [if_neg (show ¬ nI nt = (0 : Int32) from fun e => q ((nI_eq (b := 0) (by omega) (by decide)).mp e)), ii_K hK, pk_sub hx, nI_l (by omega), we_14 hK (show K - x ≤ K by omega) hw hnt e1 e2 ha hb, io_f (a := x) (b := K - x) q]
def lkC (S : et_T) (p t s : Nat) : Prop := S 84 (5 * s + 2) = t ∧ S 84 (5 * s) ≠ p ∧ a_pl S p (S 84 (5 * s + 1)) = a_pl S (S 84 (5 * s)) (S 84 (5 * s + 1))
noncomputable def lk (K : Nat) (S : et_T) (p t : Nat) : Nat → Nat
  | 0 => 500000
  | k + 1 => io (lkC S p t k) (wgh K S (S 84 (5 * k + 3)) (S 84 (5 * k + 4)) (lk K S p t k)) (lk K S p t k)
theorem lk_le (hK : K = 1000000) (p t : Nat) : ∀ k, lk K S p t k ≤ K := by
  intro k
  induction k with
  | zero => unfold lk; omega
  | succ k ih =>
    unfold lk
    by_cases h : lkC S p t k
    · rw [io_t h]; exact wgh_le ih
    · rw [io_f h]; exact ih
theorem li_c (hK : K = 1000000) {g : et_G} (A : gA S g) {p t : Nat} (hp : p < S 61 4) (ht : t < S 61 5) : fn_Et_likely_17 (nI p) (nI t) 1000000 500000 0 g = some (.inr (nI (lk K S p t (S 61 50))), g) := by
  obtain ⟨n0, hn⟩ := gA_n A
  have c := gA_c A
  have e70 := A.1.2.2.2.2.2.2.2.2
  have w70 := A.2.2.1.2.2.2.2.2.2.2.2.2.2.2
  refine lp0 (fun m i (y : Int32) => fn_Et_likely_17 (nI p) (nI t) m y i g) (fun o => o = some (.inr (nI (lk K S p t (S 61 50))), g)) (S 61 50) (by omega) (fun k y => y = nI (lk K S p t k)) 500000 rfl ?_ ?_
  · intro m y h
    show fn_Et_likely_17 (nI p) (nI t) (m + 1) y (nI (S 61 50)) g = _
    rw [fn_Et_likely_17, n0, if_pos (nI_le (Nat.le_refl _) (by omega)), h]
  · intro m k y hk h ih
    show fn_Et_likely_17 (nI p) (nI t) (m + 1) y (nI k) g = _
    obtain ⟨e1, e2, e3, e4, e5⟩ := gA_s A hk
    obtain ⟨w1, w2, w3, w4, w5⟩ := gA_w A hk
    have lb := lk_le (S := S) hK p t k
    have e := we_c hK (S := S) (g := g) lb w4 w5 (e70 (by omega) _ (by omega)) (e70 (by omega) _ (by omega)) (w70 _ (by omega)) (w70 _ (by omega))
    rw [fn_Et_likely_17, n0, if_neg (nI_ge hk (by omega)), h]
    simp (disch := omega) only [ni_of, nI_clamp, ib_e, ck_t, bd_s, et_b, nI_add, if_p, ni_eq, ni_lt, ni_le, b_e0, b_e1, io_n, e3, ih_c A hk hp, e4, e5, e]
    by_cases h1 : S 84 (5 * k + 2) = t
    · rw [io_t h1]
      by_cases h2 : S 84 (5 * k) ≠ p ∧ a_pl S p (S 84 (5 * k + 1)) = a_pl S (S 84 (5 * k)) (S 84 (5 * k + 1))
      · rw [io_t h2]; exact ih _ (by rw [lk, io_t ⟨h1, h2⟩])
      · rw [io_f h2]; exact ih _ (by rw [lk, io_f (fun z => h2 z.2)])
    · rw [io_f h1]; exact ih _ (by rw [lk, io_f (fun z => h1 z.1)])
theorem li_127 (hK : K = 1000000) {g : et_G} (B : mB S g) {k x y : Nat} (hk : k < S 61 50) (hx : x ≤ K) (hy : y = io (S 84 (5 * k + 4) = 0) x (K - x)) (r31 : Int64 → Int32 → et_G → Option (Int32 × et_G)) (x1 x2 : Int32) : fn_Mo_likely_127 r31 x1 x2 (lN x) (nI k) (lN y) g = r31 (lN (wgh K S (S 84 (5 * k + 3)) (S 84 (5 * k + 4)) x)) (nI (k + 1)) g := by
  have c := mB_c B
  obtain ⟨w1, w2, w3, w4, w5⟩ := mB_s B hk
  have w70 := B.2.1.2.2.2.2.2.2.2.2.2.2.2
  have r70 : ∀ j, g.1 70 j = nI (S 70 j) := fun j => B.1.1 70 j rfl
  have ha := w70 (2 * S 84 (5 * k + 3)) (by omega)
  have hb := w70 (2 * S 84 (5 * k + 3) + 1) (by omega)
  have yl : y ≤ K := by
    rw [hy]
    by_cases q : S 84 (5 * k + 4) = 0
    · rw [io_t q]; exact hx
    · rw [io_f q]; omega
  obtain ⟨n1, n2, n3, n4⟩ := we_n hK yl ha hb
  have wl := wg_le K y (S 70 (2 * S 84 (5 * k + 3))) (S 70 (2 * S 84 (5 * k + 3) + 1))
  unfold fn_Mo_likely_127
  rw [li_K hK, show (3 : Int32) = nI 3 from rfl, of_m B (by omega), bd_s, show (2 : Int32) = nI 2 from rfl, pk_mul, ib_e (2 * S 84 (5 * k + 3)) 10 (by omega) (by decide), ck_t, nI_clamp (by omega), r70, nI_l (by omega)]
  simp only [et_b]
  rw [of_m B (by omega), bd_s, pk_mul, show (1 : Int32) = nI 1 from rfl, nI_add, ib_e (2 * S 84 (5 * k + 3) + 1) 10 (by omega) (by decide), ck_t, nI_clamp (by omega), r70, nI_l (by omega), n1, nI_add]
  unfold wgh
  rw [← hy]
  by_cases z : y * S 70 (2 * S 84 (5 * k + 3)) + (K - y) * S 70 (2 * S 84 (5 * k + 3) + 1) = 0
  · rw [if_pos ((lg_cmp_eq _ _).mpr (by rw [z]; rfl)), io_t z]
  · have nz : ¬ lN (y * S 70 (2 * S 84 (5 * k + 3)) + (K - y) * S 70 (2 * S 84 (5 * k + 3) + 1)) = 0 := fun e => z ((pk_lEQ (b := 0) (by omega) (by decide)).mp e)
    rw [if_neg (fun e => nz ((lg_cmp_eq _ _).mp e)), show (!decide (lN (y * S 70 (2 * S 84 (5 * k + 3)) + (K - y) * S 70 (2 * S 84 (5 * k + 3) + 1)) = 0)) = true from by rw [decide_eq_false nz]; rfl, ck_t, lN_mul, n4 z, show (4 : Int32) = nI 4 from rfl, of_m B (by omega), bd_s, io_f z]
    by_cases q : S 84 (5 * k + 4) = 0
    · rw [if_neg (by rw [q]; decide), io_t q]
    · rw [if_pos (by rw [show S 84 (5 * k + 4) = 1 by omega]), io_f q, lN_sub wl]
theorem li_m (hK : K = 1000000) {g : et_G} (B : mB S g) {p t : Nat} (hp : p < S 61 4) (ht : t < S 61 5) : fn_Mo_likely_31 (nI p) (nI t) 1000000 500000 0 g = some (nI (lk K S p t (S 61 50)), g) := by
  have c := mB_c B
  have r69 : ∀ j, g.1 69 j = nI (S 69 j) := fun j => B.1.1 69 j rfl
  refine lp0 (fun m i (y : Int64) => fn_Mo_likely_31 (nI p) (nI t) m y i g) (fun o => o = some (nI (lk K S p t (S 61 50)), g)) (S 61 50) (by omega) (fun k y => y = lN (lk K S p t k)) 500000 rfl ?_ ?_
  · intro m y h
    show fn_Mo_likely_31 (nI p) (nI t) (m + 1) y (nI (S 61 50)) g = _
    rw [fn_Mo_likely_31, c.1, if_pos (nI_le (Nat.le_refl _) (by omega)), h, lN_i]
  · intro m k y hk h ih
    show fn_Mo_likely_31 (nI p) (nI t) (m + 1) y (nI k) g = _
    obtain ⟨w1, w2, w3, w4, w5⟩ := mB_s B hk
    have lb := lk_le (S := S) hK p t k
    have q1 := mB_p B hp w2
    have q2 := mB_p B w1 w2
    have e0 := li_127 hK B hk lb (y := lk K S p t k)
    have e1 := li_127 hK B hk lb (y := K - lk K S p t k)
    rw [fn_Mo_likely_31, c.1, if_neg (nI_ge hk (by omega)), h, li_K hK, lN_sub lb]
    simp (disch := omega) only [ni_of, nI_clamp, ib_e, ck_t, bd_s, et_b, nI_add, if_p, ni_eq, ni_lt, ni_le, b_e0, b_e1, io_n, Nat.add_zero, of_m B, pk_mul, r69]
    by_cases h1 : S 84 (5 * k + 2) = t
    · rw [io_t h1]
      by_cases h2 : S 84 (5 * k) = p
      · rw [io_t h2]; exact ih _ (by rw [lk, io_f (fun z => z.2.1 h2)])
      · rw [io_f h2]
        by_cases h3 : S 69 (24 * p + S 84 (5 * k + 1)) = S 69 (24 * S 84 (5 * k) + S 84 (5 * k + 1))
        · rw [io_t h3]
          by_cases h4 : S 84 (5 * k + 4) = 1
          · rw [io_t h4, e1 (by rw [io_f (by omega)])]
            exact ih _ (by rw [lk, io_t ⟨h1, h2, h3⟩])
          · rw [io_f h4, e0 (by rw [io_t (by omega)])]
            exact ih _ (by rw [lk, io_t ⟨h1, h2, h3⟩])
        · rw [io_f h3]; exact ih _ (by rw [lk, io_f (fun z => h3 z.2.2)])
    · rw [io_f h1]; exact ih _ (by rw [lk, io_f (fun z => h1 z.1)])
theorem ok_likely {g : et_G} (I : Iv S g) (p t : Int32) : okB 0 S g (fn_Et_likely p t g) (fn_Mo_likely p t) := by
  obtain ⟨K, hK⟩ : ∃ K, K = 1000000 := ⟨_, rfl⟩
  have A := Iv_gA I
  have c := gA_c A
  by_cases hv : iN p (S 61 4) ∧ iN t (S 61 5)
  · obtain ⟨h1, h3⟩ := hv
    obtain ⟨p, hp, rfl⟩ := iN_e h1 (by omega)
    obtain ⟨t, ht, rfl⟩ := iN_e h3 (by omega)
    refine ⟨S, .inr (nI (lk K S p t (S 61 50))), okC_q I ?_, okM_q (fun g1 M => ?_), I.2.2.2.1, I.2.2.2.2, fun k e => by cases e⟩
    · unfold fn_Et_likely
      rw [np_c c.2.1, io_t h1, bt_r, nt_c c.2.2.1, io_t h3, bt_r, li_c hK A hp ht]
    · unfold fn_Mo_likely
      have B := Iv_mB I (t0_m M 0)
      have cB := mB_c B
      show et_bd (fn_Mo_isWho (nI p) 0 (et_si g1 61 0 0)) _ = _
      rw [show fn_Mo_isWho (nI p) 0 (et_si g1 61 0 0) = _ from iw_y (h := 0) si_e cB.2.2.2.2.2.2.1 (by omega) hp (by decide), bd_s, if_neg (by decide), it_y si_e cB.2.2.1 (by omega) ht, bd_s, if_neg (by decide), li_m hK B hp ht]
      rfl
  · refine ⟨S, .inl 0, ?_, fun g1 M => ?_, I.2.2.2.1, I.2.2.2.2, fun k e => by cases e; rfl⟩
    · refine okC_q I ?_
      unfold fn_Et_likely
      rw [np_c c.2.1]
      by_cases h1 : iN p (S 61 4)
      · rw [io_t h1, bt_r, nt_c c.2.2.1, io_f (fun z => hv ⟨h1, z⟩), bt_l]
      · rw [io_f h1, bt_l]
    · unfold fn_Mo_likely
      refine eb_q ?_
      show ev_Q (et_bd (fn_Mo_isWho p 0 (et_si g1 61 0 0)) _) _
      have B := mB_c (Iv_mB I (t0_m M 0))
      by_cases h1 : iN p (S 61 4)
      · have h3 : ¬ iN t (S 61 5) := fun z => hv ⟨h1, z⟩
        obtain ⟨p, hp, rfl⟩ := iN_e h1 (by omega)
        rw [show fn_Mo_isWho (nI p) 0 (et_si g1 61 0 0) = _ from iw_y (h := 0) si_e B.2.2.2.2.2.2.1 (by omega) hp (by decide), bd_s, if_neg (by decide), it_n si_e B.2.2.1 h3, bd_s, if_pos rfl]
        exact okM_t (g' := g) M
      · rw [iw_n si_e B.2.2.2.2.2.2.1 (fun z => h1 z.1), bd_s, if_pos rfl]
        exact okM_t (g' := g) M
end LI
