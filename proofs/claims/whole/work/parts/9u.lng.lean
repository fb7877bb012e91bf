/-! village: rule -/
def xr (r k j : Nat) : Bool := ((k == 25 || k == 26) && j == r) || (k == 15 && j == 11)
def xs (r k j : Nat) : Bool := (k == 78 && (Nat.ble (5 * r) j && Nat.ble j (5 * r + 4))) || (k == 61 && j == 33)
def xr0 (r k j : Nat) : Bool := (k == 25 || k == 26) && j == r
def xs0 (r k j : Nat) : Bool := k == 78 && (Nat.ble (5 * r) j && Nat.ble j (5 * r + 4))
section LG
variable {S : et_T} {n : Nat} {g0 h0 : et_G} {D : Nat → Nat}
theorem xs_w {r j : Nat} (h1 : 5 * r ≤ j) (h2 : j ≤ 5 * r + 4) : mS (xs0 r) 78 j = true := by
  show (w_ms 78 j || (true && (Nat.ble (5 * r) j && Nat.ble j (5 * r + 4)))) = true
  rw [Nat.ble_eq.mpr h1, Nat.ble_eq.mpr h2]
  simp
theorem xr_w {r k : Nat} (hk : k = 25 ∨ k = 26) : wS (xr0 r) k r = true := by
  unfold wS xr0
  rcases hk with rfl | rfl <;> simp
theorem r42_0 {f a m : Nat} {h : et_G} {x1 : Int32} (c : fM n f a h0 h) (hm : 1 ≤ m) : fn_Mo_readsRule_42 x1 m 0 h = some ((), h) := by
  obtain ⟨m, rfl⟩ : ∃ q, m = q + 1 := ⟨m - 1, by omega⟩
  rw [fn_Mo_readsRule_42, if_pos rfl]
  unfold fn_Mo_readsRule_194
  rw [gd_0 c, bd_s, if_pos rfl]
theorem r120_0 {f a m : Nat} {h : et_G} {x1 : Int32} (c : fM n f a h0 h) (hm : 1 ≤ m) : fn_Mo_readsRule_120 (fun z2 g => fn_Mo_readsRule_42 x1 m z2 g) x1 h = some ((), h) := by
  unfold fn_Mo_readsRule_120 fn_Mo_readsRule_160
  rw [gd_0 c, bd_s, if_pos rfl, gd_0 c, bd_s, if_pos rfl]
  exact r42_0 c hm
theorem r69_0 {f a m : Nat} {h : et_G} {x1 : Int32} (c : fM n f a h0 h) (hm : 1 ≤ m) : fn_Mo_readsRule_69 (fun z2 g => fn_Mo_readsRule_42 x1 m z2 g) x1 h = some ((), h) := by
  unfold fn_Mo_readsRule_69
  rw [amh_0 c, bd_s, if_pos rfl]
  exact r120_0 c hm
theorem r82_f {f a r c : Nat} {h : et_G} {R : Int32 → et_G → Option (Unit × et_G)} (t : fM n f a h0 h) (hr : r < 6) (hc : c ≤ 4) (h5 : h.1 78 (5 * r) = nI c) : ∀ d m k, k + d = c → d < m → fn_Mo_readsRule_82 R (nI (5 * r)) m (nI k) h = fn_Mo_readsRule_120 R (nI (5 * r)) h := by
  intro d
  induction d with
  | zero =>
    intro m k hk hm
    obtain ⟨m, rfl⟩ : ∃ q, m = q + 1 := ⟨m - 1, by omega⟩
    rw [fn_Mo_readsRule_82, ib_e (5 * r) 30 (by omega) (by decide), ck_t, nI_clamp (by omega), h5, if_pos (nI_le (by omega) (by omega))]
  | succ d ih =>
    intro m k hk hm
    obtain ⟨m, rfl⟩ : ∃ q, m = q + 1 := ⟨m - 1, by omega⟩
    rw [fn_Mo_readsRule_82, ib_e (5 * r) 30 (by omega) (by decide), ck_t, nI_clamp (by omega), h5, if_neg (nI_ge (by omega) (by omega)), show nI (5 * r) + (1 : Int32) = nI (5 * r + 1) from nI_add _ 1, nI_add, ib_e (5 * r + 1 + k) 30 (by omega) (by decide), ck_t, fau_0 t, bd_s, show nI k + (1 : Int32) = nI (k + 1) from nI_add _ 1]
    show (if (h.1 78 (nI (5 * r + 1 + k)).toNatClampNeg) = (h.1 61 26) then fn_Mo_readsRule_82 R (nI (5 * r)) m (nI (k + 1)) h else fn_Mo_readsRule_82 R (nI (5 * r)) m (nI (k + 1)) h) = _
    rw [ih m (k + 1) (by omega) (by omega)]
    split <;> rfl
theorem r82_n {r c x : Nat} {h : et_G} {R : Int32 → et_G → Option (Unit × et_G)} (hr : r < 6) (hc : c ≤ 4) (h5 : h.1 78 (5 * r) = nI c) (h6 : h.1 61 26 = nI x) (hx : ∀ k, k < c → ¬ h.1 78 (5 * r + 1 + k) = nI x) : ∀ d m k, k + d = c → d < m → fn_Mo_readsRule_82 R (nI (5 * r)) m (nI k) h = fn_Mo_readsRule_120 R (nI (5 * r)) h := by
  intro d
  induction d with
  | zero =>
    intro m k hk hm
    obtain ⟨m, rfl⟩ : ∃ q, m = q + 1 := ⟨m - 1, by omega⟩
    rw [fn_Mo_readsRule_82, ib_e (5 * r) 30 (by omega) (by decide), ck_t, nI_clamp (by omega), h5, if_pos (nI_le (by omega) (by omega))]
  | succ d ih =>
    intro m k hk hm
    obtain ⟨m, rfl⟩ : ∃ q, m = q + 1 := ⟨m - 1, by omega⟩
    rw [fn_Mo_readsRule_82, ib_e (5 * r) 30 (by omega) (by decide), ck_t, nI_clamp (by omega), h5, if_neg (nI_ge (by omega) (by omega)), show nI (5 * r) + (1 : Int32) = nI (5 * r + 1) from nI_add _ 1, nI_add, ib_e (5 * r + 1 + k) 30 (by omega) (by decide), ck_t, nI_clamp (by omega), h6, if_neg (hx k (by omega)), show nI k + (1 : Int32) = nI (k + 1) from nI_add _ 1]
    exact ih m (k + 1) (by omega) (by omega)
theorem r82_y {a r c x : Nat} {h : et_G} {R : Int32 → et_G → Option (Unit × et_G)} (u : uM S n a h0 h) (hr : r < 6) (hc : c ≤ 4) (h5 : h.1 78 (5 * r) = nI c) (h6 : h.1 61 26 = nI x) : ∀ d m k, k + d = c → d < m → (∃ j, k ≤ j ∧ j < c ∧ h.1 78 (5 * r + 1 + j) = nI x) → ∃ h', fn_Mo_readsRule_82 R (nI (5 * r)) m (nI k) h = fn_Mo_readsRule_120 R (nI (5 * r)) h' ∧ fM n 4 a h0 h' := by
  intro d
  induction d with
  | zero => intro m k hk hm ⟨t, h1, h2, h3⟩; omega
  | succ d ih =>
    intro m k hk hm ⟨t, h1, h2, h3⟩
    obtain ⟨m, rfl⟩ : ∃ q, m = q + 1 := ⟨m - 1, by omega⟩
    rw [fn_Mo_readsRule_82, ib_e (5 * r) 30 (by omega) (by decide), ck_t, nI_clamp (by omega), h5, if_neg (nI_ge (by omega) (by omega)), show nI (5 * r) + (1 : Int32) = nI (5 * r + 1) from nI_add _ 1, nI_add, ib_e (5 * r + 1 + k) 30 (by omega) (by decide), ck_t, nI_clamp (by omega), h6, show nI k + (1 : Int32) = nI (k + 1) from nI_add _ 1]
    by_cases e : h.1 78 (5 * r + 1 + k) = nI x
    · rw [if_pos e]
      obtain ⟨x0, h', E, c', w⟩ := fau_n u (f := 4) (by decide)
      rw [show fn_Mo_faults (4 : Int32) h = _ from E, bd_s]
      refine ⟨h', ?_, c'⟩
      exact r82_f c' hr hc ((w.1 78 (5 * r) rfl).trans h5) d m (k + 1) (by omega) (by omega)
    · rw [if_neg e]
      exact ih m (k + 1) (by omega) (by omega) ⟨t, by by_cases z : t = k
                                                      · subst z; exact absurd h3 e
                                                      · omega, h2, h3⟩
/-- the rule so far: v 0 follows from v 1 .. v told -/
def yR (D : Nat → Nat) (gs hs : et_G) (r told : Nat) (v : Nat → Nat) (g h : et_G) : Prop := fq (wS (xr0 r)) gs g ∧ fq (mS (xs0 r)) hs h ∧ h.1 78 (5 * r) = nI (told + 1) ∧ (∀ k, k < told + 1 → h.1 78 (5 * r + 1 + k) = nI (v k) ∧ v k < D 32) ∧ g.1 25 r = nI (v 0) ∧ ∀ t, (bt (g.1 26 r) t = true ↔ ∃ k, 1 ≤ k ∧ k < told + 1 ∧ v k = t)
theorem yR_s {gs hs g g' h h' : et_G} {r told : Nat} {v : Nat → Nat} (f : fq w_st g g') (f' : fq w_ms h h') (Y : yR D gs hs r told v g h) : yR D gs hs r told v g' h' := by
  obtain ⟨a1, a2, a3, a4, a5, a6⟩ := Y
  refine ⟨fq_t a1 (wS_l f), fq_t a2 (mS_l f'), ?_, fun k hk => ?_, ?_, ?_⟩
  · rw [f'.1 78 _ rfl]; exact a3
  · rw [f'.1 78 _ rfl]; exact a4 k hk
  · rw [f.1 25 r rfl]; exact a5
  · rw [f.1 26 r rfl]; exact a6
theorem yR_V {gs hs g h : et_G} {r told : Nat} {v : Nat → Nat} (V : vV D gs hs) (hr : r = D 33) (h6 : r < 6) (h1 : 1 ≤ told) (h3 : told ≤ 3) (Y : yR D gs hs r told v g h) : vV (dU D 33 (r + 1)) (et_si g 15 11 (nI (r + 1))) (et_si h 61 33 (nI (r + 1))) := by
  obtain ⟨A, B, L, N, H, W, T, R⟩ := V
  obtain ⟨F1, F2, a3, a4, a5, a6⟩ := Y
  have F : fq (wS (xr r)) gs (et_si g 15 11 (nI (r + 1))) := fq_s (wS_m F1 (fun k j e => (Bool.or_eq_false_iff.mp e).1)) rfl
  have F' : fq (mS (xs r)) hs (et_si h 61 33 (nI (r + 1))) := fq_s (mS_m F2 (fun k j e => (Bool.or_eq_false_iff.mp e).1)) rfl
  refine ⟨vA_g A F F' (fun j hj => match j, hj with | 0, _ => Or.inl ⟨rfl, rfl, rfl⟩ | 1, _ => Or.inl ⟨rfl, rfl, rfl⟩ | 2, _ => Or.inl ⟨rfl, rfl, rfl⟩ | 3, _ => Or.inl ⟨rfl, rfl, rfl⟩ | 4, _ => Or.inl ⟨rfl, rfl, rfl⟩ | 5, _ => Or.inr ⟨si_e, fun z => si_e⟩ | 6, _ => Or.inl ⟨rfl, rfl, rfl⟩ | 7, _ => Or.inl ⟨rfl, rfl, rfl⟩ | 8, _ => Or.inl ⟨rfl, rfl, rfl⟩ | j + 9, hj => absurd hj (by omega)), ⟨B.1, B.2.1, B.2.2.1, B.2.2.2.1, B.2.2.2.2.1, show r + 1 ≤ 6 by omega, B.2.2.2.2.2.2⟩, vL_q F F' (fun _ => rfl) (fun _ => rfl) (fun _ => rfl) (fun _ => rfl) (fun _ => rfl) (fun _ => rfl) rfl rfl rfl L, vN_q F F' (fun _ => rfl) (fun _ => rfl) N, vH_q (D := D) F F' (fun _ => rfl) (fun _ => rfl) (fun z => ⟨z, rfl⟩) H, vW_q F F' (fun _ => rfl) (fun _ => rfl) W, vT_q F F' (fun _ => rfl) (fun _ => rfl) (fun _ => rfl) rfl rfl (fun _ => rfl) (Nat.le_refl (D 28)) (fun z => ⟨rfl, z⟩) rfl B.2.2.2.2.2.2.2.2 T, fun u hu => ?_⟩
  have hu : u < r + 1 := hu
  by_cases e : u = r
  · subst e
    refine ⟨told + 1, v, by omega, by omega, fun k hk => (a4 k hk).2, ?_, fun k hk => ?_, ?_, ?_⟩
    · rw [si_x (by decide)]; exact a3
    · rw [si_x (by decide)]; exact (a4 k hk).1
    · rw [si_x (by decide)]; exact a5
    · rw [si_x (by decide)]; exact a6
  · refine ruJ_q (D := D) (F.1 25 u ?_) (F.1 26 u ?_) (fun j j1 j2 => F'.1 78 j ?_) (Nat.le_refl (D 32)) (R u (by omega))
    · unfold wS w_st xr
      rw [show (u == r) = false from beq_eq_false_iff_ne.mpr e]; rfl
    · unfold wS w_st xr
      rw [show (u == r) = false from beq_eq_false_iff_ne.mpr e]; rfl
    · show (w_ms 78 j || ((true && (Nat.ble (5 * r) j && Nat.ble j (5 * r + 4))) || false)) = false
      rw [show Nat.ble (5 * r) j = false from by
        cases z : Nat.ble (5 * r) j with
        | false => rfl
        | true => have := Nat.ble_eq.mp z; omega]
      rfl
theorem on_nu {b m : Nat} (h : ¬ nuF S n b 0 999 = 0) : onF S n b m = nuF S n b 0 999 := by
  unfold nuF at h ⊢
  unfold onF
  by_cases q : tkK S n b = 2
  · have v9 := (tx_2 q).2.2.2.2.2
    rw [io_t q] at h ⊢
    rw [io_t q]
    by_cases z : tkE S n b - b ≤ 3
    · rw [io_t ⟨z, Nat.zero_le _, v9⟩] at h; exact absurd rfl h
    · rw [io_f z, io_f (fun w => z w.1)]
  · rw [io_f q, io_f q]
theorem rul_e {a b r told : Nat} {v : Nat → Nat} {g h g1 h1 : et_G} (hn : n ≤ 800) (hb8 : ∀ i, i < 800 → S 71 i < 256) (V : vV D g h) (hr : r = D 33) (h6 : r < 6) (l1 : 1 ≤ told) (l3 : told ≤ 3) (hab : a ≤ b) (u : tC S n b g0 g1) (u' : uM S n b h0 h1) (Y : yR D g h r told v g1 h1) : e2 (fn_Re_ruleLine_15_92 g1) (et_bd (fn_Mo_readsRule_194 h1) (fun _ g42 => fn_Mo_line_470 g42)) (lQ S n a g0 h0) := by
  obtain ⟨c28, c29, c30, c31, c32, c33, c35, c36⟩ := vA_c V.1
  obtain ⟨m28, m29, m30, m31, m32, m33, m34, m35, m36⟩ := vA_m V.1
  unfold fn_Re_ruleLine_15_92 fn_Mo_readsRule_194
  rw [gd_1 u', bd_s, if_neg (show ¬ (1 : Int32) = 0 by decide), show g1.1 15 11 = nI r from by rw [Y.1.1 15 11 rfl, hr]; exact c33, show h1.1 61 33 = nI r from by rw [Y.2.1.1 61 33 rfl, hr]; exact m33, show nI r + (1 : Int32) = nI (r + 1) from nI_add _ 1]
  show e2 (et_bd (fn_Re_isSemicolon (et_si g1 15 11 (nI (r + 1)))) _) (fn_Mo_line_470 (et_si h1 61 33 (nI (r + 1)))) _
  exact lq_a (semi1 hn hb8 hab (tC_s u rfl) (uM_s u' rfl) (yR_V V hr h6 l1 l3 Y))
theorem rul {a r : Nat} {g h : et_G} (hn : n ≤ 800) (hb8 : ∀ i, i < 800 → S 71 i < 256) (V : vV D g h) (hr : r = D 33) (h6 : r < 6) : ∀ d m m' told b v (g1 h1 : et_G) (x : Int32), told + d = 3 → d < m → d + 1 < m' → a ≤ b → tC S n b g0 g1 → uM S n b h0 h1 → yR D g h r told v g1 h1 → ((x = 1 ∧ (told = 0 ∨ tkK S n b = 2)) ∨ (x = 0 ∧ told ≠ 0 ∧ tkK S n b ≠ 2)) → e2 (fn_Re_ruleLine_15_53 (nI r) m (nI told) g1) (et_bd (fn_Mo_readsRule_42 (nI (5 * r)) m' x h1) (fun _ g42 => fn_Mo_line_470 g42)) (lQ S n a g0 h0) := by
  obtain ⟨c28, c29, c30, c31, c32, c33, c35, c36⟩ := vA_c V.1
  obtain ⟨m28, m29, m30, m31, m32, m33, m34, m35, m36⟩ := vA_m V.1
  obtain ⟨b28, b29, b30, b31, b32, b33, b34, b35, b36⟩ := V.2.1
  intro d
  induction d with
  | zero =>
    intro m m' told b v g1 h1 x hd hm hm' hab u u' Y hx
    obtain ⟨m, rfl⟩ : ∃ q, m = q + 1 := ⟨m - 1, by omega⟩
    obtain ⟨m', rfl⟩ : ∃ q, m' = q + 1 := ⟨m' - 1, by omega⟩
    have ht : told = 3 := by omega
    subst ht
    rw [fn_Re_ruleLine_15_53, fn_Mo_readsRule_42, if_neg (show ¬ (3 : Int32) < nI 3 by decide), if_neg (show ¬ nI 3 = 0 by decide), u.2.1.2.1, u'.2.2.2.1.2.1]
    have k4 := tkK_4 (S := S) n b
    rcases hx with ⟨rfl, hx⟩ | ⟨rfl, -, hx⟩
    · have q : tkK S n b = 2 := by omega
      rw [q, if_neg (show ¬ (1 : Int32) = 0 by decide), if_pos (show nI 2 = (2 : Int32) from rfl), if_pos (show nI 2 = (2 : Int32) from rfl), ib_e (5 * r) 30 (by omega) (by decide), ck_t, nI_clamp (by omega), Y.2.2.1, if_pos (show nI (3 + 1) = (4 : Int32) from rfl)]
      obtain ⟨x0, h', E, c', w⟩ := fau_n u' (f := 2) (by decide)
      rw [show fn_Mo_faults (2 : Int32) h1 = _ from E, bd_s, r69_0 c' (by omega), bd_s, l47_0 c']
      unfold fn_Re_ruleLine_15_70 fn_Re_ruleGround_15
      rw [show (999 : Int32) = nI 999 from rfl]
      by_cases f : nuF S n b 0 999 = 0
      · rw [isn_1 hn u (by decide) f, bd_s, if_neg (show ¬ (1 : Int32) = 0 by decide), if_neg (show ¬ nI 3 < (3 : Int32) by decide)]
        obtain ⟨x1, g2, E1, rfl, c⟩ := ref_c u (f := 2) (by decide)
        rw [show fn_Re_refuse (2 : Int32) g1 = _ from E1, bd_s, bd_s, if_pos (by decide)]
        exact e2_q (lq_f c c')
      · obtain ⟨x1, g2, E1, rfl, c⟩ := isn_0 hn u (by decide) f
        rw [E1, bd_s, if_pos rfl, bd_s, if_pos rfl]
        have e : nuF S n b 0 999 = 2 := by
          unfold nuF at f ⊢
          rw [io_t q] at f ⊢
          by_cases z : tkE S n b - b ≤ 3 ∧ 0 ≤ tkV S n b ∧ tkV S n b ≤ 999
          · rw [io_t z] at f; exact absurd rfl f
          · rw [io_f z]
        rw [e] at c
        exact e2_q (lq_f c c')
    · have nq : ¬ nI (tkK S n b) = (2 : Int32) := nq2 hx (by omega)
      rw [if_neg nq, if_neg nq, if_pos rfl]
      exact rul_e hn hb8 V hr h6 (by omega) (by omega) hab u u' Y
  | succ d ih =>
    intro m m' told b v g1 h1 x hd hm hm' hab u u' Y hx
    obtain ⟨m, rfl⟩ : ∃ q, m = q + 1 := ⟨m - 1, by omega⟩
    obtain ⟨m', rfl⟩ : ∃ q, m' = q + 1 := ⟨m' - 1, by omega⟩
    have k4 := tkK_4 (S := S) n b
    rw [fn_Re_ruleLine_15_53, fn_Mo_readsRule_42, if_neg (show ¬ (3 : Int32) < nI told from nI_nlt (a := 3) (by omega) (by decide)), u.2.1.2.1, u'.2.2.2.1.2.1]
    rcases hx with ⟨rfl, hx⟩ | ⟨rfl, hz, hx⟩
    · rw [if_neg (show ¬ (1 : Int32) = 0 by decide)]
      have X1 : (if nI told = 0 then fn_Re_ruleLine_15_70 (fun z3 g => fn_Re_ruleLine_15_53 (nI r) m z3 g) (nI r) (nI told) g1 else if nI (tkK S n b) = (2 : Int32) then fn_Re_ruleLine_15_70 (fun z3 g => fn_Re_ruleLine_15_53 (nI r) m z3 g) (nI r) (nI told) g1 else fn_Re_ruleLine_15_92 g1) = fn_Re_ruleLine_15_70 (fun z3 g => fn_Re_ruleLine_15_53 (nI r) m z3 g) (nI r) (nI told) g1 := by
        rcases hx with z | z
        · rw [z, if_pos nI_0]
        · rw [z, if_pos (show nI 2 = (2 : Int32) from rfl)]
          split <;> rfl
      have X2 : (if nI (tkK S n b) = (2 : Int32) then et_ck (et_ib (nI (5 * r)) 30) (if (h1.1 78 (nI (5 * r)).toNatClampNeg) = (4 : Int32) then et_bd (fn_Mo_faults (2 : Int32) h1) (fun _ g25 => fn_Mo_readsRule_69 (fun z2 g => fn_Mo_readsRule_42 (nI (5 * r)) m' z2 g) (nI (5 * r)) g25) else fn_Mo_readsRule_69 (fun z2 g => fn_Mo_readsRule_42 (nI (5 * r)) m' z2 g) (nI (5 * r)) h1) else fn_Mo_readsRule_69 (fun z2 g => fn_Mo_readsRule_42 (nI (5 * r)) m' z2 g) (nI (5 * r)) h1) = fn_Mo_readsRule_69 (fun z2 g => fn_Mo_readsRule_42 (nI (5 * r)) m' z2 g) (nI (5 * r)) h1 := by
        rw [ib_e (5 * r) 30 (by omega) (by decide), ck_t, nI_clamp (by omega), Y.2.2.1, if_neg (show ¬ nI (told + 1) = (4 : Int32) from fun w => by have := (nI_eq (b := 4) (by omega) (by decide)).mp w; omega)]
        split <;> rfl
      rw [X1, X2]
      unfold fn_Re_ruleLine_15_70 fn_Re_ruleGround_15 fn_Mo_readsRule_69
      rw [show (999 : Int32) = nI 999 from rfl, show h1.1 61 32 = nI (D 32) from by rw [Y.2.1.1 61 32 rfl]; exact m32]
      by_cases f : nuF S n b 0 999 = 0
      · obtain ⟨n1, n2, n3, n4⟩ := nuF_0 f
        have c6 := u.2.1.2.2.2.2
        have m6 := u'.2.2.2.1.2.2.2.2.1
        rw [isn_1 hn u (by decide) f, bd_s, if_neg (show ¬ (1 : Int32) = 0 by decide), if_pos (show nI told < (3 : Int32) from nI_lt (b := 3) (by omega) (by decide)), c6, show g1.1 15 5 = nI (D 32) from by rw [Y.1.1 15 5 rfl]; exact c32]
        by_cases f2 : onF S n b (D 32) = 0
        · obtain ⟨p1, p2, p3⟩ := onF_0 f2
          rw [if_pos (nI_lt p3 (by omega)), ib_e r 6 h6 (by decide), ck_t, nI_clamp (by omega), Y.2.2.2.2.1, amh_m1 u' (by omega) f2, bd_s, if_neg (show ¬ (1 : Int32) = 0 by decide)]
          obtain ⟨F1, F2, a3, a4, a5, a6⟩ := Y
          generalize hy : tkV S n b = y at p3 c6 m6
          by_cases dp : ∃ k, k < told + 1 ∧ v k = y
          · obtain ⟨k, hk, ek⟩ := dp
            obtain ⟨h2, E2, c'⟩ := r82_y (R := fun z2 g => fn_Mo_readsRule_42 (nI (5 * r)) m' z2 g) u' h6 (c := told + 1) (by omega) a3 m6 (told + 1) 1000000 0 (by omega) (by omega) ⟨k, by omega, hk, by rw [(a4 k hk).1, ek]⟩
            rw [show fn_Mo_readsRule_82 (fun z2 g => fn_Mo_readsRule_42 (nI (5 * r)) m' z2 g) (nI (5 * r)) 1000000 0 h1 = _ from E2, r120_0 c' (by omega), bd_s, l47_0 c']
            obtain ⟨x1, g2, E1, rfl, c⟩ := ref_c u (f := 4) (by decide)
            have Z : fn_Re_ruleGround_15_69 g1 = some (0, g2) := by
              unfold fn_Re_ruleGround_15_69
              rw [show fn_Re_refuse (4 : Int32) g1 = _ from E1, bd_s]; rfl
            by_cases z : y = v 0
            · rw [if_pos (by rw [z]), Z, bd_s, if_pos rfl]
              exact e2_q (lq_f c c')
            · have k1 : 1 ≤ k := by
                by_cases e : k = 0
                · subst e; exact absurd ek.symm z
                · omega
              have v0 := (a4 0 (by omega)).2
              rw [if_neg (fun w => z ((nI_eq (by omega) (by omega)).mp w)), ck_t, hb_1 _ (by omega), bd_s, if_pos ((a6 y).mpr ⟨k, k1, hk, ek⟩), if_neg (show ¬ (1 : Int32) = 0 by decide), Z, bd_s, if_pos rfl]
              exact e2_q (lq_f c c')
          · have dn : ∀ k, k < told + 1 → ¬ v k = y := fun k hk e => dp ⟨k, hk, e⟩
            have v0 := (a4 0 (by omega)).2
            rw [show fn_Mo_readsRule_82 (fun z2 g => fn_Mo_readsRule_42 (nI (5 * r)) m' z2 g) (nI (5 * r)) 1000000 0 h1 = _ from r82_n h6 (c := told + 1) (by omega) a3 m6 (fun k hk z => dn k hk (by have v2 := (a4 k hk).2; rw [(a4 k hk).1] at z; exact (nI_eq (by omega) (by omega)).mp z)) (told + 1) 1000000 0 (by omega) (by omega)]
            rw [if_neg (fun w => dn 0 (by omega) ((nI_eq (by omega) (by omega)).mp w).symm), ck_t, hb_1 _ (by omega), bd_s, if_neg (show ¬ bt (g1.1 26 r) y = true from fun w => by obtain ⟨k, -, k2, k3⟩ := (a6 y).mp w; exact dn k k2 k3), if_pos rfl, ck_t, ck_t, c6]
            show e2 (et_bd (some ((1 : Int32), et_si g1 26 r ((g1.1 26 r) ||| ((1 : Int32) <<< (nI y &&& (31 : Int32)))))) (fun v11 g12 => if v11 = 0 then some ((0 : Int32), g12) else et_bd (fn_Re_step g12) (fun _ g14 => et_b (nI told + (1 : Int32)) (fun v15 => fn_Re_ruleLine_15_53 (nI r) m v15 g14)))) _ _
            rw [bd_s, if_neg (show ¬ (1 : Int32) = 0 by decide)]
            obtain ⟨x1, g2, E1, u1, y1⟩ := stp_c hn hb8 (kC_s (k := 26) (j := r) (x := (g1.1 26 r) ||| ((1 : Int32) <<< (nI y &&& (31 : Int32)))) u.1 rfl)
            rw [E1, bd_s, show nI told + (1 : Int32) = nI (told + 1) from nI_add _ 1]
            refine e2_b ?_
            unfold fn_Mo_readsRule_120
            rw [gd_1 u', bd_s, if_neg (show ¬ (1 : Int32) = 0 by decide), ib_e (5 * r) 30 (by omega) (by decide), ck_t, nI_clamp (by omega), a3, show nI (5 * r) + (1 : Int32) = nI (5 * r + 1) from nI_add _ 1, nI_add, ib_e (5 * r + 1 + (told + 1)) 30 (by omega) (by decide), ck_t, nI_clamp (by omega), m6]
            show e2 _ (et_bd (et_bd (fn_Mo_steps (et_si (et_si h1 78 (5 * r + 1 + (told + 1)) (nI y)) 78 (5 * r) (((et_si h1 78 (5 * r + 1 + (told + 1)) (nI y)).1 78 (5 * r)) + (1 : Int32)))) _) _) _
            rw [si_j (show 5 * r ≠ 5 * r + 1 + (told + 1) by omega), a3, show nI (told + 1) + (1 : Int32) = nI (told + 1 + 1) from nI_add _ 1]
            obtain ⟨x2, h2, E2, u2, y2⟩ := stp_m hn hb8 (uM_s (k := 78) (j := 5 * r) (x := nI (told + 1 + 1)) (uM_s (k := 78) (j := 5 * r + 1 + (told + 1)) (x := nI y) u' rfl) rfl) (by omega) (by omega)
            rw [E2, bd_s]
            have ea := (tkE_b (S := S) u.2.2).1
            have eb := bk_b S u.1.2.2.2.2.1
            have Y2 : yR D g h r (told + 1) (dU v (told + 1) y) g2 h2 := by
              refine yR_s y1 y2 ⟨fq_s F1 (xr_w (by decide)), fq_s (fq_s F2 (xs_w (by omega) (by omega))) (xs_w (by omega) (by omega)), si_e, fun k hk => ?_, ?_, fun t => ?_⟩
              · rw [si_j (by omega)]
                by_cases e : k = told + 1
                · subst e; rw [si_e, dU_e]; exact ⟨rfl, p3⟩
                · rw [si_j (by omega), dU_x e]; exact a4 k (by omega)
              · rw [si_x (by decide), dU_x (by omega)]; exact a5
              · rw [si_e, bt_sl' (by omega), a6 t]
                constructor
                · intro z
                  rcases z with ⟨k, k1, k2, k3⟩ | z
                  · exact ⟨k, k1, by omega, by rw [dU_x (by omega)]; exact k3⟩
                  · exact ⟨told + 1, by omega, by omega, by rw [dU_e]; exact z.symm⟩
                · intro ⟨k, k1, k2, k3⟩
                  by_cases e : k = told + 1
                  · rw [e, dU_e] at k3; exact Or.inr k3.symm
                  · rw [dU_x e] at k3; exact Or.inl ⟨k, k1, by omega, k3⟩
            have kb := tkK_4 (S := S) n (bk S n (tkE S n b))
            unfold fn_Mo_readsRule_160
            rw [gd_1 u2, bd_s, if_neg (show ¬ (1 : Int32) = 0 by decide), u2.2.2.2.1.2.1, ib_e (5 * r) 30 (by omega) (by decide), ck_t, nI_clamp (by omega), Y2.2.2.1]
            by_cases q : tkK S n (bk S n (tkE S n b)) = 2
            · rw [q, if_pos (show nI 2 = (2 : Int32) from rfl)]
              exact ih m m' (told + 1) _ _ g2 h2 1 (by omega) (by omega) (by omega) (by omega) u1 u2 Y2 (Or.inl ⟨rfl, Or.inr q⟩)
            · rw [if_neg (nq2 q (by omega)), if_pos (show (2 : Int32) ≤ nI (told + 1 + 1) from nI_le (a := 2) (by omega) (by omega))]
              exact ih m m' (told + 1) _ _ g2 h2 0 (by omega) (by omega) (by omega) (by omega) u1 u2 Y2 (Or.inr ⟨rfl, by omega, q⟩)
        · obtain ⟨x2, h2, E2, rfl, c', -⟩ := amh_m0 (m := D 32) hn u' f2
          have e3 : onF S n b (D 32) = 3 ∧ ¬ tkV S n b < D 32 := by
            unfold onF at f2 ⊢
            rw [io_t n1, io_t n2] at f2 ⊢
            by_cases z : tkV S n b < D 32
            · rw [io_t z] at f2; exact absurd rfl f2
            · exact ⟨io_f z, z⟩
          rw [e3.1] at c'
          obtain ⟨x1, g2, E1, rfl, c⟩ := ref_c u (f := 3) (by decide)
          rw [if_neg (nI_nlt (by omega) (by omega)), show fn_Re_refuse (3 : Int32) g1 = _ from E1, bd_s, bd_s, if_pos (by decide), E2, bd_s, if_pos rfl, r120_0 c' (by omega), bd_s, l47_0 c']
          exact e2_q (lq_f c c')
      · obtain ⟨x1, g2, E1, rfl, c⟩ := isn_0 hn u (by decide) f
        obtain ⟨x2, h2, E2, rfl, c', -⟩ := amh_m0 (m := D 32) hn u' (by rw [on_nu f]; exact f)
        rw [on_nu f] at c'
        rw [E1, bd_s, if_pos rfl, bd_s, if_pos rfl, E2, bd_s, if_pos rfl, r120_0 c' (by omega), bd_s, l47_0 c']
        exact e2_q (lq_f c c')
    · rw [if_neg (nq0 hz (by omega)), if_neg (nq2 hx (by omega)), if_pos rfl]
      exact rul_e hn hb8 V hr h6 (by omega) (by omega) hab u u' Y
theorem ln_8 {a : Nat} {g h : et_G} (hn : n ≤ 800) (hb8 : ∀ i, i < 800 → S 71 i < 256) (t : tC S n a g0 g) (t' : uM S n a h0 h) (V : vV D g h) (k1 : tkK S n a = 1) : e2 (fn_Re_ruleLine_15 g) (et_bd (fn_Mo_readsRule h) (fun _ g42 => fn_Mo_line_470 g42)) (lQ S n a g0 h0) := by
  obtain ⟨c28, c29, c30, c31, c32, c33, c35, c36⟩ := vA_c V.1
  obtain ⟨m28, m29, m30, m31, m32, m33, m34, m35, m36⟩ := vA_m V.1
  obtain ⟨b28, b29, b30, b31, b32, b33, b34, b35, b36⟩ := V.2.1
  unfold fn_Re_ruleLine_15 fn_Mo_readsRule
  rw [c33, m33, c32]
  refine e2_b ?_
  by_cases q8 : D 33 = 6
  · rw [if_neg (show ¬ nI (D 33) < (6 : Int32) from nI_nlt (b := 6) (by omega) (by omega)), if_pos (show nI (D 33) = (6 : Int32) from by rw [q8]; rfl)]
    refine e2_l (ref_c t (f := 2) (by decide)) (fun v g' ⟨e, c⟩ => ?_)
    obtain ⟨x0, h1, E0, c', -⟩ := fau_m t' (f := 2) (by decide)
    rw [e, show fn_Mo_faults (2 : Int32) h = _ from E0, bd_s]
    unfold fn_Mo_readsRule_14
    rw [gd_0 c', bd_s, if_pos rfl, bd_s, l47_0 c']
    exact e2_q (lq_f c c')
  · have h6 : D 33 < 6 := by omega
    rw [if_pos (show nI (D 33) < (6 : Int32) from nI_lt (b := 6) (by omega) (by decide)), if_neg (show ¬ nI (D 33) = (6 : Int32) from nq6 q8 (by omega))]
    unfold fn_Mo_readsRule_14
    rw [gd_1 t', bd_s, if_neg (show ¬ (1 : Int32) = 0 by decide)]
    obtain ⟨x0, h1, E0, t1, w1⟩ := stp_m hn hb8 t' (by omega) (by omega)
    rw [E0, bd_s, show h1.1 61 33 = nI (D 33) from (w1.1 61 33 rfl).trans m33, show (5 : Int32) * nI (D 33) = nI (5 * D 33) from pk_mul 5 _]
    show e2 _ (et_bd (et_ck (et_ib (nI (5 * D 33)) 30) (fn_Mo_readsRule_42 (nI (5 * D 33)) 1000000 1 (et_si h1 78 (nI (5 * D 33)).toNatClampNeg 0))) _) _
    rw [ib_e (5 * D 33) 30 (by omega) (by decide), ck_t, show (nI (5 * D 33)).toNatClampNeg = 5 * D 33 from nI_clamp (by omega)]
    have t1' := uM_s (k := 78) (j := 5 * D 33) (x := 0) t1 rfl
    have ea := (tkE_b (S := S) t.2.2).1
    have eb := bk_b S t.1.2.2.2.2.1
    have k4 := tkK_4 (S := S) n (bk S n (tkE S n a))
    rw [show fn_Mo_readsRule_42 (nI (5 * D 33)) 1000000 1 (et_si h1 78 (5 * D 33) 0) = fn_Mo_readsRule_69 (fun z2 g => fn_Mo_readsRule_42 (nI (5 * D 33)) 999999 z2 g) (nI (5 * D 33)) (et_si h1 78 (5 * D 33) 0) from by
      rw [fn_Mo_readsRule_42, if_neg (show ¬ (1 : Int32) = 0 by decide), ib_e (5 * D 33) 30 (by omega) (by decide), ck_t, nI_clamp (by omega), si_e, if_neg (show ¬ (0 : Int32) = 4 by decide)]
      split <;> rfl]
    unfold fn_Mo_readsRule_69
    rw [show (et_si h1 78 (5 * D 33) 0).1 61 32 = nI (D 32) from by rw [si_x (by decide), w1.1 61 32 rfl]; exact m32]
    generalize hb1 : bk S n (tkE S n a) = b1 at t1' eb k4
    by_cases f1 : onF S n b1 (D 32) = 0
    · obtain ⟨n1, n2, n3⟩ := onF_0 f1
      obtain ⟨x1, g1, E1, rfl, u1, y1⟩ := on_c1 (m := D 32) hn hb8 t.1 (by omega) (by rw [hb1]; exact f1)
      rw [hb1] at u1
      have c6 := u1.2.1.2.2.2.2
      have m6 := t1'.2.2.2.1.2.2.2.2.1
      rw [E1, bd_s, if_neg (show ¬ (1 : Int32) = 0 by decide), ib_e (D 33) 6 h6 (by decide), ck_t, nI_clamp (by omega), c6, amh_m1 t1' (by omega) f1, bd_s, if_neg (show ¬ (1 : Int32) = 0 by decide), show fn_Mo_readsRule_82 (fun z2 g => fn_Mo_readsRule_42 (nI (5 * D 33)) 999999 z2 g) (nI (5 * D 33)) 1000000 0 (et_si h1 78 (5 * D 33) 0) = _ from r82_n (h := et_si h1 78 (5 * D 33) 0) h6 (c := 0) (by omega) (show (et_si h1 78 (5 * D 33) 0).1 78 (5 * D 33) = nI 0 from si_e) m6 (fun k hk => by omega) 0 1000000 0 rfl (by omega)]
      generalize hy : tkV S n b1 = y at n3 c6 m6
      unfold fn_Mo_readsRule_120
      rw [gd_1 t1', bd_s, if_neg (show ¬ (1 : Int32) = 0 by decide), ib_e (5 * D 33) 30 (by omega) (by decide), ck_t, nI_clamp (by omega), si_e, show nI (5 * D 33) + (1 : Int32) + 0 = nI (5 * D 33 + 1) from by rw [show nI (5 * D 33) + (1 : Int32) = nI (5 * D 33 + 1) from nI_add _ 1]; exact nI_add _ 0, ib_e (5 * D 33 + 1) 30 (by omega) (by decide), ck_t, nI_clamp (by omega), m6]
      show e2 _ (et_bd (et_bd (fn_Mo_steps (et_si (et_si (et_si h1 78 (5 * D 33) 0) 78 (5 * D 33 + 1) (nI y)) 78 (5 * D 33) (((et_si (et_si h1 78 (5 * D 33) 0) 78 (5 * D 33 + 1) (nI y)).1 78 (5 * D 33)) + (1 : Int32)))) _) _) _
      rw [si_j (show 5 * D 33 ≠ 5 * D 33 + 1 by omega), si_e, show (0 : Int32) + (1 : Int32) = nI 1 from rfl]
      obtain ⟨x2, h2, E2, u2, y2⟩ := stp_m hn hb8 (uM_s (k := 78) (j := 5 * D 33) (x := nI 1) (uM_s (k := 78) (j := 5 * D 33 + 1) (x := nI y) t1' rfl) rfl) (by omega) (by omega)
      rw [E2, bd_s]
      refine e2_b (e2_b ?_)
      show e2 (et_bd (fn_Re_step (et_si (et_si g1 25 (D 33) (nI y)) 26 (D 33) 0)) _) _ _
      obtain ⟨x3, g2, E3, u3, y3⟩ := stp_c hn hb8 (kC_s (k := 26) (j := D 33) (x := 0) (kC_s (k := 25) (j := D 33) (x := nI y) u1.1 rfl) rfl)
      rw [E3, bd_s]
      have ea1 := (tkE_b (S := S) u1.2.2).1
      have eb1 := bk_b S u1.1.2.2.2.2.1
      have Y : yR D g h (D 33) 0 (fun _ => y) g2 h2 := by
        refine yR_s y3 y2 ⟨fq_s (fq_s (wS_l y1) (xr_w (by decide))) (xr_w (by decide)), fq_s (fq_s (fq_s (mS_l w1) (xs_w (by omega) (by omega))) (xs_w (by omega) (by omega))) (xs_w (by omega) (by omega)), si_e, fun k hk => ?_, ?_, fun t => ?_⟩
        · have : k = 0 := by omega
          subst this
          exact ⟨by rw [si_j (by omega)]; exact si_e, n3⟩
        · rw [si_x (by decide), si_e]
        · rw [si_e, bt_0]
          exact ⟨fun z => (by cases z), fun ⟨k, z1, z2, z3⟩ => by omega⟩
      have k5 := tkK_4 (S := S) n (bk S n (tkE S n b1))
      unfold fn_Mo_readsRule_160
      rw [gd_1 u2, bd_s, if_neg (show ¬ (1 : Int32) = 0 by decide), u2.2.2.2.1.2.1, ib_e (5 * D 33) 30 (by omega) (by decide), ck_t, nI_clamp (by omega), Y.2.2.1, if_neg (show ¬ (2 : Int32) ≤ nI (0 + 1) by decide)]
      rw [show (if nI (tkK S n (bk S n (tkE S n b1))) = (2 : Int32) then (fun z2 g => fn_Mo_readsRule_42 (nI (5 * D 33)) 999999 z2 g) 1 h2 else (fun z2 g => fn_Mo_readsRule_42 (nI (5 * D 33)) 999999 z2 g) 1 h2) = fn_Mo_readsRule_42 (nI (5 * D 33)) 999999 1 h2 from by split <;> rfl]
      exact rul hn hb8 V rfl h6 3 1000000 999999 0 _ _ g2 h2 1 rfl (by omega) (by omega) (by omega) u3 u2 Y (Or.inl ⟨rfl, Or.inl rfl⟩)
    · obtain ⟨x1, g1, E1, rfl, c⟩ := on_c0 (m := D 32) hn hb8 t.1 (by omega) (by rw [hb1]; exact f1)
      obtain ⟨x2, h2, E2, rfl, c', -⟩ := amh_m0 (m := D 32) hn t1' f1
      rw [hb1] at c
      rw [E1, bd_s, if_pos rfl, E2, bd_s, if_pos rfl, r120_0 c' (by omega), bd_s, l47_0 c']
      exact e2_q (lq_f c c')
end LG
