/-! the rounds' bound; what the model has reckoned in the end -/
section BN
variable {S : et_T} {X Y : Nat → Prop}
theorem a_bnd (hw : wf_town S) (hn : S 61 50 ≤ 20) {s : Nat} (h : a_HH S X Y s) : a_H S X Y 181 s := by
  have key : ∀ r, r ≤ cnt (a_nd S X Y r) 180 ∨ ∃ q, q < r ∧ ∀ s, a_HH S X Y s → a_H S X Y q s := by
    intro r
    induction r with
    | zero => exact Or.inl (Nat.zero_le _)
    | succ r ih =>
      rcases ih with ih | ⟨q, q1, q2⟩
      · by_cases z : (∃ i, a_nw S X Y r i) ∨ ∃ i, a_wm S X Y r i
        · have := nd_up hw hn z
          exact Or.inl (by omega)
        · exact Or.inr ⟨r, by omega, a_stb (fun i hi => z (Or.inl ⟨i, hi⟩)) (fun i hi => z (Or.inr ⟨i, hi⟩)) hw⟩
      · exact Or.inr ⟨q, by omega, q2⟩
  rcases key 181 with k | ⟨q, q1, q2⟩
  · have := cnt_le (a_nd S X Y 181) 180
    omega
  · exact a_Hm (by omega) (q2 s h)
theorem a_lev_ex (hw : wf_town S) (hn : S 61 50 ≤ 20) {s : Nat} (h : a_HH S X Y s) : ∃ c, c ≤ 181 ∧ 1 ≤ c ∧ a_lev S X Y s c := by
  obtain ⟨c, c1, c2⟩ := pk_least (fun r => a_H S X Y r s) h
  have l : a_lev S X Y s c := ⟨c1, fun r hr => c2 r hr⟩
  refine ⟨c, ?_, a_lev_1 l, l⟩
  rcases Nat.lt_or_ge 181 c with z | z
  · exact absurd (a_bnd hw hn h) (c2 181 z)
  · exact z
theorem a_cl_8 (hw : wf_town S) {T : Nat → Prop} {p h t : Nat} (k : a_CL S T p h t) : a_cl S T p h 9 t := by
  have h5 : S 61 5 ≤ 8 := hw.2.2.2.2.2.1
  have h8 : ∀ r t, a_cl S T p h r t → t < 8 := fun r t k => by
    cases r with
    | zero => exact k.elim
    | succ r => have := k.1; omega
  have key : ∀ r, r ≤ cnt (a_cl S T p h r) 8 ∨ ∃ q, q < r ∧ ∀ t, a_cl S T p h (q + 1) t → a_cl S T p h q t := by
    intro r
    induction r with
    | zero => exact Or.inl (Nat.zero_le _)
    | succ r ih =>
      rcases ih with ih | ⟨q, q1, q2⟩
      · by_cases z : ∀ t, a_cl S T p h (r + 1) t → a_cl S T p h r t
        · exact Or.inr ⟨r, by omega, z⟩
        · obtain ⟨t, ht⟩ := Classical.not_forall.mp z
          obtain ⟨t1, t2⟩ := Classical.not_imp.mp ht
          have := cnt_lt (P := a_cl S T p h r) (Q := a_cl S T p h (r + 1)) 8 (fun j _ => a_cl_s r j) ⟨t, h8 _ _ t1, t1, t2⟩
          exact Or.inl (by omega)
      · exact Or.inr ⟨q, by omega, q2⟩
  rcases key 9 with z | ⟨q, q1, q2⟩
  · have := cnt_le (a_cl S T p h 9) 8
    omega
  · exact a_cl_m (by omega) (a_CL_le (D := a_cl S T p h q) (fun t z => q2 t z) k)
theorem a_bndC (hw : wf_town S) (hn : S 61 50 ≤ 20) {p h t : Nat} (k : a_CL S (a_TT S X Y) p h t) : a_C S X Y 190 p h t := by
  have key : ∀ r t, a_cl S (a_TT S X Y) p h r t → a_C S X Y (181 + r) p h t := by
    intro r
    induction r with
    | zero => intro t z; exact z.elim
    | succ r ih =>
      intro t z
      rw [show 181 + (r + 1) = (181 + r) + 1 from by omega, a_Cs]
      exact a_cs_m (fun i hi => ⟨a_Hm (by omega) (a_bnd hw hn hi.1), hi.2⟩) ih z
  exact key 9 t (a_cl_8 hw k)
end BN
section TK
variable {S : et_T} {X Y : Nat → Prop} {np : Nat} {P H O : Nat → Nat} {g0 : et_G}
theorem rg_o {g : et_G} {k j : Nat} {x : Int32} (h : k ≠ 86) : rg (et_si g k j x) = rg g := funext fun s => by unfold rg; rw [si_x (Ne.symm h)]
theorem kg_o {g : et_G} {k j : Nat} {x : Int32} (h : k ≠ 91) : kg (et_si g k j x) = kg g := funext fun s => by unfold kg; rw [si_x (Ne.symm h)]
theorem mJ_87 {g : et_G} (j : Nat) (x : Int32) (J : mJ S X Y np P H g0 g) : mJ S X Y np P H g0 (et_si g 87 j x) := by
  obtain ⟨f, hX, hY, hR, hK⟩ := J
  refine ⟨fq_s f rfl, by rw [si_x (by decide)]; exact hX, by rw [si_x (by decide)]; exact hY, fun s hs => ?_, fun j hj => ?_⟩
  · rw [rg_o (by decide), si_x (by decide)]; exact hR s hs
  · rw [kg_o (by decide), si_x (by decide)]; exact hK j hj
theorem mF_o {g : et_G} {k j : Nat} {x : Int32} (h : k ≠ 86) (h' : k ≠ 91) (F : mF S X Y np P H g) : mF S X Y np P H (et_si g k j x) := by
  unfold mF
  rw [rg_o h, kg_o h']
  exact F
theorem aT_m {g : et_G} (F : mF S X Y np P H g) {r : Nat} : ∀ s, a_T S X Y r s → m_T S X Y (rg g) r s := fun s z => by
  have h := z.1
  cases r with
  | zero => exact h.elim
  | succ r => exact ⟨h.1, h.2.1, F.1 s _ h, z.2⟩
theorem aC_m {g : et_G} (F : mF S X Y np P H g) {k r : Nat} (hk : k < np) : ∀ u, a_C S X Y r (P k) (H k) u → m_C S (kg g) k r u := fun u z => ⟨a_C_t z, F.2 k r u hk z⟩
def mTk (S : et_T) (X Y : Nat → Prop) (n : Nat) (g : et_G) : Prop := ∀ s, s < n → (¬ Y s → g.1 87 s = nI (S 84 (5 * s + 3))) ∧ (Y s → X s → (a_HH S X Y s → ∃ c w, a_lev S X Y s c ∧ a_fw S X Y s c w ∧ g.1 87 s = nI w) ∧ (¬ a_HH S X Y s → g.1 87 s = nI 4))
theorem rk_307 (B : mB S g0) (A : mA S np P H O g0) {g : et_G} (J : mJ S X Y np P H g0 g) (F : mF S X Y np P H g) : ev_Q (fn_Mo_reckons_307 (mI Y) 1000000 0 g) (fun _ g' => mJ S X Y np P H g0 g' ∧ mF S X Y np P H g' ∧ mTk S X Y (S 61 50) g') := by
  have c := mB_c B
  have hnp := A.2.1
  have hw := B.2.1
  refine lp0 (fun m i (s : et_G) => fn_Mo_reckons_307 (mI Y) m i s) (fun o => ev_Q o (fun _ g' => mJ S X Y np P H g0 g' ∧ mF S X Y np P H g' ∧ mTk S X Y (S 61 50) g')) (S 61 50) (by omega) (fun k s => mJ S X Y np P H g0 s ∧ mF S X Y np P H s ∧ mTk S X Y k s) g ⟨J, F, fun s hs => by omega⟩ ?_ ?_
  · intro m s ⟨J, F, T⟩
    show ev_Q (fn_Mo_reckons_307 (mI Y) (m + 1) (nI (S 61 50)) s) _
    rw [fn_Mo_reckons_307, show s.1 61 50 = nI (S 61 50) from by rw [J.1.1 61 50 rfl]; exact c.1, if_pos (nI_le (Nat.le_refl _) (by omega))]
    exact ev_r ⟨J, F, T⟩
  · intro m k s hk ⟨J, F, T⟩ ih
    show ev_Q (fn_Mo_reckons_307 (mI Y) (m + 1) (nI k) s) _
    obtain ⟨E0, -⟩ := mJ_E B A J
    obtain ⟨w1, w2, w3, w4, w5⟩ := mB_s B hk
    rw [fn_Mo_reckons_307, show s.1 61 50 = nI (S 61 50) from by rw [J.1.1 61 50 rfl]; exact c.1, if_neg (nI_ge hk (by omega))]
    simp (disch := omega) only [ni_of, nI_clamp, ib_e, ck_t, bd_s, et_b, nI_add, if_p, ni_eq, ni_lt, ni_le, b_e0, b_e1, io_n, of_m E0.1, mb_m]
    have T' : ∀ f : et_G, (∀ i, i ≠ k → f.1 87 i = s.1 87 i) → ((¬ Y k → f.1 87 k = nI (S 84 (5 * k + 3))) ∧ (Y k → X k → (a_HH S X Y k → ∃ c w, a_lev S X Y k c ∧ a_fw S X Y k c w ∧ f.1 87 k = nI w) ∧ (¬ a_HH S X Y k → f.1 87 k = nI 4))) → mTk S X Y (k + 1) f := by
      intro f h1 h2 i hi
      by_cases e : i = k
      · subst e; exact h2
      · rw [h1 i e]; exact T i (by omega)
    by_cases hy : Y k
    · rw [io_t hy]
      have J1 : mJ S X Y np P H g0 (et_si (et_si (et_si s 87 k (nI (S 84 (5 * k + 3)))) 87 k (nI 4)) 61 62 (nI 4)) := mJ_62 _ (mJ_87 _ _ (mJ_87 _ _ J))
      have F1 : mF S X Y np P H (et_si (et_si (et_si s 87 k (nI (S 84 (5 * k + 3)))) 87 k (nI 4)) 61 62 (nI 4)) := mF_o (by decide) (by decide) (mF_o (by decide) (by decide) (mF_o (by decide) (by decide) F))
      have d87 : ∀ i, i ≠ k → (et_si (et_si (et_si s 87 k (nI (S 84 (5 * k + 3)))) 87 k (nI 4)) 61 62 (nI 4)).1 87 i = s.1 87 i := fun i hi => by rw [si_x (by decide), si_j hi, si_j hi]
      have k87 : (et_si (et_si (et_si s 87 k (nI (S 84 (5 * k + 3)))) 87 k (nI 4)) 61 62 (nI 4)).1 87 k = nI 4 := by rw [si_x (by decide), si_e]
      have k62 : (et_si (et_si (et_si s 87 k (nI (S 84 (5 * k + 3)))) 87 k (nI 4)) 61 62 (nI 4)).1 61 62 = nI 4 := si_e
      generalize et_si (et_si (et_si s 87 k (nI (S 84 (5 * k + 3)))) 87 k (nI 4)) 61 62 (nI 4) = s1 at J1 F1 d87 k87 k62 ⊢
      obtain ⟨E, A'⟩ := mJ_E B A J1
      obtain ⟨o1, o2, o3, o4⟩ := A'.2.2.2 k hk
      obtain ⟨p1, p2, p3, p4⟩ := A'.2.2.1 (O k) o2
      obtain ⟨v, f, f1, f2, v1, v2, v3, v4⟩ := le_m E o2 p1 p2 p3 p4 w3 w5
      have Jf : mJ S X Y np P H g0 f := lf_62 f1 J1 (fun x => mJ_62 x J1)
      have Ff : mF S X Y np P H f := lf_62 f1 F1 (fun x => mF_o (by decide) (by decide) F1)
      have f87 : f.1 87 = s1.1 87 := lf_62 (C := fun f => f.1 87 = s1.1 87) f1 rfl (fun x => funext fun j => si_x (by decide))
      simp (disch := omega) only [ni_of, nI_clamp, ib_e, ck_t, bd_s, et_b, nI_add, if_p, ni_eq, ni_lt, ni_le, b_e0, b_e1, io_n, of_m E.1, o1, f2]
      have up : v < 1000 → X k → a_H S X Y v k := fun hv hx => by
        obtain ⟨w0, w, w1, -, w2, -⟩ := v3 hv
        obtain ⟨n, rfl⟩ : ∃ n, v = n + 1 := ⟨v - 1, by omega⟩
        rw [a_Hs]
        have q := mC_a J1 (by omega) o2 (r := n) (by omega)
        have z := a_sh_m (mT_a J1 (by omega)) q w2
        rw [o3, o4] at z
        exact ⟨hk, hx, fun _ => ⟨w, w1, z⟩, fun z => absurd hy z⟩
      have dn : ∀ n w, w < 4 → a_sh S (a_T S X Y n) (a_C S X Y n (S 84 (5 * k)) (S 84 (5 * k + 1))) (S 84 (5 * k)) (S 84 (5 * k + 1)) (S 84 (5 * k + 2)) (S 84 (5 * k + 4)) w → a_sh S (m_T S X Y (rg s1) n) (m_C S (kg s1) (O k) n) (P (O k)) (H (O k)) (S 84 (5 * k + 2)) (S 84 (5 * k + 4)) w := fun n w _ z => by
        rw [← o3, ← o4] at z
        exact a_sh_m (aT_m F1) (aC_m F1 o2) z
      by_cases h1 : 1000 ≤ v
      · rw [io_t h1]
        refine ih f ⟨Jf, Ff, T' f (fun i hi => by rw [f87]; exact d87 i hi) ⟨fun z => absurd hy z, fun _ hx => ⟨fun hh => ?_, fun _ => by rw [f87]; exact k87⟩⟩⟩
        exfalso
        obtain ⟨cc, c1, c2, c3⟩ := a_lev_ex hw c.2.1 hh
        obtain ⟨n, rfl⟩ : ∃ n, cc = n + 1 := ⟨cc - 1, by omega⟩
        obtain ⟨w, w4, z⟩ := ((a_Hs S X Y n k).mp c3.1).2.2.1 hy
        have := v4 n w w4 (dn n w w4 z)
        omega
      · rw [io_f h1]
        refine ih _ ⟨mJ_87 _ _ Jf, mF_o (by decide) (by decide) Ff, T' _ (fun i hi => by rw [si_j hi, f87]; exact d87 i hi) ⟨fun z => absurd hy z, fun _ hx => ⟨fun hh => ?_, fun hh => absurd ⟨v, up (by omega) hx⟩ hh⟩⟩⟩
        obtain ⟨cc, c1, c2, c3⟩ := a_lev_ex hw c.2.1 hh
        obtain ⟨n, rfl⟩ : ∃ n, cc = n + 1 := ⟨cc - 1, by omega⟩
        obtain ⟨w, w4, z⟩ := ((a_Hs S X Y n k).mp c3.1).2.2.1 hy
        have l1 := v4 n w w4 (dn n w w4 z)
        have l2 : n + 1 ≤ v := by
          rcases Nat.lt_or_ge v (n + 1) with q | q
          · exact absurd (up (by omega) hx) (c3.2 v q)
          · exact q
        have ev : v = n + 1 := by omega
        obtain ⟨u0, u, u1, u2, u3, u4⟩ := v3 (by omega)
        refine ⟨n + 1, u, c3, ⟨u1, ?_, fun y hy2 z2 => ?_⟩, by rw [si_e, u2]⟩
        · have q := mC_a J1 (by omega) o2 (r := v - 1) (by omega)
          have z := a_sh_m (mT_a J1 (by omega)) q u3
          rw [o3, o4, ev] at z
          exact z
        · refine u4 y hy2 ?_
          rw [ev]
          exact dn n y (by omega) z2
    · rw [io_f hy]
      refine ih _ ⟨mJ_87 _ _ J, mF_o (by decide) (by decide) F, T' _ (fun i hi => si_j hi) ⟨fun _ => si_e, fun z => absurd z hy⟩⟩
theorem rk_c (B : mB S g0) (A : mA S np P H O g0) (X Y : Nat → Prop) : ev_Q (fn_Mo_reckons (mI X) (mI Y) g0) (fun _ g' => mJ S X Y np P H g0 g' ∧ mF S X Y np P H g' ∧ mTk S X Y (S 61 50) g') :=
  rk_s B A (fun o => ev_Q o _) (fun _ J F => rk_307 B A J F)
/-- which hold, by what is reckoned -/
theorem rg_f (B : mB S g0) {g : et_G} (J : mJ S X Y np P H g0 g) (F : mF S X Y np P H g) {s : Nat} (hs : s < S 61 50) : (rg g s < 1000 ↔ a_HH S X Y s) ∧ ∀ c, a_lev S X Y s c → rg g s = c := by
  have c := mB_c B
  have hw := B.2.1
  obtain ⟨-, j2, j3⟩ := J.2.2.2.1 s hs
  have e1 : a_HH S X Y s → rg g s ≤ 181 := fun h => F.1 s 181 (a_bnd hw c.2.1 h)
  refine ⟨⟨fun h => ⟨_, j3 h⟩, fun h => by have := e1 h; omega⟩, fun cc hc => ?_⟩
  have := e1 ⟨cc, hc.1⟩
  exact a_lev_u (X := X) (Y := Y) (s := s) ⟨j3 (by omega), fun r hr z => by have := F.1 s r z; omega⟩ hc
theorem kg_f (B : mB S g0) {g : et_G} (J : mJ S X Y np P H g0 g) (F : mF S X Y np P H g) {k t : Nat} (hk : k < np) (ht : t < S 61 5) : kg g (8 * k + t) < 1000 ↔ a_CL S (a_TT S X Y) (P k) (H k) t := by
  have c := mB_c B
  have hw := B.2.1
  have j3 := (J.2.2.2.2 (8 * k + t) (by omega)).2.2
  rw [show (8 * k + t) / 8 = k from by omega, show (8 * k + t) % 8 = t from by omega] at j3
  exact ⟨fun h => (a_C_CL hw).mp ⟨_, j3 h ht⟩, fun h => by have := F.2 k 190 t hk (a_bndC hw c.2.1 h); omega⟩
/-- an ending asked for in the end -/
theorem bh_f (B : mB S g0) {g : et_G} (J : mJ S X Y np P H g0 g) (F : mF S X Y np P H g) {k t nt w v : Nat} (hk : k < np) (V : vb S X Y (rg g) (kg g) k (P k) (H k) t nt w v) : v < 1000 ↔ a_sh S (a_TT S X Y) (a_CL S (a_TT S X Y) (P k) (H k)) (P k) (H k) t nt w := by
  have c := mB_c B
  have hw := B.2.1
  obtain ⟨v1, v2, v3⟩ := V
  constructor
  · intro h
    obtain ⟨a, b⟩ := v2 h
    exact a_sh_m (fun s z => ⟨⟨_, (mT_a J (by omega) s z).1⟩, z.2.2.2⟩) (fun u z => (a_C_CL hw).mp ⟨_, mC_a J (by omega) hk (by omega) u z⟩) b
  · intro h
    have := v3 500 (a_sh_m (fun s z => aT_m F s ⟨a_Hm (by omega) (a_bnd hw c.2.1 z.1), z.2⟩) (fun u z => aC_m F hk u (a_Cm (by omega) (a_bndC hw c.2.1 z))) h)
    omega
end TK
