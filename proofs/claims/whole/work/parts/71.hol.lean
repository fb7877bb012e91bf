/-! could, wrong: the model -/
theorem or_n0 (x : Int32) : x ||| nI 0 = x := bt_ext fun i _ => by rw [bt_or, bt_n0, Bool.or_false]
def w_sc (k j : Nat) : Bool := (Nat.ble 85 k && Nat.ble k 93) || (k == 61 && (j == 0 || (Nat.ble 59 j && Nat.ble j 62)))
theorem w_sc_c {k j : Nat} (h : w_sc k j = false) : ¬ (85 ≤ k ∧ k ≤ 93) ∧ ¬ (k = 61 ∧ (j = 0 ∨ (59 ≤ j ∧ j ≤ 62))) := by
  unfold w_sc at h
  simp only [Bool.or_eq_false_iff, Bool.and_eq_false_iff, beq_eq_false_iff_ne] at h
  obtain ⟨h1, h2⟩ := h
  have n1 : ∀ a b, Nat.ble a b = false → ¬ a ≤ b := fun a b z e => by rw [Nat.ble_eq.mpr e] at z; cases z
  constructor
  · intro e
    rcases h1 with h1 | h1
    · exact n1 _ _ h1 e.1
    · exact n1 _ _ h1 e.2
  · intro e
    rcases h2 with h2 | h2
    · exact h2 e.1
    · rcases e.2 with z | z
      · exact h2.1 z
      · rcases h2.2 with q | q
        · exact n1 _ _ q z.1
        · exact n1 _ _ q z.2
theorem w_sc_m : ∀ k j, mq k j = true → w_sc k j = false := by
  intro k j h
  have := mq_c h
  cases e : w_sc k j with
  | false => rfl
  | true =>
    unfold w_sc at e
    simp only [Bool.or_eq_true, Bool.and_eq_true, beq_iff_eq, Nat.ble_eq] at e
    omega
theorem as_sc {g g' : et_G} (h : fq w_as g g') : fq w_sc g g' := fq_w h (fun k j h => by have := w_sc_c h; simp [w_as]; omega)
theorem rk_sc {g g' : et_G} (h : fq w_rk g g') : fq w_sc g g' := fq_w h (fun k j h => by have := w_sc_c h; simp [w_rk]; omega)
theorem mB_sc {S : et_T} {g g' : et_G} (h : fq w_sc g g') (B : mB S g) : mB S g' := ⟨rc_M_q h w_sc_m B.1, B.2⟩
noncomputable def hR (L : Nat → Prop) (s : Nat) : Nat := io (L s) 1 1000
def hT (S : et_T) (L : Nat → Prop) (s : Nat) : Prop := L s ∧ S 84 (5 * s + 3) ≠ 4 ∧ s < S 61 50
def hJ (S : et_T) (L : Nat → Prop) (np : Nat) (P H : Nat → Nat) (g0 g : et_G) : Prop :=
  fq w_rk g0 g ∧ g.1 61 60 = mI L ∧ g.1 61 61 = mI a_no ∧ (∀ s, s < S 61 50 → g.1 86 s = nI (hR L s)) ∧
  ∀ j, j < 8 * np → g.1 91 j = nI (kg g j) ∧ (kg g j = 1 ∨ kg g j = 1000) ∧ (kg g j = 1 → j % 8 < S 61 5 → a_CL S (hT S L) (P (j / 8)) (H (j / 8)) (j % 8))
section HO
variable {S : et_T} {L : Nat → Prop} {np : Nat} {P H O : Nat → Nat} {g0 : et_G}
theorem al_m {g : et_G} (B : mB S g) : fn_Mo_all g = some (mI (a_al S), g) := by
  have c := mB_c B
  unfold fn_Mo_all
  rw [c.1, show (1 : Int32) = nI 1 from rfl, show (31 : Int32) = nI 31 from rfl, mI_all (by omega)]
  rfl
theorem hJ_E (B : mB S g0) (A : mA S np P H O g0) {g : et_G} (J : hJ S L np P H g0 g) : mE S L a_no (hR L) (kg g) np g ∧ mA S np P H O g := by
  obtain ⟨f, hX, hY, h1, h2⟩ := J
  refine ⟨⟨⟨rc_M_q f w_rk_m B.1, B.2⟩, hX, hY, fun s hs => ⟨h1 s hs, ?_⟩, A.2.1, fun j hj => ⟨(h2 j hj).1, ?_⟩⟩, mA_q f A⟩
  · unfold hR
    by_cases e : L s
    · rw [io_t e]; omega
    · rw [io_f e]; omega
  · have := (h2 j hj).2.1; omega
theorem hJ_62 {g : et_G} (x : Int32) (J : hJ S L np P H g0 g) : hJ S L np P H g0 (et_si g 61 62 x) := by
  obtain ⟨f, hX, hY, h1, h2⟩ := J
  refine ⟨fq_s f rfl, by rw [si_j (by decide)]; exact hX, by rw [si_j (by decide)]; exact hY, fun s hs => ?_, fun j hj => ?_⟩
  · rw [si_x (by decide)]; exact h1 s hs
  · rw [kg_62, si_x (by decide)]; exact h2 j hj
theorem hT_1 {r s : Nat} (h : m_T S L a_no (hR L) r s) : hT S L s := ⟨h.2.1, h.2.2.2.resolve_right id, h.1⟩
theorem hT_2 {s : Nat} (h : hT S L s) : m_T S L a_no (hR L) 1 s := ⟨h.2.2, h.1, by unfold hR; rw [io_t h.1]; exact Nat.le_refl _, Or.inl h.2.1⟩
theorem hC_1 {g : et_G} (J : hJ S L np P H g0 g) (h8 : S 61 5 ≤ 8) {k r : Nat} (hk : k < np) (hr : r < 1000) {u : Nat} (h : m_C S (kg g) k r u) : a_CL S (hT S L) (P k) (H k) u := by
  have hu := h.1
  obtain ⟨-, a, b⟩ := J.2.2.2.2 (8 * k + u) (by omega)
  have := h.2
  rw [show (8 * k + u) / 8 = k from by omega, show (8 * k + u) % 8 = u from by omega] at b
  exact b (by omega) hu
/-- nothing is left to do at a place -/
def hc (S : et_T) (L : Nat → Prop) (P H : Nat → Nat) (g : et_G) (j : Nat) : Prop := j % 8 < S 61 5 → kg g j = 1 ∨ ∀ w, w < 4 → ¬ a_sh S (hT S L) (fun u => u < S 61 5 ∧ kg g (8 * (j / 8) + u) = 1) (P (j / 8)) (H (j / 8)) (j % 8) 0 w
theorem hc_62 {g : et_G} (x : Int32) {j : Nat} (h : hc S L P H g j) : hc S L P H (et_si g 61 62 x) j := by unfold hc; rw [kg_62]; exact h
def h_w (np M : Nat) (C : et_G → Prop) (x : Int32) (g : et_G) : Prop := (x = nI 1 ∧ sm (kg g) (8 * np) < M) ∨ (x = nI 0 ∧ sm (kg g) (8 * np) ≤ M ∧ C g)
theorem ho_86 (B : mB S g0) (A : mA S np P H O g0) {M : Nat} (r78 : Int32 → et_G → Option (Int32 × et_G)) (Q : Option (Int32 × et_G) → Prop)
    (kk : ∀ x g, hJ S L np P H g0 g → h_w np M (fun g => ∀ j, j < 8 * np → hc S L P H g j) x g → Q (r78 x g))
    (g : et_G) (J : hJ S L np P H g0 g) (hM : sm (kg g) (8 * np) ≤ M) : Q (fn_Mo_holding_86 r78 (mI L) 1000000 0 0 g) := by
  have c := mB_c B
  have hnp := A.2.1
  refine lp0 (fun m i (q : Int32 × et_G) => fn_Mo_holding_86 r78 (mI L) m q.1 i q.2) Q (8 * np) (by omega) (fun k q => hJ S L np P H g0 q.2 ∧ h_w np M (fun g => ∀ j, j < k → hc S L P H g j) q.1 q.2) (0, g) ⟨J, Or.inr ⟨rfl, hM, fun j hj => by omega⟩⟩ ?_ ?_
  · intro m q ⟨J, W⟩
    show Q (fn_Mo_holding_86 r78 (mI L) (m + 1) q.1 (nI (8 * np)) q.2)
    rw [fn_Mo_holding_86, (mA_q J.1 A).1]
    simp (disch := omega) only [ni_of, pk_mul, ni_le, Nat.le_refl, if_true]
    exact kk q.1 q.2 J W
  · intro m j q hj ⟨J, W⟩ ih
    show Q (fn_Mo_holding_86 r78 (mI L) (m + 1) q.1 (nI j) q.2)
    obtain ⟨E, A'⟩ := hJ_E B A J
    obtain ⟨p1, p2, p3, p4⟩ := A'.2.2.1 (j / 8) (by omega)
    obtain ⟨b1, b2, b3⟩ := J.2.2.2.2 j hj
    have e5 : q.2.1 61 5 = nI (S 61 5) := by rw [J.1.1 61 5 rfl]; exact c.2.2.1
    have add : ∀ f, (f = q.2 ∨ ∃ x, f = et_si q.2 61 62 x) → hc S L P H q.2 j → Q (fn_Mo_holding_86 r78 (mI L) m q.1 (nI (j + 1)) f) := by
      intro f f1 h
      refine ih (q.1, f) ⟨lf_62 f1 J (fun x => hJ_62 x J), ?_⟩
      have hkf : kg f = kg q.2 := lf_62 (C := fun f => kg f = kg q.2) f1 rfl (fun x => kg_62 _ x)
      rcases W with W | W
      · refine Or.inl ⟨W.1, ?_⟩
        show sm (kg f) (8 * np) < M
        rw [hkf]; exact W.2
      · refine Or.inr ⟨W.1, ?_, fun i hi => ?_⟩
        · show sm (kg f) (8 * np) ≤ M
          rw [hkf]; exact W.2.1
        · have hc' : hc S L P H q.2 i := by
            by_cases e : i = j
            · subst e; exact h
            · exact W.2.2 i (by omega)
          exact lf_62 (C := fun f => hc S L P H f i) f1 hc' (fun x => hc_62 x hc')
    rw [fn_Mo_holding_86, (mA_q J.1 A).1]
    simp (disch := omega) only [ni_of, nI_clamp, ib_e, ck_t, bd_s, et_b, nI_add, if_p, ni_eq, ni_lt, ni_le, b_e0, b_e1, io_n, pk_mul, b1, e5, pk_div, show nI j - nI (j / 8) * nI 8 = nI (j % 8) from by rw [pk_mul, pk_sub (by omega)]; congr 1; omega]
    rw [show nI j - nI (j / 8 * 8) = nI (j % 8) from by rw [pk_sub (by omega)]; congr 1; omega]
    rw [io_f (by omega)]
    by_cases h1 : kg q.2 j < 1000
    · rw [io_t h1]; exact add _ (Or.inl rfl) (fun _ => Or.inl (by omega))
    · rw [io_f h1]
      simp (disch := omega) only [ni_le, if_p]
      by_cases h2 : S 61 5 ≤ j % 8
      · rw [io_t h2]; exact add _ (Or.inl rfl) (fun z => by omega)
      · rw [io_f h2]
        obtain ⟨v, f, f1, f2, v1, v2, v3, v4⟩ := le_m E (show j / 8 < np by omega) p1 p2 p3 p4 (show j % 8 < S 61 5 by omega) (show 0 ≤ 1 by omega)
        simp (disch := omega) only [ni_of, nI_clamp, ib_e, ck_t, bd_s, et_b, nI_add, if_p, ni_eq, ni_lt, ni_le, b_e0, b_e1, io_n, f2]
        by_cases h3 : v < 1000
        · rw [io_t h3]
          have Jf : hJ S L np P H g0 f := lf_62 f1 J (fun x => hJ_62 x J)
          have hkf : kg f = kg q.2 := lf_62 (C := fun f => kg f = kg q.2) f1 rfl (fun x => kg_62 _ x)
          have k91 : ∀ i, kg (et_si f 91 j (nI 1)) i = if i = j then 1 else kg q.2 i := fun i => by rw [kg_91 (by decide), hkf]
          refine ih (nI 1, et_si f 91 j (nI 1)) ⟨⟨fq_s Jf.1 rfl, by rw [si_x (by decide)]; exact Jf.2.1, by rw [si_x (by decide)]; exact Jf.2.2.1, fun s hs => by rw [si_x (by decide)]; exact Jf.2.2.2.1 s hs, fun i hi => ?_⟩, Or.inl ⟨rfl, ?_⟩⟩
          · rw [k91]
            by_cases e : i = j
            · rw [if_pos e, e, si_e]
              refine ⟨rfl, Or.inl rfl, fun _ ht => ?_⟩
              obtain ⟨w0, w, w1, -, w2, -⟩ := v3 h3
              refine a_CL_cl B.2.1 ⟨ht, w, w1, a_sh_m (fun s z => hT_1 z) (fun u z => hC_1 J (by omega) (by omega) (by omega) z) w2⟩
            · rw [if_neg e, si_j e, ← hkf]; exact Jf.2.2.2.2 i hi
          · show sm (kg (et_si f 91 j (nI 1))) (8 * np) < M
            have : sm (kg (et_si f 91 j (nI 1))) (8 * np) < sm (kg q.2) (8 * np) := by
              refine sm_lt _ (fun i hi => ?_) ⟨j, hj, ?_⟩
              · rw [k91]
                by_cases e : i = j
                · rw [if_pos e, e]; omega
                · rw [if_neg e]; exact Nat.le_refl _
              · rw [k91, if_pos rfl]; omega
            rcases W with W | W
            · omega
            · omega
        · rw [io_f h3]
          refine add f f1 (fun _ => Or.inr fun w hw z => ?_)
          have := v4 1 w hw (a_sh_m (fun s z => hT_2 z) (fun u z => ⟨z.1, by omega⟩) z)
          omega
def hF (S : et_T) (L : Nat → Prop) (np : Nat) (P H : Nat → Nat) (g : et_G) : Prop := ∀ k t, k < np → a_CL S (hT S L) (P k) (H k) t → kg g (8 * k + t) = 1
theorem hF_of {g : et_G} (h8 : S 61 5 ≤ 8) (h : ∀ j, j < 8 * np → hc S L P H g j) : hF S L np P H g := by
  intro k t hk hcl
  have q : t < S 61 5 ∧ kg g (8 * k + t) = 1 := by
    refine a_CL_le (D := fun t => t < S 61 5 ∧ kg g (8 * k + t) = 1) (fun t z => ⟨z.1, ?_⟩) hcl
    obtain ⟨ht, w, hw, hz⟩ := z
    have q := h (8 * k + t) (by omega)
    unfold hc at q
    rw [show (8 * k + t) / 8 = k from by omega, show (8 * k + t) % 8 = t from by omega] at q
    rcases q ht with q | q
    · exact q
    · exact absurd hz (q w hw)
  exact q.2
theorem ho_165 (B : mB S g0) (A : mA S np P H O g0) {g : et_G} (J : hJ S L np P H g0 g) (F : hF S L np P H g) : fn_Mo_holding_165 (mI L) 1000000 0 0 g = some (mI (a_rs S L), g) := by
  have c := mB_c B
  obtain ⟨E, A'⟩ := hJ_E B A J
  have hnp := A'.2.1
  have := sc_m (F := fn_Mo_holding_165 (mI L)) (g := g) (N := S 61 50) (P := fun i => L i ∧ a_sd S (hT S L) i) (by omega) (fun m x => by
    rw [fn_Mo_holding_165, (mB_c E.1).1, if_pos (nI_le (Nat.le_refl _) (by omega))]) (fun m x k hk => by
    obtain ⟨o1, o2, o3, o4⟩ := A'.2.2.2 k hk
    obtain ⟨p1, p2, p3, p4⟩ := A'.2.2.1 (O k) o2
    obtain ⟨w1, w2, w3, w4, w5⟩ := mB_s B hk
    obtain ⟨v, v0, v1, v2, v3⟩ := bh_m E o2 p1 p2 p3 p4 w3 w5 w4
    rw [fn_Mo_holding_165, (mB_c E.1).1, if_neg (nI_ge hk (by omega))]
    simp (disch := omega) only [ni_of, nI_clamp, ib_e, ck_t, bd_s, et_b, nI_add, if_p, ni_eq, ni_lt, ni_le, b_e0, b_e1, io_n, mb_m, of_m E.1, o1, v0]
    by_cases hl : L k
    · rw [io_t hl]
      have key : 1000 ≤ v ↔ ¬ (L k ∧ a_sd S (hT S L) k) := by
        constructor
        · intro hv z
          have z2 := z.2
          unfold a_sd at z2
          rw [← o3, ← o4] at z2
          have := v3 1 (a_sh_m (fun s z => hT_2 z) (fun u z => ⟨by obtain ⟨r, z⟩ := z; cases r with
            | zero => exact z.elim
            | succ r => exact z.1, by rw [F (O k) u o2 z]; exact Nat.le_refl _⟩) z2)
          omega
        · intro n
          rcases Nat.lt_or_ge v 1000 with z | z
          · refine absurd ⟨hl, ?_⟩ n
            unfold a_sd
            obtain ⟨-, q⟩ := v2 z
            have := a_sh_m (fun s z => hT_1 z) (fun u z => hC_1 J (by omega) o2 (by omega) z) q
            rw [o3, o4] at this
            exact this
          · exact z
      by_cases h1 : 1000 ≤ v
      · rw [io_t h1, io_f (key.mp h1)]
      · rw [io_f h1, io_t (Classical.byContradiction fun n => h1 (key.mpr n))]
    · rw [io_f hl, io_f (fun z => hl z.1)])
  rw [this]
  rfl
theorem ho_78 (B : mB S g0) (A : mA S np P H O g0) : ∀ n g, hJ S L np P H g0 g → sm (kg g) (8 * np) + 1 < n → ev_Q (fn_Mo_holding_78 (mI L) n 1 g) (fun v g' => v = mI (a_rs S L) ∧ fq w_rk g0 g') := by
  have c := mB_c B
  intro n
  induction n with
  | zero => intro g _ h; omega
  | succ n ih =>
    intro g J hn
    rw [fn_Mo_holding_78, if_neg (by decide)]
    refine ho_86 B A (M := sm (kg g) (8 * np)) _ (fun o => ev_Q o _) (fun x g2 J2 W2 => ?_) g J (Nat.le_refl _)
    rcases W2 with ⟨a, b⟩ | ⟨a, b, d⟩
    · rw [a]
      exact ih g2 J2 (by omega)
    · rw [a]
      show ev_Q (fn_Mo_holding_78 (mI L) n (nI 0) g2) _
      obtain ⟨n, rfl⟩ : ∃ m, n = m + 1 := ⟨n - 1, by omega⟩
      rw [fn_Mo_holding_78, if_pos nI_0, ho_165 B A J2 (hF_of (by omega) d)]
      exact ev_r ⟨rfl, J2.1⟩
theorem ho_c (B : mB S g0) (A : mA S np P H O g0) (L : Nat → Prop) : ev_Q (fn_Mo_holding (mI L) g0) (fun v g' => v = mI (a_rs S L) ∧ fq w_rk g0 g') := by
  have c := mB_c B
  have hnp := A.2.1
  unfold fn_Mo_holding
  simp only [et_b]
  refine lp0 (fun m i (s : et_G) => fn_Mo_holding_12 (mI L) m i s) (fun o => ev_Q o (fun v g' => v = mI (a_rs S L) ∧ fq w_rk g0 g')) (S 61 50) (by omega) (fun k s => fq w_rk g0 s ∧ s.1 61 60 = mI L ∧ s.1 61 61 = mI a_no ∧ ∀ i, i < k → s.1 86 i = nI (hR L i)) _ ⟨fq_s (fq_s (fq_r _ _) rfl) rfl, by rw [si_j (by decide), si_e], by rw [si_e]; exact mI_0, fun i hi => by omega⟩ ?_ ?_
  · intro m s ⟨f, h1, h2, h3⟩
    show ev_Q (fn_Mo_holding_12 (mI L) (m + 1) (nI (S 61 50)) s) _
    rw [fn_Mo_holding_12, show s.1 61 50 = nI (S 61 50) from by rw [f.1 61 50 rfl]; exact c.1, if_pos (nI_le (Nat.le_refl _) (by omega))]
    refine lp0 (fun m i (s : et_G) => fn_Mo_holding_50 (mI L) m i s) (fun o => ev_Q o (fun v g' => v = mI (a_rs S L) ∧ fq w_rk g0 g')) (8 * np) (by omega) (fun k s => fq w_rk g0 s ∧ s.1 61 60 = mI L ∧ s.1 61 61 = mI a_no ∧ (∀ i, i < S 61 50 → s.1 86 i = nI (hR L i)) ∧ ∀ i, i < k → s.1 91 i = nI 1000) s ⟨f, h1, h2, h3, fun i hi => by omega⟩ ?_ ?_
    · intro m s ⟨f, h1, h2, h3, h4⟩
      show ev_Q (fn_Mo_holding_50 (mI L) (m + 1) (nI (8 * np)) s) _
      rw [fn_Mo_holding_50, (mA_q f A).1]
      simp (disch := omega) only [ni_of, pk_mul, ni_le, Nat.le_refl, if_true]
      have k0 : ∀ j, j < 8 * np → kg s j = 1000 := fun j hj => by unfold kg; rw [h4 j hj, nI_clamp (by decide)]
      have J : hJ S L np P H g0 s := ⟨f, h1, h2, h3, fun j hj => ⟨by rw [k0 j hj]; exact h4 j hj, Or.inr (k0 j hj), fun z => by rw [k0 j hj] at z; omega⟩⟩
      have := sm_kk (f := kg s) (c := 1000) (8 * np) (fun i hi => by rw [k0 i hi]; exact Nat.le_refl _)
      exact ho_78 B A 1000000 s J (by omega)
    · intro m k s hk ⟨f, h1, h2, h3, h4⟩ ih
      show ev_Q (fn_Mo_holding_50 (mI L) (m + 1) (nI k) s) _
      rw [fn_Mo_holding_50, (mA_q f A).1]
      simp (disch := omega) only [ni_of, nI_clamp, ib_e, ck_t, bd_s, et_b, nI_add, if_p, ni_eq, ni_lt, ni_le, b_e0, b_e1, io_n, pk_mul]
      rw [io_f (by omega)]
      refine ih _ ⟨fq_s f rfl, by rw [si_x (by decide)]; exact h1, by rw [si_x (by decide)]; exact h2, fun i hi => by rw [si_x (by decide)]; exact h3 i hi, fun i hi => ?_⟩
      by_cases e : i = k
      · rw [e, si_e]
      · rw [si_j e]; exact h4 i (by omega)
  · intro m k s hk ⟨f, h1, h2, h3⟩ ih
    show ev_Q (fn_Mo_holding_12 (mI L) (m + 1) (nI k) s) _
    rw [fn_Mo_holding_12, show s.1 61 50 = nI (S 61 50) from by rw [f.1 61 50 rfl]; exact c.1, if_neg (nI_ge hk (by omega))]
    simp (disch := omega) only [ni_of, nI_clamp, ib_e, ck_t, bd_s, et_b, nI_add, if_p, ni_eq, ni_lt, ni_le, b_e0, b_e1, io_n, mb_m]
    have go : ∀ x, x = nI (hR L k) → ev_Q (fn_Mo_holding_12 (mI L) m (nI (k + 1)) (et_si s 86 k x)) (fun v g' => v = mI (a_rs S L) ∧ fq w_rk g0 g') := by
      intro x hx
      refine ih _ ⟨fq_s f rfl, by rw [si_x (by decide)]; exact h1, by rw [si_x (by decide)]; exact h2, fun i hi => ?_⟩
      by_cases e : i = k
      · rw [e, si_e, hx]
      · rw [si_j e]; exact h3 i (by omega)
    by_cases hl : L k
    · rw [io_t hl]; exact go _ (by unfold hR; rw [io_t hl])
    · rw [io_f hl]; exact go _ (by unfold hR; rw [io_f hl])
theorem wr_109 (B : mB S g0) (A : mA S np P H O g0) (Z : Nat → Prop) : ∀ d n r g, r + d = 21 → d < n → fq w_rk g0 g → ev_Q (fn_Mo_wrong_109 (mI Z) n (mI (a_rr S r)) (mI (a_rr S (r + 1))) g) (fun v g' => v = mI (fun i => a_RG S i ∧ ¬ Z i) ∧ fq w_rk g0 g') := by
  have c := mB_c B
  have al : ∀ k s, a_rr S k s → s < S 61 50 := fun k s z => a_rr_m (r := 0) (q := k) (i := s) (by rw [Nat.zero_add]; exact z)
  have fin : ∀ r n g, mI (a_rr S (r + 1)) = mI (a_rr S r) → fq w_rk g0 g → ev_Q (fn_Mo_wrong_109 (mI Z) (n + 1) (mI (a_rr S r)) (mI (a_rr S (r + 1))) g) (fun v g' => v = mI (fun i => a_RG S i ∧ ¬ Z i) ∧ fq w_rk g0 g') := by
    intro r n g e f
    rw [fn_Mo_wrong_109, if_pos e]
    unfold fn_Mo_wrong_128
    rw [show (-1 : Int32) = -nI 1 from rfl, mI_not, mI_and]
    refine ev_r ⟨mI_c fun i _ => ?_, f⟩
    rw [a_RG_st (fun i hi => (mI_i.mp e i (by have := al _ _ hi; omega)).mpr hi)]
  intro d
  induction d with
  | zero =>
    intro n r g hr hn f
    obtain ⟨n, rfl⟩ : ∃ m, n = m + 1 := ⟨n - 1, by omega⟩
    rw [Nat.add_zero] at hr
    subst hr
    refine fin 21 n g (mI_c fun i _ => ?_) f
    exact ⟨fun z => a_rr_s 21 i z, fun z => ((a_RG_21 c.2.1 i).mp z) 22⟩
  | succ d ih =>
    intro n r g hr hn f
    obtain ⟨n, rfl⟩ : ∃ m, n = m + 1 := ⟨n - 1, by omega⟩
    by_cases e : mI (a_rr S (r + 1)) = mI (a_rr S r)
    · exact fin r n g e f
    · rw [fn_Mo_wrong_109, if_neg e]
      have B' : mB S g := ⟨rc_M_q f w_rk_m B.1, B.2⟩
      refine ev_d (ho_c B' (mA_q f A) (a_rr S (r + 1))) (fun v g2 ⟨a1, a2⟩ => ?_)
      rw [a1]
      exact ih n (r + 1) g2 (by omega) (by omega) (fq_t f a2)
noncomputable def wr_o (S : et_T) (p : Int32) : et_oc := if p = 0 then .inr (mI (fun i => a_al S i ∧ ¬ a_HH S (a_al S) a_no i)) else if p = 1 then .inr (mI (fun i => a_RG S i ∧ ¬ a_HH S (a_al S) a_no i)) else .inl 0
theorem wr_48 (B : mB S g0) (A : mA S np P H O g0) (p : Int32) {g : et_G} (J : mJ S (a_al S) a_no np P H g0 g) (F : mF S (a_al S) a_no np P H g) (Q : Option (Int32 × et_G) → Prop) (kk : Q (fn_Mo_wrong_84 p (mI (a_HH S (a_al S) a_no)) g)) : Q (fn_Mo_wrong_48 p 1000000 0 0 g) := by
  have c := mB_c B
  refine lp0 (fun m i (x : Int32) => fn_Mo_wrong_48 p m x i g) Q (S 61 50) (by omega) (fun k x => x = mI (fun i => i < k ∧ a_HH S (a_al S) a_no i)) 0 (by rw [mI_0]; exact mI_c fun i _ => ⟨fun z => z.elim, fun z => by omega⟩) ?_ ?_
  · intro m x h
    show Q (fn_Mo_wrong_48 p (m + 1) x (nI (S 61 50)) g)
    rw [fn_Mo_wrong_48, show g.1 61 50 = nI (S 61 50) from by rw [J.1.1 61 50 rfl]; exact c.1, if_pos (nI_le (Nat.le_refl _) (by omega)), h, show mI (fun i => i < S 61 50 ∧ a_HH S (a_al S) a_no i) = mI (a_HH S (a_al S) a_no) from mI_c fun i _ => ⟨fun z => z.2, fun z => ⟨(a_HH_n z).1, z⟩⟩]
    exact kk
  · intro m k x hk h ih
    show Q (fn_Mo_wrong_48 p (m + 1) x (nI k) g)
    obtain ⟨b1, b2, -⟩ := J.2.2.2.1 k hk
    have fr := (rg_f B J F hk).1
    rw [fn_Mo_wrong_48, show g.1 61 50 = nI (S 61 50) from by rw [J.1.1 61 50 rfl]; exact c.1, if_neg (nI_ge hk (by omega))]
    simp (disch := omega) only [ni_of, nI_clamp, ib_e, ck_t, bd_s, et_b, nI_add, if_p, ni_eq, ni_lt, ni_le, b_e0, b_e1, io_n, b1, or_n0]
    by_cases h1 : 1000 ≤ rg g k
    · rw [io_t h1]
      refine ih _ ?_
      rw [h]; exact mI_k0 (fun z => by have := fr.mpr z; omega)
    · rw [io_f h1]
      refine ih _ ?_
      rw [h]; exact mI_k1 (by omega) (fr.mp (by omega))
theorem wr_m {g : et_G} (B : mB S g) (p : Int32) : ev_Q (fn_Mo_wrong p g) (fun v g' => v = va_o (wr_o S p) ∧ g'.1 61 0 = th_o (wr_o S p) ∧ fq w_sc g g') := by
  have c := mB_c B
  unfold fn_Mo_wrong
  simp only [et_b]
  have f0 : fq w_sc g (et_si g 61 0 0) := fq_s (fq_r _ _) rfl
  have h0 : (et_si g 61 0 0).1 61 0 = 0 := si_e
  generalize et_si g 61 0 0 = g1 at f0 h0 ⊢
  have B1 := mB_sc f0 B
  have good : (p = 0 ∨ p = 1) → ev_Q (fn_Mo_wrong_20 p 1 g1) (fun v g' => v = va_o (wr_o S p) ∧ g'.1 61 0 = th_o (wr_o S p) ∧ fq w_sc g g') := by
    intro hp
    unfold fn_Mo_wrong_20
    rw [ri_y h0 _ _ (by decide), bd_s, if_neg (by decide)]
    refine ev_d (as_0 B1 0) (fun _ g2 ⟨a1, B2, np, P, H, O, A2⟩ => ?_)
    rw [al_m B2, bd_s]
    have r := rk_c B2 A2 (a_al S) a_no
    rw [show mI a_no = (0 : Int32) from mI_0.symm] at r
    refine ev_d r (fun _ g3 ⟨J, F, _⟩ => ?_)
    have f3 := fq_t f0 (fq_t (as_sc a1) (rk_sc J.1))
    have t3 : g3.1 61 0 = 0 := by rw [J.1.1 61 0 rfl, a1.1 61 0 rfl]; exact h0
    refine wr_48 B2 A2 p J F (fun o => ev_Q o _) ?_
    have B3 := mB_sc f3 B
    have A3 := mA_q J.1 A2
    unfold fn_Mo_wrong_84
    by_cases hp0 : p = 0
    · rw [if_pos hp0, al_m B3, bd_s, show (-1 : Int32) = -nI 1 from rfl, mI_not, mI_and]
      refine ev_r ⟨?_, ?_, f3⟩
      · unfold wr_o; rw [if_pos hp0]; rfl
      · unfold wr_o; rw [if_pos hp0]; exact t3
    · rw [if_neg hp0, al_m B3, bd_s]
      refine ev_d (ho_c B3 A3 (a_al S)) (fun v g4 ⟨b1, b2⟩ => ?_)
      rw [b1]
      have hp1 : p = 1 := hp.resolve_left hp0
      refine ev_w (wr_109 B3 A3 (a_HH S (a_al S) a_no) 21 1000000 0 g4 (by omega) (by omega) b2) (fun v g5 ⟨c1, c2⟩ => ⟨?_, ?_, fq_t f3 (rk_sc c2)⟩)
      · unfold wr_o; rw [if_neg hp0, if_pos hp1, c1]; rfl
      · unfold wr_o; rw [if_neg hp0, if_pos hp1, c2.1 61 0 rfl]; exact t3
  by_cases hp0 : p = 0
  · rw [if_pos hp0]; exact good (Or.inl hp0)
  · rw [if_neg hp0]
    by_cases hp1 : p = 1
    · rw [if_pos hp1]; exact good (Or.inr hp1)
    · rw [if_neg hp1]
      unfold fn_Mo_wrong_20
      rw [ri_n h0 _ (by decide), bd_s, if_pos rfl]
      refine ev_r ⟨?_, ?_, fq_s f0 rfl⟩
      · unfold wr_o; rw [if_neg hp0, if_neg hp1]; rfl
      · unfold wr_o; rw [if_neg hp0, if_neg hp1, si_e]; rfl
theorem wr_c {g : et_G} (A : gA S g) (G : rc_G S g) (p : Int32) : ev_Q (fn_Et_wrong p g) (fun o g' => o = wr_o S p ∧ fq w_gr g g' ∧ rc_G S g') := by
  unfold fn_Et_wrong wr_o
  by_cases hp0 : p = 0
  · rw [if_pos hp0, if_pos hp0]
    exact ev_d (un_c A G) (fun v g1 ⟨a, b, c⟩ => ev_r ⟨by rw [c], a, b⟩)
  · rw [if_neg hp0, if_neg hp0]
    by_cases hp1 : p = 1
    · rw [if_pos hp1, if_pos hp1]
      exact ev_d (rn_c A G) (fun v g1 ⟨a, b, c⟩ => ev_r ⟨by rw [c], a, b⟩)
    · rw [if_neg hp1, if_neg hp1]
      exact ev_r ⟨rfl, fq_r _ _, G⟩
/-! could -/
noncomputable def co_o (S : et_T) (p h t : Int32) (nt : Nat) : et_oc := io (iN p (S 61 4) ∧ iN h 24 ∧ iN t (S 61 5)) (.inr (mI (a_sh S (a_tt S) (a_CL S (a_tt S) p.toNatClampNeg h.toNatClampNeg) p.toNatClampNeg h.toNatClampNeg t.toNatClampNeg nt))) (.inl 0)
theorem co_c {g : et_G} (A : gA S g) (G : rc_G S g) (p h t : Int32) {nt : Nat} (hn : nt ≤ 1) : ev_Q (fn_Et_could p h t (nI nt) g) (fun o g' => o = co_o S p h t nt ∧ fq w_gr g g' ∧ rc_G S g') := by
  have c := gA_c A
  unfold fn_Et_could co_o
  rw [np_c c.2.1]
  by_cases h1 : iN p (S 61 4)
  · rw [io_t h1, bt_r, nh_c]
    by_cases h2 : iN h 24
    · rw [io_t h2, bt_r, nt_c c.2.2.1]
      by_cases h3 : iN t (S 61 5)
      · rw [io_t h3, bt_r, io_t ⟨h1, h2, h3⟩]
        obtain ⟨p, hp, rfl⟩ := iN_e h1 (by omega)
        obtain ⟨h, hh, rfl⟩ := iN_e h2 (by omega)
        obtain ⟨t, ht, rfl⟩ := iN_e h3 (by omega)
        refine ev_d (hf_c A G hp hh ht hn) (fun v g1 ⟨a, b, d⟩ => ev_r ⟨?_, a, b⟩)
        rw [d, nI_clamp (by omega), nI_clamp (by omega), nI_clamp (by omega)]
      · rw [io_f h3, bt_l, io_f (fun e => h3 e.2.2)]; exact ev_r ⟨rfl, fq_r _ _, G⟩
    · rw [io_f h2, bt_l, io_f (fun e => h2 e.2.1)]; exact ev_r ⟨rfl, fq_r _ _, G⟩
  · rw [io_f h1, bt_l, io_f (fun e => h1 e.1)]; exact ev_r ⟨rfl, fq_r _ _, G⟩
theorem co_m {g : et_G} (B : mB S g) (p h t : Int32) {nt : Nat} (hn : nt ≤ 1) : ev_Q (fn_Mo_could p h t (nI nt) g) (fun v g' => v = va_o (co_o S p h t nt) ∧ g'.1 61 0 = th_o (co_o S p h t nt) ∧ fq w_sc g g') := by
  have c := mB_c B
  unfold fn_Mo_could co_o
  simp only [et_b]
  have f0 : fq w_sc g (et_si g 61 0 0) := fq_s (fq_r _ _) rfl
  have h0 : (et_si g 61 0 0).1 61 0 = 0 := si_e
  generalize et_si g 61 0 0 = g1 at f0 h0 ⊢
  have B1 := mB_sc f0 B
  have c1 := mB_c B1
  by_cases h12 : iN p (S 61 4) ∧ iN h 24
  · obtain ⟨h1, h2⟩ := h12
    obtain ⟨p, hp, rfl⟩ := iN_e h1 (by omega)
    obtain ⟨h, hh, rfl⟩ := iN_e h2 (by omega)
    rw [iw_y h0 c1.2.2.2.2.2.2.1 (by omega) hp hh, bd_s, if_neg (by decide)]
    by_cases h3 : iN t (S 61 5)
    · obtain ⟨t, ht, rfl⟩ := iN_e h3 (by omega)
      rw [it_y h0 c1.2.2.1 (by omega) ht, bd_s, if_neg (by decide), io_t ⟨h1, h2, h3⟩, nI_clamp (by omega), nI_clamp (by omega), nI_clamp (by omega)]
      refine ev_d (as_1 B1 hp hh) (fun _ g2 ⟨a1, B2, np, P, H, O, A2, k0, k1, k2, k3⟩ => ?_)
      rw [al_m B2, bd_s]
      have r := rk_c B2 A2 (a_al S) a_no
      rw [show mI a_no = (0 : Int32) from mI_0.symm] at r
      refine ev_d r (fun _ g3 ⟨J, F, _⟩ => ?_)
      obtain ⟨E3, A3⟩ := mJ_E B2 A2 J
      obtain ⟨k, e1, e2, e3, e4⟩ := pa_y (by omega) A3 hp hh ⟨k0, k1, k2, k3⟩
      rw [e1, bd_s]
      have hnp := A3.2.1
      have f3 := fq_t f0 (fq_t (as_sc a1) (rk_sc J.1))
      have t3 : g3.1 61 0 = 0 := by rw [J.1.1 61 0 rfl, a1.1 61 0 rfl]; exact h0
      obtain ⟨p1, p2, p3, p4⟩ := A3.2.2.1 k e2
      have := sc_m (F := fn_Mo_could_53 (nI t) (nI nt) (nI k)) (g := g3) (N := 5) (P := a_sh S (a_tt S) (a_CL S (a_tt S) p h) p h t nt) (by omega) (fun m x => by
        rw [fn_Mo_could_53, if_pos (by decide)]) (fun m x w hw => by
        obtain ⟨v, v0, v1⟩ := bh_m E3 e2 p1 p2 p3 p4 ht hn hw
        have key : v < 1000 ↔ a_sh S (a_tt S) (a_CL S (a_tt S) (P k) (H k)) (P k) (H k) t nt w := bh_f B2 J F e2 v1
        have hv := v1.1
        rw [e3, e4] at key
        have k75 : ∀ q : Nat, q = nt → fn_Mo_could_75 (fun z6 z7 g => fn_Mo_could_53 (nI t) (nI nt) (nI k) m z6 z7 g) (nI t) (nI nt) (nI k) (nI w) (nI q) (nI t) (nI k) x g3 = io (a_sh S (a_tt S) (a_CL S (a_tt S) p h) p h t nt w) (fn_Mo_could_53 (nI t) (nI nt) (nI k) m (x ||| (nI 1 <<< (nI w &&& nI 31))) (nI (w + 1)) g3) (fn_Mo_could_53 (nI t) (nI nt) (nI k) m x (nI (w + 1)) g3) := by
          intro q hq
          subst hq
          unfold fn_Mo_could_75
          simp (disch := omega) only [ni_of, nI_clamp, ib_e, ck_t, bd_s, et_b, nI_add, if_p, ni_eq, ni_lt, ni_le, b_e0, b_e1, io_n, v0, or_n0]
          by_cases h1 : 1000 ≤ v
          · rw [io_t h1, io_f (fun z => by have := key.mpr z; omega)]
          · rw [io_f h1, io_t (key.mp (by omega))]
        rw [fn_Mo_could_53]
        simp (disch := omega) only [ni_of, ni_lt, ni_eq]
        rw [if_neg (by omega)]
        by_cases hz : nt = 0
        · rw [if_pos hz]; exact k75 0 hz.symm
        · rw [if_neg hz]; exact k75 1 (by omega))
      rw [this]
      refine ev_r ⟨?_, t3, f3⟩
      show mI _ = mI _
      refine mI_c fun w _ => ⟨fun z => z.2, fun z => ⟨?_, z⟩⟩
      rcases z with z | z | z | z | z
      · omega
      · omega
      · omega
      · omega
      · omega
    · rw [it_n h0 c1.2.2.1 h3, bd_s, if_pos rfl, io_f (fun e => h3 e.2.2)]
      exact ev_r ⟨rfl, si_e, fq_s f0 rfl⟩
  · rw [iw_n h0 c1.2.2.2.2.2.2.1 h12, bd_s, if_pos rfl, io_f (fun e => h12 ⟨e.1, e.2.1⟩)]
    exact ev_r ⟨rfl, si_e, fq_s f0 rfl⟩
end HO
