/-! apart: the model's ways -/
def fz (S : et_T) (l : List Nat) : et_T := fun k j => if k = 61 ∧ j = 49 then l.length else if k = 83 then (if j < l.length then l.getD j 0 else S 83 j) else S k j
def v_fz (k j : Nat) : Bool := k == 83 || (k == 61 && j == 49)
theorem fz_ag (S : et_T) (l : List Nat) : ag v_fz S (fz S l) := fun k j e => by
  unfold fz
  rw [if_neg (fun z => by rw [z.1, z.2] at e; cases e), if_neg (fun z => by rw [z] at e; cases e)]
theorem fz_49 {S : et_T} {l : List Nat} : fz S l 61 49 = l.length := if_pos ⟨rfl, rfl⟩
theorem fz_83 {S : et_T} {l : List Nat} {j : Nat} : fz S l 83 j = if j < l.length then l.getD j 0 else S 83 j := by
  unfold fz
  rw [if_neg (fun z => by cases z.1), if_pos rfl]
section WD
variable {S S' : et_T}
theorem fc_n_e (h62 : S' 62 = S 62) (h63 : S' 63 = S 63) (h64 : S' 64 = S 64) (s e : Nat) : ∀ d c, fc_n S' s e d c = fc_n S s e d c := by
  intro d
  induction d with
  | zero => intro c; rfl
  | succ d ih =>
    intro c
    unfold fc_n
    rw [ih, show en_P S' s c = en_P S s c by unfold en_P; rw [h62, h64], show be_P S' e c = be_P S e c by unfold be_P; rw [h63, h64]]
theorem wd_e (h2 : S' 61 2 = S 61 2) (h62 : S' 62 = S 62) (h63 : S' 63 = S 63) (h64 : S' 64 = S 64) (s e : Nat) : wd S' s e = wd S s e := by
  have hf : fc S' s e = fc S s e := by unfold fc; rw [h2]; exact fc_n_e h62 h63 h64 s e _ _
  unfold wd
  rw [hf, h2, h62, h63, h64]
theorem wt_e (h1 : S' 61 1 = S 61 1) (h2 : S' 61 2 = S 61 2) (h62 : S' 62 = S 62) (h63 : S' 63 = S 63) (h64 : S' 64 = S 64) (h : wt_S S) : wt_S S' := by
  unfold wt_S at h ⊢
  rw [h1, h2, h62, h63, h64]
  exact h
end WD
theorem fz_wd (S : et_T) (l : List Nat) (s e : Nat) : wd (fz S l) s e = wd S s e := wd_e (fz_ag S l 61 2 rfl) (ag_row (fz_ag S l) (fun _ => rfl)) (ag_row (fz_ag S l) (fun _ => rfl)) (ag_row (fz_ag S l) (fun _ => rfl)) s e
theorem fz_wt {S : et_T} (l : List Nat) (h : wt_S S) : wt_S (fz S l) := wt_e (fz_ag S l 61 1 rfl) (fz_ag S l 61 2 rfl) (ag_row (fz_ag S l) (fun _ => rfl)) (ag_row (fz_ag S l) (fun _ => rfl)) (ag_row (fz_ag S l) (fun _ => rfl)) h
def wm_f (k j : Nat) : Bool := wb_m k j || v_fz k j
theorem wm_fb {g g' : et_G} (h : fq wb_m g g') : fq wm_f g g' := fq_w h (fun k j h => by unfold wm_f at h; simp only [Bool.or_eq_false_iff] at h; exact h.1)
/-- the model keeps one more -/
theorem fz_k {S : et_T} {l : List Nat} {g : et_G} {v : Nat} (M : rc_M (fz S l) g) : rc_M (fz S (l ++ [v])) (et_si (et_si g 83 l.length (nI v)) 61 49 (nI (l.length + 1))) := by
  refine ⟨fun k j e => ?_, ?_, ?_⟩
  · by_cases h1 : k = 61
    · subst h1
      by_cases h2 : j = 49
      · subst h2
        rw [si_e, fz_49, List.length_append]; rfl
      · rw [si_j h2, si_x (by decide), M.1 61 j e, fz_ag S l 61 j (by simp [v_fz, h2]), fz_ag S (l ++ [v]) 61 j (by simp [v_fz, h2])]
    · rw [si_x h1]
      by_cases h2 : k = 83
      · subst h2
        have hm := M.1 83 j e
        rw [fz_83] at hm ⊢
        rw [List.length_append, List.length_singleton]
        by_cases h3 : j = l.length
        · subst h3
          rw [si_e, if_pos (by omega), gd_a (by omega), if_pos rfl]
        · rw [si_j h3, hm]
          by_cases h4 : j < l.length
          · rw [if_pos h4, if_pos (by omega), gd_a (by omega), if_neg h3]
          · rw [if_neg h4, if_neg (by omega)]
      · rw [si_x h2, M.1 k j e, fz_ag S l k j (by simp [v_fz, h1, h2]), fz_ag S (l ++ [v]) k j (by simp [v_fz, h1, h2])]
  · rw [si_j (by decide), si_x (by decide)]; exact M.2.1
  · rw [si_j (by decide), si_x (by decide)]; exact M.2.2
section FI
variable {S : et_T} {lo n : Nat}
theorem fd_57 {g : et_G} {w : List Nat} (hb : bf_m g w) (hw : ∀ x ∈ w, x < 128) (ht : ∀ j, g.1 71 j = nI (S 71 j)) (hb8 : ∀ i, i < 800 → S 71 i < 256) (hn : lo + n ≤ 800) (hl : w.length = n) (r7 : Int32 → et_G → Option (Unit × et_G)) (x2 x3 : Int32) : ∀ d m k, k + d = n → d < m → fn_Mo_finds_57 r7 (nI lo) x2 x3 m 1 (nI k) g = fn_Mo_finds_103 r7 (nI lo) x2 x3 (io (∀ i, k ≤ i → i < n → w.getD i 0 = S 71 (lo + i)) 1 0) g := by
  obtain ⟨b1, b2, b3⟩ := hb
  intro d
  induction d with
  | zero =>
    intro m k hk hm
    obtain ⟨m, rfl⟩ : ∃ q, m = q + 1 := ⟨m - 1, by omega⟩
    rw [fn_Mo_finds_57, if_neg (by decide), b1, if_pos (nI_le (by omega) (by omega)), io_t (fun i h1 h2 => by omega)]
  | succ d ih =>
    intro m k hk hm
    obtain ⟨m, rfl⟩ : ∃ q, m = q + 1 := ⟨m - 1, by omega⟩
    have e3 := b3 k (by omega)
    have l3 := hw _ (gd_mem (w := w) (i := k) (by omega))
    have t8 := hb8 (lo + k) (by omega)
    rw [fn_Mo_finds_57, if_neg (by decide), b1, if_neg (nI_ge (by omega) (by omega)), ib_e k 32 (by omega) (by decide), ck_t, nI_add, ib_e (lo + k) 800 (by omega) (by decide), ck_t, nI_clamp (by omega), nI_clamp (by omega), e3, ht]
    by_cases q : w.getD k 0 = S 71 (lo + k)
    · rw [if_pos (by rw [q])]
      show fn_Mo_finds_57 r7 (nI lo) x2 x3 m 1 (nI k + nI 1) g = _
      rw [nI_add, ih m (k + 1) (by omega) (by omega), io_c (all_s (P := fun i => w.getD i 0 = S 71 (lo + i)) q)]
    · rw [if_neg (by rw [ni_eq (by omega) (by omega)]; exact q)]
      obtain ⟨m, rfl⟩ : ∃ q, m = q + 1 := ⟨m - 1, by omega⟩
      show fn_Mo_finds_57 r7 (nI lo) x2 x3 (m + 1) 0 (nI k + nI 1) g = _
      rw [fn_Mo_finds_57, if_pos rfl, io_f (fun z => q (z k (by omega) (by omega)))]
/-- what holds of the model while it looks -/
def fd_I (S : et_T) (g0 : et_G) (lo n v : Nat) (g : et_G) : Prop := rc_M (fz S (wl S lo n v)) g ∧ fq wm_f g0 g
theorem fd_7 {g0 : et_G} (hw : wt_S S) (hb8 : ∀ i, i < 800 → S 71 i < 256) (hn : lo + n ≤ 800) : ∀ d m v g, v + d = 15 * S 61 1 → d < m → fd_I S g0 lo n v g → ev_Q (fn_Mo_finds_7 (nI lo) (nI (lo + n)) m (nI v) g) (fun _ g' => fd_I S g0 lo n (15 * S 61 1) g') := by
  have w1 := hw.1
  intro d
  induction d with
  | zero =>
    intro m v g hd hm hI
    obtain ⟨m, rfl⟩ : ∃ q, m = q + 1 := ⟨m - 1, by omega⟩
    have e1 : g.1 61 1 = nI (S 61 1) := hI.1.1 61 1 rfl
    rw [fn_Mo_finds_7, e1, show (15 : Int32) = nI 15 from rfl, pk_mul, if_pos (nI_le (by omega) (by omega))]
    exact ev_r (by rw [show 15 * S 61 1 = v by omega]; exact hI)
  | succ d ih =>
    intro m v g hd hm hI
    obtain ⟨m, rfl⟩ : ∃ q, m = q + 1 := ⟨m - 1, by omega⟩
    have e1 : g.1 61 1 = nI (S 61 1) := hI.1.1 61 1 rfl
    have hs : v / 15 < S 61 1 := by omega
    have he : v % 15 < 15 := by omega
    have ll := wl_len S lo n v
    rw [fn_Mo_finds_7, e1, show (15 : Int32) = nI 15 from rfl, pk_mul, if_neg (nI_ge (by omega) (by omega)), pk_div (by omega) (by omega) (by omega), pk_mul, pk_sub (by omega), show v - v / 15 * 15 = v % 15 by omega]
    refine ev_d (sp_m (fz_wt _ hw) (show v / 15 < fz S (wl S lo n v) 61 1 from hs) he hI.1) (fun _ g1 h1 => ?_)
    obtain ⟨b1, f1⟩ := h1
    rw [fz_wd] at b1
    have M1 := rc_M_q f1 wb_mq hI.1
    have F1 : fq wm_f g0 g1 := fq_t hI.2 (wm_fb f1)
    have l48 := b1.1
    have lw := wd_len hw hs he
    have c0 : ma_P S lo n v → ev_Q (fn_Mo_finds_103 (fun z3 g => fn_Mo_finds_7 (nI lo) (nI (lo + n)) m z3 g) (nI lo) (nI (lo + n)) (nI v) 1 g1) (fun _ g' => fd_I S g0 lo n (15 * S 61 1) g') := fun hp => by
      have e49 : g1.1 61 49 = nI (wl S lo n v).length := by rw [M1.1 61 49 rfl, fz_49]
      have e49' : (et_si g1 83 (wl S lo n v).length (nI v)).1 61 49 = nI (wl S lo n v).length := by rw [si_x (by decide)]; exact e49
      unfold fn_Mo_finds_103
      rw [if_neg (by decide), e49]
      refine ev_k (ib_n (by omega) (by decide)) ?_
      rw [nI_clamp (by omega)]
      show ev_Q (fn_Mo_finds_7 (nI lo) (nI (lo + n)) m (nI v + nI 1) (et_si (et_si g1 83 (wl S lo n v).length (nI v)) 61 49 ((et_si g1 83 (wl S lo n v).length (nI v)).1 61 49 + nI 1))) _
      rw [e49', nI_add, nI_add]
      refine ih m (v + 1) _ (by omega) (by omega) ⟨?_, fq_s (fq_s F1 rfl) rfl⟩
      have ew : wl S lo n (v + 1) = wl S lo n v ++ [v] := by rw [wl, io_t hp]
      rw [ew]
      exact fz_k M1
    have c1 : ¬ ma_P S lo n v → ev_Q (fn_Mo_finds_103 (fun z3 g => fn_Mo_finds_7 (nI lo) (nI (lo + n)) m z3 g) (nI lo) (nI (lo + n)) (nI v) 0 g1) (fun _ g' => fd_I S g0 lo n (15 * S 61 1) g') := fun hp => by
      unfold fn_Mo_finds_103
      rw [if_pos rfl]
      show ev_Q (fn_Mo_finds_7 (nI lo) (nI (lo + n)) m (nI v + nI 1) g1) _
      rw [nI_add]
      refine ih m (v + 1) _ (by omega) (by omega) ⟨?_, F1⟩
      have ew : wl S lo n (v + 1) = wl S lo n v := by rw [wl, io_f hp]
      rw [ew]
      exact M1
    have z57 : ∀ mm, fn_Mo_finds_57 (fun z3 g => fn_Mo_finds_7 (nI lo) (nI (lo + n)) m z3 g) (nI lo) (nI (lo + n)) (nI v) (mm + 1) 0 0 g1 = fn_Mo_finds_103 (fun z3 g => fn_Mo_finds_7 (nI lo) (nI (lo + n)) m z3 g) (nI lo) (nI (lo + n)) (nI v) 0 g1 := fun mm => by rw [fn_Mo_finds_57, if_pos rfl]
    rw [l48]
    by_cases h0 : (wd S (v / 15) (v % 15)).length = 0
    · rw [if_pos (by rw [h0]; decide), z57 999999]
      refine c1 (fun hp => ?_)
      have := hp.2 ▸ h0
      rw [seg_l] at this
      have := hp.1; omega
    · rw [if_neg (fun z => h0 (by have := (nI_leI (b := 0) (by omega) (by decide)).mp z; omega)), pk_sub (by omega), show lo + n - lo = n by omega]
      by_cases h1 : (wd S (v / 15) (v % 15)).length = n
      · rw [if_pos (by rw [h1])]
        have e57 := fd_57 (S := S) (lo := lo) b1 (wd_lt hw hs he) (fun j => by rw [M1.1 71 j rfl]; rfl) hb8 hn h1 (fun z3 g => fn_Mo_finds_7 (nI lo) (nI (lo + n)) m z3 g) (nI (lo + n)) (nI v) n 1000000 0 (by omega) (by omega)
        rw [show (0 : Int32) = nI 0 from rfl, e57]
        by_cases hq : wd S (v / 15) (v % 15) = seg (S 71) lo n
        · rw [io_t (fun i _ hi => (list_eq_seg h1).mp hq i hi)]
          exact c0 ⟨by omega, hq⟩
        · rw [io_f (fun z => hq ((list_eq_seg h1).mpr (fun i hi => z i (Nat.zero_le _) hi)))]
          exact c1 (fun hp => hq hp.2)
      · rw [if_neg (by rw [ni_eq (by omega) (by omega)]; exact h1), z57 999999]
        refine c1 (fun hp => h1 ?_)
        rw [hp.2, seg_l]
theorem fd_m {g : et_G} (M : rc_M S g) (hw : wt_S S) (hb8 : ∀ i, i < 800 → S 71 i < 256) (hn : lo + n ≤ 800) : ev_Q (fn_Mo_finds (nI lo) (nI (lo + n)) g) (fun _ g' => rc_M (fz S (wl S lo n (15 * S 61 1))) g' ∧ fq wm_f g g') := by
  have w1 := hw.1
  unfold fn_Mo_finds
  refine eb_q ?_
  have M0 : rc_M (fz S []) (et_si g 61 49 (nI 0)) := by
    refine ⟨fun k j e => ?_, ?_, ?_⟩
    · by_cases h : k = 61 ∧ j = 49
      · rw [h.1, h.2, si_e, fz_49]; rfl
      · rw [show (et_si g 61 49 (nI 0)).1 k j = g.1 k j by rw [si_g, if_neg h], M.1 k j e]
        by_cases q : k = 83
        · subst q; rw [fz_83]; rfl
        · unfold fz; rw [if_neg h, if_neg q]
    · rw [si_j (by decide)]; exact M.2.1
    · rw [si_j (by decide)]; exact M.2.2
  exact fd_7 hw hb8 hn (15 * S 61 1) 1000000 0 _ (by omega) (by omega) ⟨M0, fq_s (fq_r _ _) rfl⟩
end FI
