/-! the law's cases, one by one (all but village and known) -/
section LX
variable {S : et_T} {g : et_G} {Q : Int32 → et_G → Prop} {L : Nat} {xs : Nat → Int32} {r23 : Int32 → et_G → Option (Int32 × et_G)} {x4 : Int32}
theorem lc_0 (I : Ij S g) (e1 : et_ib (x4 + (1 : Int32)) L = true) (e2 : et_ib (x4 + (2 : Int32)) L = true) (e3 : et_ib (x4 + (3 : Int32)) L = true) (e4 : et_ib (x4 + (4 : Int32)) L = true) (e5 : et_ib (x4 + (5 : Int32)) L = true) (kk : ∀ S' g', Ij S' g' → ev_Q (r23 (x4 + (6 : Int32)) g') Q) : ev_Q (fn_La_law_0 L xs r23 x4 g) Q := by
  unfold fn_La_law_0 
  simp only [e1, e2, e3, e4, e5, ck_t]
  exact lw_U I (ok_feed I.1 _ _ _ _ _) kk
theorem lc_2 (I : Ij S g)  (kk : ∀ S' g', Ij S' g' → ev_Q (r23 (x4 + (6 : Int32)) g') Q) : ev_Q (fn_La_law_2 L xs r23 x4 g) Q := by
  unfold fn_La_law_2 
  exact lw_U I (ok_fault I.1 ) kk
theorem lc_3 (I : Ij S g) (e1 : et_ib (x4 + (1 : Int32)) L = true) (kk : ∀ S' g', Ij S' g' → ev_Q (r23 (x4 + (6 : Int32)) g') Q) : ev_Q (fn_La_law_3 L xs r23 x4 g) Q := by
  unfold fn_La_law_3 fn_La_count
  simp only [e1, ck_t]
  exact lw_B I (ok_count I.1 _) kk
theorem lc_4 (I : Ij S g) (e1 : et_ib (x4 + (1 : Int32)) L = true) (e2 : et_ib (x4 + (2 : Int32)) L = true) (kk : ∀ S' g', Ij S' g' → ev_Q (r23 (x4 + (6 : Int32)) g') Q) : ev_Q (fn_La_law_4 L xs r23 x4 g) Q := by
  unfold fn_La_law_4 fn_La_where
  simp only [e1, e2, ck_t]
  exact lw_B I (ok_where I.1 _ _) kk
theorem lc_5 (I : Ij S g) (e1 : et_ib (x4 + (1 : Int32)) L = true) (e2 : et_ib (x4 + (2 : Int32)) L = true) (kk : ∀ S' g', Ij S' g' → ev_Q (r23 (x4 + (6 : Int32)) g') Q) : ev_Q (fn_La_law_5 L xs r23 x4 g) Q := by
  unfold fn_La_law_5 fn_La_thing
  simp only [e1, e2, ck_t]
  exact lw_B I (ok_thing I.1 _ _) kk
theorem lc_6 (I : Ij S g) (e1 : et_ib (x4 + (1 : Int32)) L = true) (e2 : et_ib (x4 + (2 : Int32)) L = true) (e3 : et_ib (x4 + (3 : Int32)) L = true) (e4 : et_ib (x4 + (4 : Int32)) L = true) (kk : ∀ S' g', Ij S' g' → ev_Q (r23 (x4 + (6 : Int32)) g') Q) : ev_Q (fn_La_law_6 L xs r23 x4 g) Q := by
  unfold fn_La_law_6 fn_La_word
  simp only [e1, e2, e3, e4, ck_t]
  exact lw_B I (ok_word I.1 _ _ _ _) kk
theorem lc_7 (I : Ij S g) (e1 : et_ib (x4 + (1 : Int32)) L = true) (kk : ∀ S' g', Ij S' g' → ev_Q (r23 (x4 + (6 : Int32)) g') Q) : ev_Q (fn_La_law_7 L xs r23 x4 g) Q := by
  unfold fn_La_law_7 fn_La_apart
  simp only [e1, ck_t]
  exact lw_B I (ok_apart I.1 _) kk
theorem lc_8 (I : Ij S g) (e1 : et_ib (x4 + (1 : Int32)) L = true) (kk : ∀ S' g', Ij S' g' → ev_Q (r23 (x4 + (6 : Int32)) g') Q) : ev_Q (fn_La_law_8 L xs r23 x4 g) Q := by
  unfold fn_La_law_8 fn_La_way
  simp only [e1, ck_t]
  exact lw_B I (ok_way I.1 _) kk
theorem lc_9 (I : Ij S g) (e1 : et_ib (x4 + (1 : Int32)) L = true) (e2 : et_ib (x4 + (2 : Int32)) L = true) (e3 : et_ib (x4 + (3 : Int32)) L = true) (e4 : et_ib (x4 + (4 : Int32)) L = true) (e5 : et_ib (x4 + (5 : Int32)) L = true) (kk : ∀ S' g', Ij S' g' → ev_Q (r23 (x4 + (6 : Int32)) g') Q) : ev_Q (fn_La_law_9 L xs r23 x4 g) Q := by
  unfold fn_La_law_9 fn_La_say
  by_cases hx : xs (x4 + (5 : Int32)).toNatClampNeg = 0
  · simp only [e1, e2, e3, e4, e5, ck_t, if_pos hx]
    exact lw_B I (ok_say I.1 _ _ _ _ (nt := 0) (by decide)) kk
  · simp only [e1, e2, e3, e4, e5, ck_t, if_neg hx]
    exact lw_B I (ok_say I.1 _ _ _ _ (nt := 1) (by decide)) kk
theorem lc_10 (I : Ij S g) (e1 : et_ib (x4 + (1 : Int32)) L = true) (e2 : et_ib (x4 + (2 : Int32)) L = true) (e3 : et_ib (x4 + (3 : Int32)) L = true) (kk : ∀ S' g', Ij S' g' → ev_Q (r23 (x4 + (6 : Int32)) g') Q) : ev_Q (fn_La_law_10 L xs r23 x4 g) Q := by
  unfold fn_La_law_10 fn_La_utter
  simp only [e1, e2, e3, ck_t]
  exact lw_2 I (ok_utter I.1 _ _ _) kk
theorem lc_11 (I : Ij S g)  (kk : ∀ S' g', Ij S' g' → ev_Q (r23 (x4 + (6 : Int32)) g') Q) : ev_Q (fn_La_law_11 L xs r23 x4 g) Q := by
  unfold fn_La_law_11 
  exact lw_U I (ok_unsay I.1 ) kk
theorem lc_12 (I : Ij S g) (e1 : et_ib (x4 + (1 : Int32)) L = true) (e2 : et_ib (x4 + (2 : Int32)) L = true) (kk : ∀ S' g', Ij S' g' → ev_Q (r23 (x4 + (6 : Int32)) g') Q) : ev_Q (fn_La_law_12 L xs r23 x4 g) Q := by
  unfold fn_La_law_12 fn_La_saying
  simp only [e1, e2, ck_t]
  exact lw_B I (ok_saying I.1 _ _) kk
theorem lc_13 (I : Ij S g) (e1 : et_ib (x4 + (1 : Int32)) L = true) (e2 : et_ib (x4 + (2 : Int32)) L = true) (e3 : et_ib (x4 + (3 : Int32)) L = true) (e4 : et_ib (x4 + (4 : Int32)) L = true) (kk : ∀ S' g', Ij S' g' → ev_Q (r23 (x4 + (6 : Int32)) g') Q) : ev_Q (fn_La_law_13 L xs r23 x4 g) Q := by
  unfold fn_La_law_13 fn_La_could
  by_cases hx : xs (x4 + (4 : Int32)).toNatClampNeg = 0
  · simp only [e1, e2, e3, e4, ck_t, if_pos hx]
    exact lw_B I (ok_could I.1 _ _ _ (nt := 0) (by decide)) kk
  · simp only [e1, e2, e3, e4, ck_t, if_neg hx]
    exact lw_B I (ok_could I.1 _ _ _ (nt := 1) (by decide)) kk
theorem lc_14 (I : Ij S g) (e1 : et_ib (x4 + (1 : Int32)) L = true) (kk : ∀ S' g', Ij S' g' → ev_Q (r23 (x4 + (6 : Int32)) g') Q) : ev_Q (fn_La_law_14 L xs r23 x4 g) Q := by
  unfold fn_La_law_14 fn_La_wrong
  simp only [e1, ck_t]
  exact lw_B I (ok_wrong I.1 _) kk
theorem lc_15 (I : Ij S g)  (kk : ∀ S' g', Ij S' g' → ev_Q (r23 (x4 + (6 : Int32)) g') Q) : ev_Q (fn_La_law_15 L xs r23 x4 g) Q := by
  unfold fn_La_law_15 
  exact lw_V I (ok_mend I.1 ) kk
theorem lc_16 (I : Ij S g) (e1 : et_ib (x4 + (1 : Int32)) L = true) (kk : ∀ S' g', Ij S' g' → ev_Q (r23 (x4 + (6 : Int32)) g') Q) : ev_Q (fn_La_law_16 L xs r23 x4 g) Q := by
  unfold fn_La_law_16 fn_La_mended
  simp only [e1, ck_t]
  exact lw_B I (ok_mended I.1 _) kk
theorem lc_17 (I : Ij S g) (e1 : et_ib (x4 + (1 : Int32)) L = true) (e2 : et_ib (x4 + (2 : Int32)) L = true) (kk : ∀ S' g', Ij S' g' → ev_Q (r23 (x4 + (6 : Int32)) g') Q) : ev_Q (fn_La_law_17 L xs r23 x4 g) Q := by
  unfold fn_La_law_17 fn_La_silence
  simp only [e1, e2, ck_t]
  exact lw_B I (ok_silence I.1 _ _) kk
theorem lc_18 (I : Ij S g) (e1 : et_ib (x4 + (1 : Int32)) L = true) (e2 : et_ib (x4 + (2 : Int32)) L = true) (kk : ∀ S' g', Ij S' g' → ev_Q (r23 (x4 + (6 : Int32)) g') Q) : ev_Q (fn_La_law_18 L xs r23 x4 g) Q := by
  unfold fn_La_law_18 fn_La_likely
  simp only [e1, e2, ck_t]
  exact lw_B I (ok_likely I.1 _ _) kk
theorem lc_19 (I : Ij S g) (e1 : et_ib (x4 + (1 : Int32)) L = true) (kk : ∀ S' g', Ij S' g' → ev_Q (r23 (x4 + (6 : Int32)) g') Q) : ev_Q (fn_La_law_19 L xs r23 x4 g) Q := by
  unfold fn_La_law_19 fn_La_worlds
  simp only [e1, ck_t]
  exact lw_B I (ok_worlds I.1 _) kk
theorem lc_20 (I : Ij S g) (e1 : et_ib (x4 + (1 : Int32)) L = true) (e2 : et_ib (x4 + (2 : Int32)) L = true) (e3 : et_ib (x4 + (3 : Int32)) L = true) (kk : ∀ S' g', Ij S' g' → ev_Q (r23 (x4 + (6 : Int32)) g') Q) : ev_Q (fn_La_law_20 L xs r23 x4 g) Q := by
  unfold fn_La_law_20 fn_La_tell
  by_cases hx : xs (x4 + (3 : Int32)).toNatClampNeg = 0
  · simp only [e1, e2, e3, ck_t, if_pos hx]
    exact lw_B I (ok_tell I.1 _ _ (nt := 0) (by decide)) kk
  · simp only [e1, e2, e3, ck_t, if_neg hx]
    exact lw_B I (ok_tell I.1 _ _ (nt := 1) (by decide)) kk
theorem lc_22 (I : Ij S g)  (kk : ∀ S' g', Ij S' g' → ev_Q (r23 (x4 + (6 : Int32)) g') Q) : ev_Q (fn_La_law_22 L xs r23 x4 g) Q := by
  unfold fn_La_law_22 
  exact lw_I I (ok_image I.1 ) kk
theorem lc_23 (I : Ij S g)  (kk : ∀ S' g', Ij S' g' → ev_Q (r23 (x4 + (6 : Int32)) g') Q) : ev_Q (fn_La_law_23 L xs r23 x4 g) Q := by
  unfold fn_La_law_23 
  exact lw_U I (ok_restore I.1 ) kk
end LX
