/-! The reference's answers: what there is, what would be. -/
section TQB
variable {m len : Nat} {tx now : tp_R} {hn : Nat} {hist : Nat → tp_R} {sl : Nat → Bool} {kp : Nat → tp_R} {u : tl_S}
theorem tm_gal_l2 (h : tp_MI m len tx now hn hist sl kp u) (hs : tp_SO len tx now hn hist sl kp) {g w : Nat} (hg : g < 3) (hw : w ≤ 5) : ∀ (f i : Nat), i ≤ tp_cl (now 2) → tp_cl (now 2) - i < f → f10_galleryOf_p91 f m (nI g) (nI w) (nI (tp_cnt (tp_isg now g) (tp_cl (now 1)))) (nI (tp_cnt (tp_isl now g) i)) (nI i) u = some (tp_gq now g w, u)
  | 0, _, _, h2 => absurd h2 (Nat.not_lt_zero _)
  | f + 1, i, h1, h2 => by
    have hO := hs.2.2.1.1
    have hM := h.2.2.1
    obtain ⟨n, n2, n1, n3⟩ := tp_xx (tp_r2 hO)
    obtain ⟨d, d2, d1, -⟩ := tp_xx (tp_rga hO hg)
    have ih := fun q q2 => tm_gal_l2 h hs hg hw f (i + 1) q q2
    unfold tp_cl at h1 h2
    rw [n3] at h1 h2
    unfold f10_galleryOf_p91
    rw [hM, n1]
    have ele : (nI n ≤ nI i) = (n ≤ i) := tp_le (by omega) (by omega)
    simp only [ele]
    by_cases c : n ≤ i
    · rw [if_pos c]
      unfold tp_gq
      have hi : tp_cnt (tp_isl now g) i = tp_cnt (tp_isl now g) (tp_cl (now 2)) := by unfold tp_cl; rw [n3, show n = i by omega]
      have hc : w = 0 ∨ w = 1 ∨ w = 2 ∨ w = 3 ∨ w = 4 ∨ w = 5 := by omega
      rcases hc with rfl | rfl | rfl | rfl | rfl | rfl
      · rw [if_neg (by decide), if_pos (by decide), if_pos rfl, tp_j18, nI_add, tl_gs (tp_ix (by omega) (by omega)), tp_cn (by omega)]; rfl
      · rw [if_neg (by decide), if_neg (by decide), if_pos (by decide), if_neg (by decide), if_pos rfl, tp_j18, nI_add, tl_gs (tp_ix (by omega) (by omega)), tp_cn (by omega), tp_q18_1]
      · rw [if_neg (by decide), if_neg (by decide), if_neg (by decide), if_pos (by decide), if_neg (by decide), if_neg (by decide), if_pos rfl, tp_tv (F := f10_depth (m + 2) (nI g)) hM (tr_depth hg), tp_b2S, tr_hard, tp_b2S]
      · rw [if_neg (by decide), if_neg (by decide), if_neg (by decide), if_neg (by decide), if_pos (by decide), if_neg (by decide), if_neg (by decide), if_neg (by decide), if_pos rfl, tp_tv (F := f10_depth (m + 2) (nI g)) hM (tr_depth hg), tp_b2S, tp_tv (F := f10_isLit (m + 2) (nI g) (now (18 + 2 * g))) hM (tr_isLit hO d1 (by omega)), tp_b2S, tp_if0]
        rcases tp_lit now (nI g) (now (18 + 2 * g)) with _ | _ <;> rfl
      · rw [if_neg (by decide), if_neg (by decide), if_neg (by decide), if_neg (by decide), if_neg (by decide)]; rfl
      · rw [if_pos (by decide), hi]; rfl
    · rw [if_neg c, tp_tv (F := f10_ofLamp (m + 2) (nI i) 2) hM (tr_la2 (by omega)), tp_b2S]
      have ih := ih (by unfold tp_cl; omega) (by unfold tp_cl; omega)
      have hs1 : tp_cnt (tp_isl now g) (i + 1) = tp_cnt (tp_isl now g) i + (if tp_isl now g i = true then 1 else 0) := rfl
      rw [hs1] at ih
      unfold tp_isl at ih
      by_cases c2 : now (50 + 4 * i) = nI g
      · rw [if_pos c2, tp_L, tp_L, nI_1, nI_1]
        rw [if_pos (decide_eq_true c2)] at ih
        exact ih
      · rw [if_neg c2, tp_L, tp_L, nI_1, tp_p0]
        rw [if_neg (by simp [c2])] at ih
        exact ih
theorem tm_gal_l1 (h : tp_MI m len tx now hn hist sl kp u) (hs : tp_SO len tx now hn hist sl kp) {g w : Nat} (hg : g < 3) (hw : w ≤ 5) : ∀ (f i : Nat), i ≤ tp_cl (now 1) → tp_cl (now 1) - i < f → f10_galleryOf_p46 f m (nI g) (nI w) (nI (tp_cnt (tp_isg now g) i)) (nI i) u = some (tp_gq now g w, u)
  | 0, _, _, h2 => absurd h2 (Nat.not_lt_zero _)
  | f + 1, i, h1, h2 => by
    have hO := hs.2.2.1.1
    have hM := h.2.2.1
    obtain ⟨n, n2, n1, n3⟩ := tp_xx (tp_r1 hO)
    have ih := fun q q2 => tm_gal_l1 h hs hg hw f (i + 1) q q2
    unfold tp_cl at h1 h2
    rw [n3] at h1 h2
    unfold f10_galleryOf_p46
    rw [hM, n1]
    have ele : (nI n ≤ nI i) = (n ≤ i) := tp_le (by omega) (by omega)
    simp only [ele]
    by_cases c : n ≤ i
    · have hi : tp_cnt (tp_isg now g) i = tp_cnt (tp_isg now g) (tp_cl (now 1)) := by unfold tp_cl; rw [n3, show n = i by omega]
      rw [if_pos c, hi]
      exact tm_gal_l2 h hs hg hw tl_F 0 (Nat.zero_le _) (by have := (tp_r2 hO).2; unfold tl_F; omega)
    · rw [if_neg c, tp_tv (F := f10_ofMiner (m + 2) (nI i) 0) hM (tr_mi0 (by omega)), tp_b2S]
      have ih := ih (by unfold tp_cl; omega) (by unfold tp_cl; omega)
      have hs1 : tp_cnt (tp_isg now g) (i + 1) = tp_cnt (tp_isg now g) i + (if tp_isg now g i = true then 1 else 0) := rfl
      rw [hs1] at ih
      unfold tp_isg at ih
      by_cases c2 : now (24 + 4 * i) = nI g
      · rw [if_pos c2, tp_L, tp_L, nI_1, nI_1]
        rw [if_pos (decide_eq_true c2)] at ih
        exact ih
      · rw [if_neg c2, tp_L, tp_L, nI_1, tp_p0]
        rw [if_neg (by simp [c2])] at ih
        exact ih
theorem tm_galleryOf (h : tp_MI m len tx now hn hist sl kp u) (hs : tp_SO len tx now hn hist sl kp) {g w : Int32} :
    tp_T (f10_galleryOf m g w u) (fun p => if tp_ig now g = true then (if tp_iw w 0 5 = true then tp_QQ m u 0 (tp_gq now (tp_cl g) (tp_cl w)) len tx now hn hist sl kp p else tp_QQ m u 2 0 len tx now hn hist sl kp p) else tp_QQ m u 1 0 len tx now hn hist sl kp p) := by
  have hO := hs.2.2.1.1
  unfold f10_galleryOf
  rw [tp_tv (F := f10_isGallery (m + 2) g) h.2.2.1 (tr_isGallery hO), tp_b2S, tp_if0]
  rcases e : tp_ig now g with _ | _
  · simp only [Bool.false_eq_true, if_false]
    unfold f10_galleryOf_p33
    exact tm_no (c := 1) rfl (by decide) (by decide) h (fun v => tp_QQn (by decide))
  · simp only [if_true]
    rw [tp_in_l (y := 0) (z := 5) (Y := 0) (Z := 5) (by decide) (by decide), tp_b2S, tp_if0]
    rcases e2 : tp_iw w 0 5 with _ | _
    · simp only [Bool.false_eq_true, if_false]
      unfold f10_galleryOf_p33
      exact tm_no (c := 2) rfl (by decide) (by decide) h (fun v => tp_QQn (by decide))
    · simp only [if_true]
      obtain ⟨n, n1, rfl⟩ := (tp_ig_N hO).mp e
      obtain ⟨k, -, k2, rfl⟩ := tp_iw_N (L := 0) (B := 5) rfl rfl (by decide) (by decide) e2
      have b0 := (tp_r0 hO).2
      unfold f10_galleryOf_p33
      refine tm_yes h (fun v v0 vF vM => ?_)
      rw [show (0 : Int32) = nI 0 from rfl]
      refine ⟨_, tm_gal_l1 vM hs (by omega) k2 tl_F 0 (Nat.zero_le _) (by have := (tp_r1 hO).2; unfold tl_F; omega), tp_QQy ?_ v0 vF vM⟩
      unfold tp_cl
      rw [tp_cn (by omega), tp_cn (by omega)]
theorem tm_minerOf (h : tp_MI m len tx now hn hist sl kp u) (hs : tp_SO len tx now hn hist sl kp) {g w : Int32} :
    tp_T (f10_minerOf m g w u) (fun p => if tp_im now g = true then (if tp_iw w 0 3 = true then tp_QQ m u 0 (now (24 + 4 * tp_cl g + tp_cl w)) len tx now hn hist sl kp p else tp_QQ m u 2 0 len tx now hn hist sl kp p) else tp_QQ m u 1 0 len tx now hn hist sl kp p) := by
  have hO := hs.2.2.1.1
  unfold f10_minerOf
  rw [tp_tv (F := f10_isMiner (m + 2) g) h.2.2.1 (tr_isMiner hO), tp_b2S, tp_if0]
  rcases e : tp_im now g with _ | _
  · simp only [Bool.false_eq_true, if_false]
    unfold f10_minerOf_p33
    exact tm_no (c := 1) rfl (by decide) (by decide) h (fun v => tp_QQn (by decide))
  · simp only [if_true]
    rw [tp_in_l (y := 0) (z := 3) (Y := 0) (Z := 3) (by decide) (by decide), tp_b2S, tp_if0]
    rcases e2 : tp_iw w 0 3 with _ | _
    · simp only [Bool.false_eq_true, if_false]
      unfold f10_minerOf_p33
      exact tm_no (c := 2) rfl (by decide) (by decide) h (fun v => tp_QQn (by decide))
    · simp only [if_true]
      obtain ⟨n, n1, rfl⟩ := (tp_im_N hO).mp e
      obtain ⟨k, -, k2, rfl⟩ := tp_iw_N (L := 0) (B := 3) rfl rfl (by decide) (by decide) e2
      have b0 := (tp_r1 hO).2
      unfold f10_minerOf_p33
      refine tm_yes h (fun v v0 vF vM => ?_)
      rw [tp_tv (F := f10_ofMiner (m + 2) (nI n) (nI k)) vM.2.2.1 (tr_ofMiner (by omega) rfl (by omega)), tp_b2S]
      refine ⟨_, rfl, tp_QQy ?_ v0 vF vM⟩
      unfold tp_cl
      rw [tp_cn (by omega), tp_cn (by omega)]
theorem tm_lampOf (h : tp_MI m len tx now hn hist sl kp u) (hs : tp_SO len tx now hn hist sl kp) {g w : Int32} :
    tp_T (f10_lampOf m g w u) (fun p => if tp_il now g = true then (if tp_iw w 0 4 = true then tp_QQ m u 0 (tp_lq now (tp_cl g) (tp_cl w)) len tx now hn hist sl kp p else tp_QQ m u 2 0 len tx now hn hist sl kp p) else tp_QQ m u 1 0 len tx now hn hist sl kp p) := by
  have hO := hs.2.2.1.1
  unfold f10_lampOf
  rw [tp_tv (F := f10_isLamp (m + 2) g) h.2.2.1 (tr_isLamp hO), tp_b2S, tp_if0]
  rcases e : tp_il now g with _ | _
  · simp only [Bool.false_eq_true, if_false]
    unfold f10_lampOf_p33
    exact tm_no (c := 1) rfl (by decide) (by decide) h (fun v => tp_QQn (by decide))
  · simp only [if_true]
    rw [tp_in_l (y := 0) (z := 4) (Y := 0) (Z := 4) (by decide) (by decide), tp_b2S, tp_if0]
    rcases e2 : tp_iw w 0 4 with _ | _
    · simp only [Bool.false_eq_true, if_false]
      unfold f10_lampOf_p33
      exact tm_no (c := 2) rfl (by decide) (by decide) h (fun v => tp_QQn (by decide))
    · simp only [if_true]
      obtain ⟨n, n1, rfl⟩ := (tp_il_N hO).mp e
      obtain ⟨k, -, k2, rfl⟩ := tp_iw_N (L := 0) (B := 4) rfl rfl (by decide) (by decide) e2
      have b0 := (tp_r2 hO).2
      unfold f10_lampOf_p33
      refine tm_yes h (fun v v0 vF vM => ?_)
      have e4 : (nI k = 4) = (k = 4) := tp_eq (by omega) (by decide)
      have hq : tp_lq now (tp_cl (nI n)) (tp_cl (nI k)) = if k = 4 then (if now (49 + 4 * n) ≤ 0 then 0 else 1) else now (48 + 4 * n + k) := by
        unfold tp_lq tp_cl
        rw [tp_cn (by omega), tp_cn (by omega)]
      simp only [e4, hq]
      by_cases c : k = 4
      · rw [if_pos c, tp_tv (F := f10_ofLamp (m + 2) (nI n) 1) vM.2.2.1 (tr_la1 (by omega)), tp_b2S]
        simp only [if_pos c]
        by_cases c2 : now (49 + 4 * n) ≤ 0
        · rw [if_pos c2]
          exact ⟨_, rfl, tp_QQy (by rw [if_pos c2]) v0 vF vM⟩
        · rw [if_neg c2]
          exact ⟨_, rfl, tp_QQy (by rw [if_neg c2]) v0 vF vM⟩
      · rw [if_neg c, tp_tv (F := f10_ofLamp (m + 2) (nI n) (nI k)) vM.2.2.1 (tr_ofLamp (by omega) rfl (by omega)), tp_b2S]
        simp only [if_neg c]
        exact ⟨_, rfl, tp_QQy rfl v0 vF vM⟩
theorem tm_orderOf (h : tp_MI m len tx now hn hist sl kp u) (hs : tp_SO len tx now hn hist sl kp) {g w : Int32} :
    tp_T (f10_orderOf m g w u) (fun p => if tp_io now g = true then (if tp_iw w 0 3 = true then tp_QQ m u 0 (now (80 + 4 * tp_cl g + tp_cl w)) len tx now hn hist sl kp p else tp_QQ m u 2 0 len tx now hn hist sl kp p) else tp_QQ m u 1 0 len tx now hn hist sl kp p) := by
  have hO := hs.2.2.1.1
  unfold f10_orderOf
  rw [h.2.2.1, tp_in_l (y := 0) (Y := 0) (by decide) rfl, tp_b2S, tp_iw_m (tp_r8 hO).1 (by have := (tp_r8 hO).2; omega), tp_if0]
  show tp_T (if tp_io now g = true then _ else _) _
  rcases e : tp_io now g with _ | _
  · simp only [Bool.false_eq_true, if_false]
    unfold f10_orderOf_p41
    exact tm_no (c := 1) rfl (by decide) (by decide) h (fun v => tp_QQn (by decide))
  · simp only [if_true]
    rw [tp_in_l (y := 0) (z := 3) (Y := 0) (Z := 3) (by decide) (by decide), tp_b2S, tp_if0]
    rcases e2 : tp_iw w 0 3 with _ | _
    · simp only [Bool.false_eq_true, if_false]
      unfold f10_orderOf_p41
      exact tm_no (c := 2) rfl (by decide) (by decide) h (fun v => tp_QQn (by decide))
    · simp only [if_true]
      obtain ⟨n, n1, rfl⟩ := (tp_io_N hO).mp e
      obtain ⟨k, -, k2, rfl⟩ := tp_iw_N (L := 0) (B := 3) rfl rfl (by decide) (by decide) e2
      have b0 := (tp_r8 hO).2
      unfold f10_orderOf_p41
      refine tm_yes h (fun v v0 vF vM => ?_)
      rw [tp_tv (F := f10_ofOrder (m + 2) (nI n) (nI k)) vM.2.2.1 (tr_ofOrder (by omega) rfl (by omega)), tp_b2S]
      refine ⟨_, rfl, tp_QQy ?_ v0 vF vM⟩
      unfold tp_cl
      rw [tp_cn (by omega), tp_cn (by omega)]
/-- the trial becomes the present state -/
theorem tm_cpt (h : tp_MI m len tx now hn hist sl kp u) (hs : tp_SO len tx now hn hist sl kp) : f10_copyState (m + 2) 104 0 (m + 3) 104 0 u = some (tp_w u (m + 3) now) := by
  rw [tr_copy (x := 0) (y := 0) (s := 0) (d := 0) rfl rfl (by omega) (by omega) (by omega) (by decide) (by decide), h.2.2.1, tp_cp_row (tp_rng_z hs.2.2.1.1) h.2.2.2.1]
theorem tp_W_gn : ∀ (n k : Nat) {r : tp_R}, tp_Os r → tp_W r ≤ n → n ≤ k → tp_gn k r = tp_gn n r
  | 0, k, r, h, hw, _ => by
    have c := tp_W_0 h (by omega)
    cases k with
    | zero => rfl
    | succ k =>
      show (if r 8 ≤ 0 then 0 else _) = 0
      rw [if_pos c]
  | n + 1, 0, _, _, _, hk => absurd hk (by omega)
  | n + 1, k + 1, r, h, hw, hk => by
    unfold tp_gn
    split
    · rfl
    · have := tp_W_st h ‹_›
      rw [tp_W_gn n k (tp_Os_hal (tp_Os_st h ‹_›)) (by omega) (by omega)]
theorem tp_gn_s (n : Nat) (r : tp_R) : tp_gn (n + 1) r = if r 8 ≤ 0 then 0 else tp_gn n (tp_hal (tp_st r)) + 1 := rfl
theorem tr_left {t : tp_R} : ∀ (n f k : Nat) {t : tp_R}, tp_Os t → tp_W t ≤ n → n < f → ∃ t' : tp_R, tp_Ok t' ∧ f10_stepsLeft_p22 f m (nI k) (tp_w u (m + 3) t) = some (nI (k + tp_gn n t), tp_w u (m + 3) t')
  | _, 0, _, _, _, _, h => absurd h (Nat.not_lt_zero _)
  | n, f + 1, k, t, h, hw, hf => by
    unfold f10_stepsLeft_p22
    rw [tp_wg]
    by_cases c : t 8 ≤ 0
    · rw [if_pos c]
      refine ⟨t, h.1, ?_⟩
      have : tp_gn n t = 0 := by
        cases n with
        | zero => rfl
        | succ n => unfold tp_gn; rw [if_pos c]
      rw [this]; rfl
    · have hk := tp_Os_st h c
      rw [if_neg c, tr_step h.1 ((tp_pos h.1).mp c), tp_bS, tp_L, tr_handleAll hk, tp_bS, nI_1]
      cases n with
      | zero => exact absurd (tp_W_0 h (by omega)) c
      | succ n =>
        have hw2 := tp_W_st h c
        obtain ⟨t', e1, e2⟩ := tr_left (t := t) n f (k + 1) (tp_Os_hal hk) (by omega) (by omega)
        refine ⟨t', e1, ?_⟩
        rw [e2, tp_gn_s, if_neg c, show k + 1 + tp_gn n (tp_hal (tp_st t)) = k + (tp_gn n (tp_hal (tp_st t)) + 1) by omega]
theorem tm_lad (h : tp_MI m len tx now hn hist sl kp u) (hs : tp_SO len tx now hn hist sl kp) {w : Int32} :
    tp_T (f10_lad m w u) (fun p => if tp_iw w 0 3 = true then tp_QQ m u 0 (tp_dq now (tp_cl w)) len tx now hn hist sl kp p else tp_QQ m u 1 0 len tx now hn hist sl kp p) := by
  have hO := hs.2.2.1
  unfold f10_lad
  rw [tp_in_l (y := 0) (z := 3) (Y := 0) (Z := 3) (by decide) (by decide), tp_b2S, tp_if0]
  rcases e : tp_iw w 0 3 with _ | _
  · simp only [Bool.false_eq_true, if_false]
    unfold f10_lad_p18
    exact tm_no (c := 1) rfl (by decide) (by decide) h (fun v => tp_QQn (by decide))
  · simp only [if_true]
    obtain ⟨n, -, n2, rfl⟩ := tp_iw_N (L := 0) (B := 3) rfl rfl (by decide) (by decide) e
    unfold f10_lad_p18
    refine tm_yes h (fun v v0 vF vM => ?_)
    rw [vM.2.2.1]
    have hcl : tp_cl (nI n) = n := tp_cn (by omega)
    rw [hcl]
    have hc : n = 0 ∨ n = 1 ∨ n = 2 ∨ n = 3 := by omega
    rcases hc with rfl | rfl | rfl | rfl
    · rw [if_pos (by decide)]
      exact ⟨_, rfl, tp_QQy rfl v0 vF vM⟩
    · rw [if_neg (by decide), if_pos (by decide)]
      exact ⟨_, rfl, tp_QQy rfl v0 vF vM⟩
    · rw [if_neg (by decide), if_neg (by decide), if_pos (by decide)]
      exact ⟨_, rfl, tp_QQy rfl v0 vF vM⟩
    · rw [if_neg (by decide), if_neg (by decide), if_neg (by decide)]
      unfold f10_stepsLeft
      have hk := tp_Os_hal hO
      obtain ⟨t', e1, e2⟩ := tr_left (u := v) (m := m) (t := now) 1440 tl_F 0 hk (tp_W_le hk.1) (by unfold tl_F; omega)
      rw [tm_cpt vM hs, tp_bS, tr_handleAll hO, tp_bS, show (0 : Int32) = nI 0 from rfl, e2, tp_b2S]
      refine ⟨_, rfl, tp_QQy ?_ ?_ (tp_FM_w vF (by omega) (by omega)) (tp_MI_t vM (tp_rng_z e1.1))⟩
      · rw [Nat.zero_add]; rfl
      · rw [tp_wgn (by omega)]; exact v0
theorem tm_lit_l (h : tp_MI m len tx now hn hist sl kp u) (hs : tp_SO len tx now hn hist sl kp) {g : Nat} (hg : g < 3) : ∀ (f i : Nat), i ≤ tp_cl (now (18 + 2 * g)) → tp_cl (now (18 + 2 * g)) - i < f → f10_lit_p44 f m (nI g) (nI (tp_cnt (fun c => tp_lit now (nI g) (nI c)) i)) (nI i) u = some (nI (tp_litn now g), u)
  | 0, _, _, h2 => absurd h2 (Nat.not_lt_zero _)
  | f + 1, i, h1, h2 => by
    have hO := hs.2.2.1.1
    have hM := h.2.2.1
    obtain ⟨n, n2, n1, n3⟩ := tp_xx (tp_rga hO hg)
    have ih := fun q q2 => tm_lit_l h hs hg f (i + 1) q q2
    unfold tp_cl at h1 h2
    rw [n3] at h1 h2
    unfold f10_lit_p44
    rw [tp_tv (F := f10_depth (m + 2) (nI g)) hM (tr_depth hg), tp_b2S, n1]
    have ele : (nI n ≤ nI i) = (n ≤ i) := tp_le (by omega) (by omega)
    simp only [ele]
    by_cases c : n ≤ i
    · rw [if_pos c]
      unfold tp_litn tp_cl
      rw [n3, show n = i by omega]
    · rw [if_neg c, tp_tv (F := f10_isLit (m + 2) (nI g) (nI i)) hM (tr_isLit hO rfl (by omega)), tp_b2S, tp_if0]
      have ih := ih (by unfold tp_cl; omega) (by unfold tp_cl; omega)
      have hs1 : tp_cnt (fun c => tp_lit now (nI g) (nI c)) (i + 1) = tp_cnt (fun c => tp_lit now (nI g) (nI c)) i + (if tp_lit now (nI g) (nI i) = true then 1 else 0) := rfl
      rw [hs1] at ih
      rcases q : tp_lit now (nI g) (nI i) with _ | _
      · rw [if_neg (by decide), tp_L, tp_L, nI_1, tp_p0]
        rw [q, if_neg (by decide)] at ih
        exact ih
      · rw [if_pos rfl, tp_L, tp_L, nI_1, nI_1]
        rw [q, if_pos rfl] at ih
        exact ih
theorem tm_lit (h : tp_MI m len tx now hn hist sl kp u) (hs : tp_SO len tx now hn hist sl kp) {g w : Int32} :
    tp_T (f10_lit m g w u) (fun p => if tp_ig now g = true then (if tp_iw w 0 1 = true then tp_QQ m u 0 (nI (tp_litn now (tp_cl g))) len tx now hn hist sl kp p else tp_QQ m u 2 0 len tx now hn hist sl kp p) else tp_QQ m u 1 0 len tx now hn hist sl kp p) := by
  have hO := hs.2.2.1.1
  unfold f10_lit
  rw [tp_tv (F := f10_isGallery (m + 2) g) h.2.2.1 (tr_isGallery hO), tp_b2S, tp_if0]
  rcases e : tp_ig now g with _ | _
  · simp only [Bool.false_eq_true, if_false]
    unfold f10_lit_p31
    exact tm_no (c := 1) rfl (by decide) (by decide) h (fun v => tp_QQn (by decide))
  · simp only [if_true]
    rw [tp_in_l (y := 0) (z := 1) (Y := 0) (Z := 1) (by decide) (by decide), tp_b2S, tp_if0]
    rcases e2 : tp_iw w 0 1 with _ | _
    · simp only [Bool.false_eq_true, if_false]
      unfold f10_lit_p31
      exact tm_no (c := 2) rfl (by decide) (by decide) h (fun v => tp_QQn (by decide))
    · simp only [if_true]
      obtain ⟨n, n1, rfl⟩ := (tp_ig_N hO).mp e
      have b0 := (tp_r0 hO).2
      unfold f10_lit_p31
      refine tm_yes h (fun v v0 vF vM => ?_)
      rw [show (0 : Int32) = nI 0 from rfl]
      refine ⟨_, tm_lit_l vM hs (show n < 3 by omega) tl_F 0 (Nat.zero_le _) (by have := (tp_rga hO (show n < 3 by omega)).2; unfold tl_F; omega), tp_QQy ?_ v0 vF vM⟩
      unfold tp_cl
      rw [tp_cn (by omega)]
theorem tm_steps (h : tp_MI m len tx now hn hist sl kp u) (hs : tp_SO len tx now hn hist sl kp) {g c g2 c2 : Int32} :
    tp_T (f10_steps m g c g2 c2 u) (fun p => if (tp_ic now g c && tp_ic now g2 c2) = true then tp_QQ m u 0 (tp_bt g c g2 c2) len tx now hn hist sl kp p else tp_QQ m u 1 0 len tx now hn hist sl kp p) := by
  have hO := hs.2.2.1.1
  unfold f10_steps
  rw [tp_tv (F := f10_isCell (m + 2) g c) h.2.2.1 (tr_isCell hO), tp_b2S, tp_if0]
  rcases e : tp_ic now g c with _ | _
  · simp only [Bool.false_eq_true, if_false, Bool.false_and]
    exact tm_no (c := 1) rfl (by decide) (by decide) h (fun v => tp_QQn (by decide))
  · simp only [if_true, Bool.true_and]
    rw [tp_tv (F := f10_isCell (m + 2) g2 c2) h.2.2.1 (tr_isCell hO), tp_b2S, tp_if0]
    rcases e2 : tp_ic now g2 c2 with _ | _
    · simp only [Bool.false_eq_true, if_false]
      exact tm_no (c := 1) rfl (by decide) (by decide) h (fun v => tp_QQn (by decide))
    · simp only [if_true]
      refine tm_yes h (fun v v0 vF vM => ?_)
      rw [tr_between, tp_b2S]
      exact ⟨_, rfl, tp_QQy rfl v0 vF vM⟩
end TQB
