/-! The reference's answers: what would be; slots. -/
def tp_dkn (g : Nat) : Nat → Nat → tp_R → Int32
  | 0, _, _ => -1
  | n + 1, i, r => if tp_lit r (nI g) (r (18 + 2 * g)) = true then tp_dkn g n (i + 1) (tp_hour r) else nI i
def tp_dnn : Nat → Nat → tp_R → Int32
  | 0, _, _ => -1
  | n + 1, i, r => if r 8 = 0 then nI i else tp_dnn n (i + 1) (tp_hour r)
/-- the best cell so far, and what is dug then -/
def tp_bd (r : tp_R) (l g n c : Nat) : Int32 := tp_hrs n (tp_oo r 0 (nI l) (nI g) (nI c)) 10 - tp_oo r 0 (nI l) (nI g) (nI c) 10
def tp_bc (r : tp_R) (l g n : Nat) : Nat → Int32 × Int32
  | 0 => (-1, 0)
  | c + 1 => if tp_bd r l g n c < (tp_bc r l g n c).2 then tp_bc r l g n c else (nI c, tp_bd r l g n c)
/-- a script, from its group k on, j groups left -/
def tp_srn (S : Nat) : Nat → Nat → tp_R → Int32
  | 0, _, _ => -1
  | j + 1, k, r =>
    if (tp_scr (S / 1000000 ^ j % 1000000 / 100000) (S / 1000000 ^ j % 1000000 % 100000) r).1 = true then tp_srn S j (k + 1) (tp_scr (S / 1000000 ^ j % 1000000 / 100000) (S / 1000000 ^ j % 1000000 % 100000) r).2 else nI k
def tp_sx (x : Int64) : Int64 := (x * 6364136223846793005) + 1442695040888963407
def tp_sR (x : Int64) : Int32 := (((x).toUInt64 >>> ((33 : Int32).toInt64.toUInt64 &&& Int64.toUInt64 63)).toInt64 : Int64).toInt32
def tp_sm : Nat → Int64 → tp_R → tp_R
  | 0, _, r => r
  | n + 1, x, r => tp_sm n (tp_sx x) (tp_turn (tp_cl (tp_sR (tp_sx x)) % 16) (tp_cl (tp_sR (tp_sx x)) / 16) r)
def tp_sq2 (r now : tp_R) : Int32 := (1000 * (r 10 - now 10)) + (if r 9 - now 9 ≤ 999 then r 9 - now 9 else 999)
theorem tp_sR_N (x : Int64) : ∃ R, R < 2147483648 ∧ tp_sR x = nI R := by
  have hs : ((33 : Int32).toInt64.toUInt64 &&& Int64.toUInt64 63) = 33 := by decide +kernel
  unfold tp_sR
  rw [hs]
  have hy : (x.toUInt64 >>> (33 : UInt64)).toNat = x.toUInt64.toNat / 2 ^ 33 := by
    rw [UInt64.toNat_shiftRight, Nat.shiftRight_eq_div_pow]
    congr 2
  have hx := x.toUInt64.toNat_lt
  generalize x.toUInt64 >>> (33 : UInt64) = y at hy ⊢
  have e : y.toInt64 = lN y.toNat := Int64.toBitVec_inj.mp (by show y.toBitVec = BitVec.ofNat 64 y.toBitVec.toNat; simp)
  exact ⟨y.toNat, by omega, by rw [e, lN_i]⟩
theorem tp_Ok_sm : ∀ (n : Nat) (x : Int64) {r : tp_R}, tp_Ok r → tp_Ok (tp_sm n x r)
  | 0, _, _, h => h
  | n + 1, x, r, h => by
    unfold tp_sm
    exact tp_Ok_sm n _ (tp_Ok_turn h)
section TQD
variable {m len : Nat} {tx now : tp_R} {hn : Nat} {hist : Nat → tp_R} {sl : Nat → Bool} {kp : Nat → tp_R} {u : tl_S}
theorem tm_undo (h : tp_MI m len tx now hn hist sl kp u) (hs : tp_SO len tx now hn hist sl kp) :
    tp_T (f10_undo m u) (fun p => if hn = 0 then tp_QQ m u 1 0 len tx now hn hist sl kp p else tp_QQ m u 0 (nI (hn - 1)) len tx (hist (hn - 1)) (hn - 1) hist sl kp p) := by
  unfold f10_undo
  have h6 := h.2.2.2.2.1
  have hb := hs.2.2.2.1
  by_cases c : hn = 0
  · rw [if_pos (by rw [h6, c]; rfl)]
    simp only [if_pos c]
    unfold f10_undo_p13
    exact tm_no (c := 1) rfl (by decide) (by decide) h (fun v => tp_QQn (by decide))
  · rw [if_neg (by rw [h6]; intro z; exact c ((tp_eq (by omega) (by decide)).mp (z.trans tp_k0)))]
    simp only [if_neg c]
    unfold f10_undo_p13
    refine tm_yes h (fun v v0 vF vM => ?_)
    obtain ⟨a1, a2, a3, a4, a5, a6, a7, a8⟩ := vM
    rw [tp_L, tp_tw, a5, tp_k1, tp_sb (by omega)]
    have g6 : (tp_w v m (tp_up (v.1 m) 6 (nI (hn - 1)))).1 m 6 = nI (hn - 1) := by rw [tp_wg, tp_us]
    have g4 : (tp_w v m (tp_up (v.1 m) 6 (nI (hn - 1)))).1 (m + 4) = v.1 (m + 4) := tp_wgn (by omega)
    have g2 : (tp_w v m (tp_up (v.1 m) 6 (nI (hn - 1)))).1 (m + 2) = now := (tp_wgn (by omega)).trans a3
    rw [g6, tp_k104, pk_mul, tr_copy (x := nI (104 * (hn - 1))) (y := 0) (s := 104 * (hn - 1)) (d := 0) rfl rfl (by omega) (by omega) (by omega) (by decide) (by decide), g4, g2, tp_bS]
    have er : tp_cp (104 * (hn - 1)) 0 104 (v.1 (m + 4)) now = hist (hn - 1) := by
      funext j
      unfold tp_cp
      by_cases q : j < 104
      · rw [if_pos (by omega), show 104 * (hn - 1) + (j - 0) = 104 * (hn - 1) + j by omega]
        exact a6 (hn - 1) (by omega) j q
      · rw [if_neg (by omega), tp_rng_z hs.2.2.1.1 j (by omega), tp_rng_z (hs.2.2.2.2.1 (hn - 1) (by omega)).1 j (by omega)]
    rw [er]
    refine ⟨_, rfl, tp_QQy ?_ ?_ ?_ ⟨?_, ?_, ?_, ?_, ?_, ?_, ?_, ?_⟩⟩
    · rw [tp_wgn (by omega)]; exact g6
    · rw [tp_wgn (by omega), tp_wg, tp_un (by decide)]; exact v0
    · exact tp_FM_w (tp_FM_w vF (Nat.le_refl m) (by omega)) (by omega) (by omega)
    · rw [tp_wgn (by omega), tp_wg, tp_un (by decide)]; exact a1
    · rw [tp_wgn (by omega), tp_wgn (by omega)]; exact a2
    · rw [tp_wg]
    · rw [tp_wgn (by omega), tp_wgn (by omega)]; exact a4
    · rw [tp_wgn (by omega)]; exact g6
    · intro i hi j hj
      rw [tp_wgn (by omega), tp_wgn (by omega)]
      exact a6 i (by omega) j hj
    · rw [tp_wgn (by omega), tp_wgn (by omega)]; exact a7
    · rw [tp_wgn (by omega), tp_wgn (by omega)]; exact a8
theorem tr_dark {g : Nat} (hg : g < 3) : ∀ (n f i : Nat) {t : tp_R}, tp_Ok t → i + n = 201 → n < f → ∃ t' : tp_R, tp_Ok t' ∧ f10_darkIn_p40 f m (nI g) (nI i) (tp_w u (m + 3) t) = some (tp_dkn g n i t, tp_w u (m + 3) t')
  | _, 0, _, _, _, _, h => absurd h (Nat.not_lt_zero _)
  | 0, f + 1, i, t, h, hi, _ => by
    refine ⟨t, h, ?_⟩
    unfold f10_darkIn_p40
    rw [if_pos (by rw [tp_k200, tp_lt (by decide) (by omega)]; omega)]; rfl
  | n + 1, f + 1, i, t, h, hi, hf => by
    obtain ⟨d, d2, d1, -⟩ := tp_xx (tp_rga h.1 hg)
    unfold f10_darkIn_p40 tp_dkn
    rw [if_neg (by rw [tp_k200, tp_lt (by decide) (by omega)]; omega), tr_depth hg, tp_b2S, tr_isLit h.1 d1 (by omega), tp_b2S, tp_if0]
    rcases e : tp_lit t (nI g) (t (18 + 2 * g)) with _ | _
    · rw [if_neg (by decide), if_neg (by decide)]
      exact ⟨t, h, rfl⟩
    · rw [if_pos rfl, if_pos rfl, tr_hour h, tp_bS, tp_L, nI_1]
      exact tr_dark hg n f (i + 1) (tp_Ok_hour h) (by omega) (by omega)
theorem tm_darkIn (h : tp_MI m len tx now hn hist sl kp u) (hs : tp_SO len tx now hn hist sl kp) {g : Int32} :
    tp_T (f10_darkIn m g u) (fun p => if tp_ig now g = true then tp_QQ m u 0 (tp_dkn (tp_cl g) 201 0 now) len tx now hn hist sl kp p else tp_QQ m u 1 0 len tx now hn hist sl kp p) := by
  have hO := hs.2.2.1
  unfold f10_darkIn
  rw [tp_tv (F := f10_isGallery (m + 2) g) h.2.2.1 (tr_isGallery hO.1), tp_b2S, tp_if0]
  rcases e : tp_ig now g with _ | _
  · simp only [Bool.false_eq_true, if_false]
    exact tm_no (c := 1) rfl (by decide) (by decide) h (fun v => tp_QQn (by decide))
  · simp only [if_true]
    obtain ⟨n, n1, rfl⟩ := (tp_ig_N hO.1).mp e
    have b0 := (tp_r0 hO.1).2
    refine tm_yes h (fun v v0 vF vM => ?_)
    obtain ⟨t', e1, e2⟩ := tr_dark (u := v) (m := m) (show n < 3 by omega) 201 tl_F 0 hO rfl (by unfold tl_F; omega)
    rw [tm_cpt vM hs, tp_bS, show (0 : Int32) = nI 0 from rfl, e2]
    refine ⟨_, rfl, tp_QQy ?_ ?_ (tp_FM_w vF (by omega) (by omega)) (tp_MI_t vM (tp_rng_z e1.1))⟩
    · unfold tp_cl
      rw [tp_cn (by omega)]
    · rw [tp_wgn (by omega)]; exact v0
theorem tm_depthIn (h : tp_MI m len tx now hn hist sl kp u) (hs : tp_SO len tx now hn hist sl kp) {g n : Int32} :
    tp_T (f10_depthIn m g n u) (fun p => if tp_ig now g = true then (if tp_iw n 1 200 = true then tp_QQ m u 0 (tp_hrs (tp_cl n) now (18 + 2 * tp_cl g)) len tx now hn hist sl kp p else tp_QQ m u 2 0 len tx now hn hist sl kp p) else tp_QQ m u 1 0 len tx now hn hist sl kp p) := by
  have hO := hs.2.2.1
  unfold f10_depthIn
  rw [tp_tv (F := f10_isGallery (m + 2) g) h.2.2.1 (tr_isGallery hO.1), tp_b2S, tp_if0]
  rcases e : tp_ig now g with _ | _
  · simp only [Bool.false_eq_true, if_false]
    unfold f10_depthIn_p33
    exact tm_no (c := 1) rfl (by decide) (by decide) h (fun v => tp_QQn (by decide))
  · simp only [if_true]
    rw [tp_in_l (y := 1) (z := 200) (Y := 1) (Z := 200) (by decide) (by decide), tp_b2S, tp_if0]
    rcases e2 : tp_iw n 1 200 with _ | _
    · simp only [Bool.false_eq_true, if_false]
      unfold f10_depthIn_p33
      exact tm_no (c := 2) rfl (by decide) (by decide) h (fun v => tp_QQn (by decide))
    · simp only [if_true]
      obtain ⟨g, g1, rfl⟩ := (tp_ig_N hO.1).mp e
      obtain ⟨n, -, n2, rfl⟩ := tp_iw_N (L := 1) (B := 200) rfl rfl (by decide) (by decide) e2
      have b0 := (tp_r0 hO.1).2
      unfold f10_depthIn_p33
      refine tm_yes h (fun v v0 vF vM => ?_)
      rw [tm_cpt vM hs, tp_bS, tr_hours hO (by omega), tp_b2S, tr_depth (by omega), tp_b2S]
      refine ⟨_, rfl, tp_QQy ?_ ?_ (tp_FM_w vF (by omega) (by omega)) (tp_MI_t vM (tp_rng_z (tp_Ok_hrs n hO).1))⟩
      · unfold tp_cl
        rw [tp_cn (by omega), tp_cn (by omega)]
      · rw [tp_wgn (by omega)]; exact v0
theorem tr_done : ∀ (n f i : Nat) {t : tp_R}, tp_Ok t → i + n = 201 → n < f → ∃ t' : tp_R, tp_Ok t' ∧ f10_doneIn_p28 f m (nI i) (tp_w u (m + 3) t) = some (tp_dnn n i t, tp_w u (m + 3) t')
  | _, 0, _, _, _, _, h => absurd h (Nat.not_lt_zero _)
  | 0, f + 1, i, t, h, hi, _ => by
    refine ⟨t, h, ?_⟩
    unfold f10_doneIn_p28
    rw [if_pos (by rw [tp_k200, tp_lt (by decide) (by omega)]; omega)]; rfl
  | n + 1, f + 1, i, t, h, hi, hf => by
    unfold f10_doneIn_p28 tp_dnn
    rw [if_neg (by rw [tp_k200, tp_lt (by decide) (by omega)]; omega), tp_wg]
    by_cases c : t 8 = 0
    · rw [if_pos c, if_pos c]
      exact ⟨t, h, rfl⟩
    · rw [if_neg c, if_neg c, tr_hour h, tp_bS, tp_L, nI_1]
      exact tr_done n f (i + 1) (tp_Ok_hour h) (by omega) (by omega)
theorem tm_doneIn (h : tp_MI m len tx now hn hist sl kp u) (hs : tp_SO len tx now hn hist sl kp) :
    tp_T (f10_doneIn m u) (tp_QQ m u 0 (tp_dnn 201 0 (tp_up now 17 0)) len tx now hn hist sl kp) := by
  have hO := hs.2.2.1
  unfold f10_doneIn
  rw [tp_tw, tp_L]
  have vM : tp_MI m len tx now hn hist sl kp (tp_w u m (tp_up (u.1 m) 0 0)) := tp_MI_r h
  have hO2 : tp_Ok (tp_up now 17 0) := tp_Ok_up hO (tp_inN (n := 0) rfl rfl (by decide)) (by unfold tp_fr; omega)
  obtain ⟨t', e1, e2⟩ := tr_done (u := tp_w u m (tp_up (u.1 m) 0 0)) (m := m) 201 tl_F 0 hO2 rfl (by unfold tl_F; omega)
  rw [nI_0] at e2
  rw [tm_cpt vM hs, tp_bS, tp_wu, tp_L, e2]
  refine ⟨_, rfl, tp_QQy rfl ?_ (tp_FM_w (tp_FM_w (tp_FM_rf m u) (Nat.le_refl m) (by omega)) (by omega) (by omega)) (tp_MI_t vM (tp_rng_z e1.1))⟩
  rw [tp_wgn (by omega), tp_wg, tp_us]
theorem tp_Ok_ob (hO : tp_Ok now) {l g c : Nat} (hl : l < tp_cl (now 2)) (hg : g < tp_cl (now 0)) (hc : c < tp_cl (now (18 + 2 * g))) (h8 : tp_cl (now 8) < 6) : tp_Ok (tp_oo now 0 (nI l) (nI g) (nI c)) := by
  have b0 := (tp_r0 hO.1).2
  have bd := (tp_rga hO.1 (show g < 3 by omega)).2
  exact tp_Ok_oo hO h8 rfl hl (Or.inl ⟨rfl, g, c, rfl, by omega, rfl, by omega⟩)
theorem tp_bd_N (hO : tp_Ok now) {l g n c : Nat} (hl : l < tp_cl (now 2)) (hg : g < tp_cl (now 0)) (hc : c < tp_cl (now (18 + 2 * g))) (h8 : tp_cl (now 8) < 6) : ∃ k, k ≤ 180 ∧ tp_bd now l g n c = nI k := tp_hrs_dug n (tp_Ok_ob hO hl hg hc h8)
theorem tp_bc_1 (hO : tp_Ok now) {l g n : Nat} (hl : l < tp_cl (now 2)) (hg : g < tp_cl (now 0)) (h8 : tp_cl (now 8) < 6) : ∀ c, c ≤ tp_cl (now (18 + 2 * g)) → (c = 0 ∨ ∃ b, b < c ∧ (tp_bc now l g n c).1 = nI b)
  | 0, _ => Or.inl rfl
  | c + 1, hc => by
    refine Or.inr ?_
    unfold tp_bc
    by_cases q : tp_bd now l g n c < (tp_bc now l g n c).2
    · rw [if_pos q]
      rcases tp_bc_1 hO hl hg h8 c (by omega) with z | ⟨b, b1, b2⟩
      · subst z
        obtain ⟨k, k1, k2⟩ := tp_bd_N (n := n) hO hl hg (show 0 < tp_cl (now (18 + 2 * g)) by omega) h8
        rw [k2] at q
        exact absurd q (by show ¬ nI k < 0; rw [tp_neg (by omega)]; exact id)
      · exact ⟨b, by omega, b2⟩
    · rw [if_neg q]
      exact ⟨c, by omega, rfl⟩
theorem tm_best_l (hs : tp_SO len tx now hn hist sl kp) {l g n : Nat} (hl : l < tp_cl (now 2)) (hg : g < tp_cl (now 0)) (hn1 : n ≤ 100) (h8 : tp_cl (now 8) < 6) : ∀ (f c : Nat) {v : tl_S}, tp_MI m len tx now hn hist sl kp v → c ≤ tp_cl (now (18 + 2 * g)) → tp_cl (now (18 + 2 * g)) - c < f →
    ∃ w, f10_bestCell_p77 f m (nI l) (nI g) (nI n) (tp_bc now l g n c).1 (tp_bc now l g n c).2 (nI c) v = some ((tp_bc now l g n (tp_cl (now (18 + 2 * g)))).1, w) ∧ w.1 m = v.1 m ∧ tp_FM m v w ∧ tp_MI m len tx now hn hist sl kp w
  | 0, _, _, _, _, h => absurd h (Nat.not_lt_zero _)
  | f + 1, c, v, vM, h1, h2 => by
    have hO := hs.2.2.1
    have b0 := (tp_r0 hO.1).2
    have hg3 : g < 3 := by omega
    obtain ⟨d, d2, d1, d3⟩ := tp_xx (tp_rga hO.1 hg3)
    have ih := fun (v : tl_S) (q : tp_MI m len tx now hn hist sl kp v) a b => tm_best_l hs hl hg hn1 h8 f (c + 1) q a b
    unfold f10_bestCell_p77
    rw [tp_tv (F := f10_depth (m + 2) (nI g)) vM.2.2.1 (tr_depth hg3), tp_b2S]
    have ele : (now (18 + 2 * g) ≤ nI c) = (d ≤ c) := by rw [d1]; exact tp_le (by omega) (by unfold tp_cl at h1; omega)
    simp only [ele]
    have hcd : tp_cl (now (18 + 2 * g)) = d := d3
    rw [hcd] at h1 h2 ih ⊢
    by_cases q : d ≤ c
    · rw [if_pos q, show c = d by omega]
      exact ⟨v, rfl, rfl, tp_FM_rf m v, vM⟩
    · rw [if_neg q, tm_cpt vM hs, tp_bS, tr_orderOn hO.1 h8, tp_b2S]
      have K := tp_Ok_ob hO hl hg (c := c) (by rw [hcd]; omega) h8
      rw [tr_hours K (by omega), tp_b2S]
      have wM := tp_MI_t vM (tp_rng_z (tp_Ok_hrs n K).1)
      obtain ⟨w, e1, e2, e3, e4⟩ := ih _ wM (by omega) (by omega)
      have hst : tp_bc now l g n (c + 1) = if tp_bd now l g n c < (tp_bc now l g n c).2 then tp_bc now l g n c else (nI c, tp_bd now l g n c) := rfl
      rw [hst] at e1
      refine ⟨w, ?_, ?_, ?_, e4⟩
      · show (if (tp_bc now l g n c).1 = -1 then _ else if tp_bd now l g n c < (tp_bc now l g n c).2 then _ else _ : Option (Int32 × tl_S)) = _
        simp only [tp_ite0, tp_ite1, tp_L, nI_1, if_true, if_false]
        rcases tp_bc_1 hO hl hg h8 (n := n) c (by rw [hcd]; omega) with z | ⟨b, b1, b2⟩
        · subst z
          obtain ⟨k, k1, k2⟩ := tp_bd_N (n := n) hO hl hg (c := 0) (by rw [hcd]; omega) h8
          have : ¬ tp_bd now l g n 0 < (tp_bc now l g n 0).2 := by rw [k2]; show ¬ nI k < 0; rw [tp_neg (by omega)]; exact id
          rw [if_neg this] at e1
          rw [if_pos (show (tp_bc now l g n 0).1 = -1 from rfl)]
          exact e1
        · rw [if_neg (by rw [b2]; exact fun y => (tp_m1n (by omega)).mp y)]
          by_cases q2 : tp_bd now l g n c < (tp_bc now l g n c).2
          · rw [if_pos q2] at e1 ⊢
            exact e1
          · rw [if_neg q2] at e1 ⊢
            exact e1
      · rw [e2, tp_wgn (by omega)]
      · exact tp_FM_tr (tp_FM_w (tp_FM_rf m v) (by omega) (by omega)) e3
theorem tm_bestCell (h : tp_MI m len tx now hn hist sl kp u) (hs : tp_SO len tx now hn hist sl kp) {l g n : Int32} :
    tp_T (f10_bestCell m l g n u) (fun p => tp_QQ m u (tp_ro (tp_il now l && tp_ig now g) (tp_iw n 1 100) (!decide (6 ≤ now 8))) (tp_bc now (tp_cl l) (tp_cl g) (tp_cl n) (tp_cl (now (18 + 2 * tp_cl g)))).1 len tx now hn hist sl kp p) := by
  have hO := hs.2.2.1
  unfold f10_bestCell
  rw [tp_tv (F := f10_isLamp (m + 2) l) h.2.2.1 (tr_isLamp hO.1), tp_b2S, tp_if0]
  rcases e : tp_il now l with _ | _
  · rw [if_neg (by decide)]
    unfold f10_bestCell_p60
    exact tm_no (c := 1) rfl (by decide) (by decide) h (fun v => tp_QQn (by decide))
  · rw [if_pos rfl, tp_tv (F := f10_isGallery (m + 2) g) h.2.2.1 (tr_isGallery hO.1), tp_b2S, tp_if0]
    rcases e2 : tp_ig now g with _ | _
    · rw [if_neg (by decide)]
      unfold f10_bestCell_p60
      exact tm_no (c := 1) rfl (by decide) (by decide) h (fun v => tp_QQn (by decide))
    · rw [if_pos rfl, tp_in_l (y := 1) (z := 100) (Y := 1) (Z := 100) (by decide) (by decide), tp_b2S, tp_if0]
      rcases e3 : tp_iw n 1 100 with _ | _
      · rw [if_neg (by decide)]
        unfold f10_bestCell_p60
        exact tm_no (c := 2) rfl (by decide) (by decide) h (fun v => tp_QQn (by decide))
      · rw [if_pos rfl, h.2.2.1]
        by_cases c : 6 ≤ now 8
        · rw [if_pos c, decide_eq_true c]
          unfold f10_bestCell_p60
          exact tm_no (c := 3) rfl (by decide) (by decide) h (fun v => tp_QQn (by decide))
        · rw [if_neg c]
          have hc : (!decide (6 ≤ now 8)) = true := by simp [c]
          have h8 : tp_cl (now 8) < 6 := (tp_ge_N (tp_r8 hO.1).1 (by have := (tp_r8 hO.1).2; omega) tp_k6 (by decide)).mp hc
          rw [hc]
          obtain ⟨l, l1, rfl⟩ := (tp_il_N hO.1).mp e
          obtain ⟨g, g1, rfl⟩ := (tp_ig_N hO.1).mp e2
          obtain ⟨n, -, n2, rfl⟩ := tp_iw_N (L := 1) (B := 100) rfl rfl (by decide) (by decide) e3
          have b0 := (tp_r0 hO.1).2
          have b2 := (tp_r2 hO.1).2
          unfold f10_bestCell_p60
          refine tm_yes h (fun v v0 vF vM => ?_)
          obtain ⟨w, w1, w2, w3, w4⟩ := tm_best_l hs l1 g1 n2 h8 tl_F 0 vM (Nat.zero_le _) (by have := (tp_rga hO.1 (show g < 3 by omega)).2; unfold tl_F; omega)
          refine ⟨_, w1, tp_QQy ?_ ?_ (tp_FM_tr vF w3) w4⟩
          · rw [show tp_cl (nI l) = l from tp_cn (by omega), show tp_cl (nI g) = g from tp_cn (by omega), show tp_cl (nI n) = n from tp_cn (by omega)]
          · rw [w2]; exact v0
end TQD
