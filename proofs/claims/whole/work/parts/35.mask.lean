/-! The reference's answers. -/
def tp_QQ (m : Nat) (u : tl_S) (k : Nat) (x : Int32) (len : Nat) (tx now : tp_R) (hn : Nat) (hist : Nat → tp_R) (sl : Nat → Bool) (kp : Nat → tp_R) (p : Int32 × tl_S) : Prop :=
  p.2.1 m 0 = nI k ∧ tp_FM m u p.2 ∧ (k = 0 → p.1 = x) ∧ tp_MI m len tx now hn hist sl kp p.2
def tp_oil (r : tp_R) : Nat → Int32
  | 0 => 0
  | n + 1 => tp_oil r n + r (49 + 4 * n)
def tp_ab (r : tp_R) (w : Nat) : Int32 :=
  if w = 0 then r 0 else if w = 1 then r 1 else if w = 2 then r 2 else if w = 3 then r 3 else if w = 4 then r 4 else if w = 5 then tp_oil r (tp_cl (r 2)) else if w = 6 then r 14
  else if w = 7 then r 5 else if w = 8 then r 6 else if w = 9 then r 7 else if w = 10 then r 8 else if w = 11 then r 9 else r 10
def tp_isl (r : tp_R) (g : Nat) (l : Nat) : Bool := decide (r (50 + 4 * l) = nI g)
def tp_gq (r : tp_R) (g w : Nat) : Int32 :=
  if w = 0 then r (18 + 2 * g) else if w = 1 then r (19 + 2 * g) else if w = 2 then tp_hd (nI g) (r (18 + 2 * g)) else if w = 3 then tp_b01 (tp_lit r (nI g) (r (18 + 2 * g)))
  else if w = 4 then nI (tp_cnt (tp_isg r g) (tp_cl (r 1))) else nI (tp_cnt (tp_isl r g) (tp_cl (r 2)))
def tp_lq (r : tp_R) (l w : Nat) : Int32 := if w = 4 then (if r (49 + 4 * l) ≤ 0 then 0 else 1) else r (48 + 4 * l + w)
def tp_dq (r : tp_R) (w : Nat) : Int32 := if w = 0 then r 11 else if w = 1 then r 12 else if w = 2 then r 13 else nI (tp_gn 1440 (tp_hal r))
def tp_litn (r : tp_R) (g : Nat) : Nat := tp_cnt (fun c => tp_lit r (nI g) (nI c)) (tp_cl (r (18 + 2 * g)))
section TQA
variable {m len : Nat} {tx now : tp_R} {hn : Nat} {hist : Nat → tp_R} {sl : Nat → Bool} {kp : Nat → tp_R} {u : tl_S}
theorem tp_QQn {k : Nat} {x y : Int32} {v : tl_S} (h0 : k ≠ 0) (v0 : v.1 m 0 = nI k) (vF : tp_FM m u v) (vM : tp_MI m len tx now hn hist sl kp v) : tp_QQ m u k x len tx now hn hist sl kp (y, v) := ⟨v0, vF, fun z => absurd z h0, vM⟩
theorem tp_QQy {x y : Int32} {v : tl_S} (e : y = x) (v0 : v.1 m 0 = 0) (vF : tp_FM m u v) (vM : tp_MI m len tx now hn hist sl kp v) : tp_QQ m u 0 x len tx now hn hist sl kp (y, v) := ⟨v0, vF, fun _ => e, vM⟩
theorem tm_append (h : tp_MI m len tx now hn hist sl kp u) (hs : tp_SO len tx now hn hist sl kp) {a : Int32} :
    tp_T (f10_append m a u) (fun p => if tp_iw a 0 255 = true then (if len = 120 then tp_QQ m u 2 0 len tx now hn hist sl kp p else tp_QQ m u 0 (nI (len + 1)) (len + 1) (tp_up tx len a) now hn hist sl kp p) else tp_QQ m u 1 0 len tx now hn hist sl kp p) := by
  have h2 := h.1
  have hl := hs.1
  unfold f10_append
  rw [tp_in_l (y := 0) (z := 255) (Y := 0) (Z := 255) (by decide) (by decide), tp_b2S, tp_if0]
  rcases e : tp_iw a 0 255 with _ | _
  · simp only [Bool.false_eq_true, if_false]
    unfold f10_append_p31
    exact tm_no (c := 1) rfl (by decide) (by decide) h (fun v => tp_QQn (by decide))
  · simp only [if_true]
    rw [h2]
    by_cases c : len = 120
    · rw [if_pos (by rw [c]; rfl)]
      simp only [if_pos c]
      unfold f10_append_p31
      exact tm_no (c := 2) rfl (by decide) (by decide) h (fun v => tp_QQn (by decide))
    · rw [if_neg (fun z => c ((tp_eq (by omega) (by decide)).mp (z.trans tp_k120)))]
      simp only [if_neg c]
      unfold f10_append_p31
      refine tm_yes (F := fun u7 => tl_g (¬ ((u7.1 m 2) < 0 ∨ 120 ≤ (u7.1 m 2).toNatClampNeg)) (tl_let ((tl_u u7.1 (m + 1) ((u7.1 m 2).toNatClampNeg) a, u7.2) : tl_S) (fun u11 => tl_let ((tl_u u11.1 m 2 ((u11.1 m 2) + 1), u11.2) : tl_S) (fun u12 => some ((u12.1 m 2), u12))))) h (fun v v0 vF vM => ?_)
      obtain ⟨a1, a2, a3, a4, a5, a6, a7, a8⟩ := vM
      have em : (tp_w v (m + 1) (tp_up (v.1 (m + 1)) len a)).1 m = v.1 m := tp_wgn (by omega)
      rw [a1, tl_gs (tp_ix (n := len) (by omega) (by omega)), tp_cn (by omega), tp_L, tp_tw, tp_L, tp_tw, em, a1, nI_1]
      refine ⟨_, rfl, tp_QQy ?_ ?_ ?_ ⟨?_, ?_, ?_, ?_, ?_, ?_, ?_, ?_⟩⟩
      · rw [tp_wg, tp_us]
      · rw [tp_wg, tp_un (by decide)]; exact v0
      · exact tp_FM_w (tp_FM_w vF (by omega) (by omega)) (Nat.le_refl m) (by omega)
      · rw [tp_wg, tp_us]
      · intro i hi
        rw [tp_wgn (by omega), tp_wg]
        unfold tp_up
        by_cases q : i = len
        · rw [if_pos q, if_pos q]
        · rw [if_neg q, if_neg q]
          exact a2 i (by omega)
      · rw [tp_wgn (by omega), tp_wgn (by omega)]; exact a3
      · rw [tp_wgn (by omega), tp_wgn (by omega)]; exact a4
      · rw [tp_wg, tp_un (by decide)]; exact a5
      · rw [tp_wgn (by omega), tp_wgn (by omega)]; exact a6
      · rw [tp_wgn (by omega), tp_wgn (by omega)]; exact a7
      · rw [tp_wgn (by omega), tp_wgn (by omega)]; exact a8
theorem tm_clearText (h : tp_MI m len tx now hn hist sl kp u) : tp_T (f10_clearText m u) (tp_QQ m u 0 (nI len) 0 tx now hn hist sl kp) := by
  obtain ⟨a1, a2, a3, a4, a5, a6, a7, a8⟩ := h
  unfold f10_clearText
  rw [tp_L, tp_tw, tp_L, tp_wg, tp_un (by decide), a1, tp_L, tp_wu]
  refine ⟨_, rfl, tp_QQy rfl ?_ ?_ ⟨?_, ?_, ?_, ?_, ?_, ?_, ?_, ?_⟩⟩
  · rw [tp_wg, tp_un (by decide), tp_us]
  · exact tp_FM_w (tp_FM_rf m u) (Nat.le_refl m) (by omega)
  · rw [tp_wg, tp_us]; rfl
  · intro i hi; exact absurd hi (Nat.not_lt_zero i)
  · rw [tp_wgn (by omega)]; exact a3
  · rw [tp_wgn (by omega)]; exact a4
  · rw [tp_wg, tp_un (by decide), tp_un (by decide)]; exact a5
  · rw [tp_wgn (by omega)]; exact a6
  · rw [tp_wgn (by omega)]; exact a7
  · rw [tp_wgn (by omega)]; exact a8
/-- the text, read into the trial -/
theorem tm_readText (h : tp_MI m len tx now hn hist sl kp u) (hs : tp_SO len tx now hn hist sl kp) :
    ∃ v, f10_readText m (m + 3) u = some ((tp_txt tx len).1, v) ∧ v.1 m 0 = u.1 m 0 ∧ v.1 m 10 = (tp_txt tx len).2.2 ∧ v.1 (m + 3) = (tp_txt tx len).2.1 ∧ tp_FM m u v ∧ tp_MI m len tx now hn hist sl kp v := by
  obtain ⟨o', e, e10, ei⟩ := tr_readText (u := u) (m := m) (o := u.1 m) (t := u.1 (m + 3)) hs.1 (fun i hi => ⟨h.2.1 i hi, hs.2.1 i hi⟩) h.1 h.2.2.2.1
  have eu : tp_w (tp_w u (m + 3) (u.1 (m + 3))) m (u.1 m) = u := by rw [tp_w_self, tp_w_self]
  rw [eu] at e
  refine ⟨_, e, ?_, ?_, ?_, ?_, ?_⟩
  · rw [tp_wg]; exact ei 0 (by decide) (by decide)
  · rw [tp_wg]; exact e10
  · rw [tp_wgn (by omega), tp_wg]
  · exact tp_FM_w (tp_FM_w (tp_FM_rf m u) (by omega) (by omega)) (Nat.le_refl m) (by omega)
  · refine tp_MI_o (tp_MI_t h (tp_rng_z tp_Ok_txt.1)) ?_ ?_
    · rw [tp_wgn (by omega)]; exact ei 2 (by decide) (by decide)
    · rw [tp_wgn (by omega)]; exact ei 6 (by decide) (by decide)
theorem tm_errorPosition (h : tp_MI m len tx now hn hist sl kp u) (hs : tp_SO len tx now hn hist sl kp) : tp_T (f10_errorPosition m u) (tp_QQ m u 0 (tp_txt tx len).1 len tx now hn hist sl kp) := by
  unfold f10_errorPosition
  rw [tp_L, tp_tw]
  obtain ⟨v, e, v0, -, -, vF, vM⟩ := tm_readText (tp_MI_r (x := 0) h) hs
  rw [e, tp_b2S]
  refine ⟨_, rfl, tp_QQy rfl ?_ (tp_FM_tr (tp_FM_w (tp_FM_rf m u) (Nat.le_refl m) (by omega)) vF) vM⟩
  rw [v0, tp_wg, tp_us]
theorem tm_load (h : tp_MI m len tx now hn hist sl kp u) (hs : tp_SO len tx now hn hist sl kp) :
    tp_T (f10_load m u) (fun p => if (tp_txt tx len).1 = -1 then tp_QQ m u 0 (tp_txt tx len).2.2 len tx (tp_txt tx len).2.1 0 hist (fun _ => false) kp p else tp_QQ m u 1 0 len tx now hn hist sl kp p) := by
  unfold f10_load
  obtain ⟨v, e, v0, v10, v3, vF, vM⟩ := tm_readText h hs
  rw [e, tp_b2S]
  by_cases c : (tp_txt tx len).1 = -1
  · rw [if_pos c]
    simp only [if_pos c]
    unfold f10_load_p18
    rw [tm_refused, if_pos (by decide), tp_b2S, if_pos rfl]
    have hz3 := tp_rng_z (tp_Ok_txt (tx := tx) (len := len)).1
    have hz2 := tp_rng_z hs.2.2.1.1
    obtain ⟨a1, a2, a3, a4, a5, a6, a7, a8⟩ := vM
    have g3 : (tp_w v m (tp_up (v.1 m) 0 0)).1 (m + 3) = (tp_txt tx len).2.1 := by rw [tp_wgn (by omega)]; exact v3
    have g2 : (tp_w v m (tp_up (v.1 m) 0 0)).1 (m + 2) = now := by rw [tp_wgn (by omega)]; exact a3
    rw [tr_copy (x := 0) (y := 0) (s := 0) (d := 0) rfl rfl (by omega) (by omega) (by omega) (by decide) (by decide), tp_bS, g3, g2, tp_cp_row hz3 hz2, tp_tw]
    have em : (tp_w (tp_w v m (tp_up (v.1 m) 0 0)) (m + 2) (tp_txt tx len).2.1).1 m = tp_up (v.1 m) 0 0 := by rw [tp_wgn (by omega), tp_wg]
    rw [em, tp_L, tp_tw, tp_L, tp_wu, tp_L]
    refine ⟨_, rfl, tp_QQy ?_ ?_ ?_ ⟨?_, ?_, ?_, ?_, ?_, ?_, ?_, ?_⟩⟩
    · rw [tp_wgn (by omega), tp_wg, tp_un (by decide), tp_un (by decide)]; exact v10
    · rw [tp_wgn (by omega), tp_wg, tp_un (by decide), tp_us]
    · exact tp_FM_w (tp_FM_w (tp_FM_w (tp_FM_w vF (Nat.le_refl m) (by omega)) (by omega) (by omega)) (Nat.le_refl m) (by omega)) (by omega) (by omega)
    · rw [tp_wgn (by omega), tp_wg, tp_un (by decide), tp_un (by decide)]; exact a1
    · rw [tp_wgn (by omega), tp_wgn (by omega), tp_wgn (by omega), tp_wgn (by omega)]; exact a2
    · rw [tp_wgn (by omega), tp_wgn (by omega), tp_wg]
    · rw [tp_wgn (by omega), tp_wgn (by omega), tp_wgn (by omega), tp_wgn (by omega)]; exact a4
    · rw [tp_wgn (by omega), tp_wg, tp_us]; rfl
    · intro i hi; exact absurd hi (Nat.not_lt_zero i)
    · intro s hs2
      rw [tp_wg]
      have : s = 0 ∨ s = 1 := by omega
      rcases this with rfl | rfl
      · rw [tp_un (by decide), tp_us]; rfl
      · rw [tp_us]; rfl
    · intro s hs2 z; cases z
  · rw [if_neg c]
    simp only [if_neg c]
    unfold f10_load_p18
    exact tm_no (c := 1) rfl (by decide) (by decide) vM (fun w w0 wF wM => tp_QQn (by decide) w0 (tp_FM_tr vF wF) wM)
/-! what there is -/
theorem tm_about_l (h : tp_MI m len tx now hn hist sl kp u) (hs : tp_SO len tx now hn hist sl kp) {w : Nat} (hw : w ≤ 12) : ∀ (f i : Nat), i ≤ tp_cl (now 2) → tp_cl (now 2) - i < f → f10_about_p30 f m (nI w) (tp_oil now i) (nI i) u = some (tp_ab now w, u)
  | 0, _, _, h2 => absurd h2 (Nat.not_lt_zero _)
  | f + 1, i, h1, h2 => by
    have hO := hs.2.2.1.1
    have hM := h.2.2.1
    obtain ⟨n, n2, n1, n3⟩ := tp_xx (tp_r2 hO)
    have ih := fun q q2 => tm_about_l h hs hw f (i + 1) q q2
    unfold tp_cl at h1 h2
    rw [n3] at h1 h2
    unfold f10_about_p30
    rw [hM, n1]
    have ele : (nI n ≤ nI i) = (n ≤ i) := tp_le (by omega) (by omega)
    simp only [ele]
    by_cases c : n ≤ i
    · rw [if_pos c]
      have ew : (nI w).toInt = (w : Int) := tp_ti (by omega)
      unfold tp_ab
      have hi : tp_oil now i = tp_oil now (tp_cl (now 2)) := by unfold tp_cl; rw [n3, show n = i by omega]
      have hc : w = 0 ∨ w = 1 ∨ w = 2 ∨ w = 3 ∨ w = 4 ∨ w = 5 ∨ w = 6 ∨ w = 7 ∨ w = 8 ∨ w = 9 ∨ w = 10 ∨ w = 11 ∨ w = 12 := by omega
      rcases hc with rfl | rfl | rfl | rfl | rfl | rfl | rfl | rfl | rfl | rfl | rfl | rfl | rfl
      · rw [if_pos (by decide), tl_gs (by decide)]; rfl
      · rw [if_pos (by decide), tl_gs (by decide)]; rfl
      · rw [if_pos (by decide), tl_gs (by decide)]; rfl
      · rw [if_pos (by decide), tl_gs (by decide)]; rfl
      · rw [if_pos (by decide), tl_gs (by decide)]; rfl
      · rw [if_neg (by decide), if_pos (by decide), hi]; rfl
      · rw [if_neg (by decide), if_neg (by decide), if_pos (by decide)]; rfl
      · rw [if_neg (by decide), if_neg (by decide), if_neg (by decide), if_pos (by decide), tl_gs (by decide)]; rfl
      · rw [if_neg (by decide), if_neg (by decide), if_neg (by decide), if_neg (by decide), if_pos (by decide), tl_gs (by decide)]; rfl
      · rw [if_neg (by decide), if_neg (by decide), if_neg (by decide), if_neg (by decide), if_neg (by decide), if_pos (by decide), tl_gs (by decide)]; rfl
      · rw [if_neg (by decide), if_neg (by decide), if_neg (by decide), if_neg (by decide), if_neg (by decide), if_neg (by decide), if_pos (by decide)]; rfl
      · rw [if_neg (by decide), if_neg (by decide), if_neg (by decide), if_neg (by decide), if_neg (by decide), if_neg (by decide), if_neg (by decide), if_pos (by decide)]; rfl
      · rw [if_neg (by decide), if_neg (by decide), if_neg (by decide), if_neg (by decide), if_neg (by decide), if_neg (by decide), if_neg (by decide), if_neg (by decide)]; rfl
    · rw [if_neg c, tp_tv (F := f10_ofLamp (m + 2) (nI i) 1) hM (tr_la1 (by omega)), tp_b2S, tp_L, tp_L, nI_1]
      exact ih (by unfold tp_cl; omega) (by unfold tp_cl; omega)
theorem tm_about (h : tp_MI m len tx now hn hist sl kp u) (hs : tp_SO len tx now hn hist sl kp) {w : Int32} :
    tp_T (f10_about m w u) (fun p => if tp_iw w 0 12 = true then tp_QQ m u 0 (tp_ab now (tp_cl w)) len tx now hn hist sl kp p else tp_QQ m u 1 0 len tx now hn hist sl kp p) := by
  unfold f10_about
  rw [tp_in_l (y := 0) (z := 12) (Y := 0) (Z := 12) (by decide) (by decide), tp_b2S, tp_if0]
  rcases e : tp_iw w 0 12 with _ | _
  · simp only [Bool.false_eq_true, if_false]
    exact tm_no (c := 1) rfl (by decide) (by decide) h (fun v => tp_QQn (by decide))
  · simp only [if_true]
    obtain ⟨n, -, n2, rfl⟩ := tp_iw_N (L := 0) (B := 12) rfl rfl (by decide) (by decide) e
    refine tm_yes h (fun v v0 vF vM => ?_)
    rw [show (0 : Int32) = nI 0 from rfl]
    refine ⟨_, tm_about_l vM hs n2 tl_F 0 (Nat.zero_le _) (by have := (tp_r2 hs.2.2.1.1).2; unfold tl_F; omega), tp_QQy ?_ v0 vF vM⟩
    unfold tp_cl
    rw [tp_cn (by omega)]
end TQA
