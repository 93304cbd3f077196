/-! What the reference's functions compute over its rows: what is added, copies, commands. -/
section TPE
variable {u : tl_S} {b : Nat} {r : tp_R}
theorem tr_galleryOn (h : tp_rng r) (h3 : tp_cl (r 0) < 3) {d : Int32} : f10_galleryOn b d (tp_w u b r) = some (r 0, tp_w u b (tp_ga d r)) := by
  obtain ⟨n, n2, n1, n3⟩ := tp_xx (tp_r0 h)
  unfold tp_cl at h3
  rw [n3] at h3
  unfold f10_galleryOn tp_ga tp_cl
  rw [n3, tp_wg, n1, tp_L]
  simp (disch := omega) only [tp_j18, tp_p1, tp_q18_1, tp_neg, false_or, tp_nleT, tp_gT, tp_cn, tp_L, tp_wu1, tp_w2, tp_wp, tp_wg, tp_us, tp_un, n1]
theorem tr_minerOn (h : tp_rng r) (h6 : tp_cl (r 1) < 6) {g p : Int32} : f10_minerOn b g p (tp_w u b r) = some (r 1, tp_w u b (tp_mi g p r)) := by
  obtain ⟨n, n2, n1, n3⟩ := tp_xx (tp_r1 h)
  unfold tp_cl at h6
  rw [n3] at h6
  unfold f10_minerOn tp_mi tp_cl
  rw [n3, tp_wg, n1]
  simp (disch := omega) only [tp_j24, tp_p1, tp_p2, tp_p3, tp_q24_1, tp_q24_2, tp_q24_3, tp_neg, false_or, tp_nleT, tp_gT, tp_cn, tp_L, tp_wu1, tp_w2, tp_wp, tp_wg, tp_us, tp_un, n1, nI_pred]
theorem tr_lampOn (h : tp_rng r) (h8 : tp_cl (r 2) < 8) {g c e o : Int32} : f10_lampOn b g c e o (tp_w u b r) = some (r 2, tp_w u b (tp_la g c e o r)) := by
  obtain ⟨n, n2, n1, n3⟩ := tp_xx (tp_r2 h)
  unfold tp_cl at h8
  rw [n3] at h8
  unfold f10_lampOn tp_la tp_cl
  rw [n3, tp_wg, n1]
  simp (disch := omega) only [tp_j48, tp_p1, tp_p2, tp_p3, tp_q48_1, tp_q48_2, tp_q48_3, tp_neg, false_or, tp_nleT, tp_gT, tp_cn, tp_L, tp_wu1, tp_w2, tp_wp, tp_wg, tp_us, tp_un, n1, nI_pred]
theorem tr_storeOn {n : Int32} : f10_storeOn b n (tp_w u b r) = some (r 4 + n, tp_w u b (tp_so n r)) := by
  unfold f10_storeOn tp_so
  simp (disch := omega) only [tp_L, tp_wu1, tp_w2, tp_wp, tp_wg, tp_us, tp_un]
theorem tr_change {i : Nat} {x v : Int32} (hx : x = nI i) (hi : i < 104) : f10_change b x v (tp_w u b r) = some (r i, tp_w u b (tp_up r i v)) := by
  subst hx
  unfold f10_change
  simp (disch := omega) only [tp_neg, false_or, tp_nleT, tp_gT, tp_cn, tp_L, tp_wu1, tp_w2, tp_wp, tp_wg]
theorem tr_canMiner (h : tp_rng r) {g : Int32} : f10_canMiner b g (tp_w u b r) = some (tp_b01 (tp_ig r g && !decide (6 ≤ r 1)), tp_w u b r) := by
  unfold f10_canMiner
  rw [tr_isGallery h, tp_b2S, tp_if0, tp_wg]
  rcases tp_ig r g with _ | _
  · rfl
  · rw [if_pos rfl]
    by_cases c : 6 ≤ r 1
    · rw [if_pos c]; simp [c]; rfl
    · rw [if_neg c]; simp [c]; rfl
theorem tr_canLamp (h : tp_rng r) {g c : Int32} : f10_canLamp b g c (tp_w u b r) = some (tp_b01 (tp_ic r g c && !decide (8 ≤ r 2)), tp_w u b r) := by
  unfold f10_canLamp
  rw [tr_isCell h, tp_b2S, tp_if0, tp_wg]
  rcases tp_ic r g c with _ | _
  · rfl
  · rw [if_pos rfl]
    by_cases c : 8 ≤ r 2
    · rw [if_pos c]; simp [c]; rfl
    · rw [if_neg c]; simp [c]; rfl
theorem tr_canHang (h : tp_rng r) {l g c : Int32} : f10_canHang b l g c (tp_w u b r) = some (tp_b01 (tp_il r l && tp_ic r g c && !decide (6 ≤ r 8)), tp_w u b r) := by
  unfold f10_canHang
  rw [tr_isLamp h, tp_b2S, tp_if0]
  rcases tp_il r l with _ | _
  · rfl
  · rw [if_pos rfl, tr_isCell h, tp_b2S, tp_if0, tp_wg]
    rcases tp_ic r g c with _ | _
    · rfl
    · rw [if_pos rfl]
      by_cases c : 6 ≤ r 8
      · rw [if_pos c]; simp [c]; rfl
      · rw [if_neg c]; simp [c]; rfl
theorem tr_canFill (h : tp_rng r) {l n : Int32} : f10_canFill b l n (tp_w u b r) = some (tp_b01 (tp_il r l && tp_iw n 1 99 && !decide (6 ≤ r 8)), tp_w u b r) := by
  unfold f10_canFill
  rw [tr_isLamp h, tp_b2S, tp_if0]
  rcases tp_il r l with _ | _
  · rfl
  · rw [if_pos rfl, tp_in_l (y := 1) (z := 99) (Y := 1) (Z := 99) (by decide) (by decide), tp_b2S, tp_if0, tp_wg]
    rcases tp_iw n 1 99 with _ | _
    · rfl
    · rw [if_pos rfl]
      by_cases c : 6 ≤ r 8
      · rw [if_pos c]; simp [c]; rfl
      · rw [if_neg c]; simp [c]; rfl
theorem tr_isSetting {q v : Int32} {w : tl_S} : f10_isSetting q v w = some (tp_b01 (tp_is q v), w) := by
  unfold f10_isSetting tp_is
  rw [tp_in_l (y := 0) (z := 12) (Y := 0) (Z := 12) (by decide) (by decide), tp_b2S, tp_if0]
  by_cases c : q = 0
  · rw [if_pos c, if_pos c]
    rcases tp_iw v 0 12 with _ | _
    · rw [if_neg (by decide), if_neg (by rw [c]; decide)]; rfl
    · rfl
  · rw [if_neg c, if_neg c]
    by_cases d : q = 1
    · rw [if_pos d, if_pos d, tp_in_l (y := 0) (z := 1) (Y := 0) (Z := 1) (by decide) (by decide), tp_b2S, tp_if0]
      rcases tp_iw v 0 1 with _ | _ <;> rfl
    · rw [if_neg d, if_neg d]; rfl
/-! copies -/
def tp_cp (s d i : Nat) (x y : tp_R) : tp_R := fun j => if d ≤ j ∧ j < d + i then x (s + (j - d)) else y j
theorem tr_copy_l {a c s d N1 N3 : Nat} (hac : a ≠ c) (h1 : s + 104 ≤ N1) (h3 : d + 104 ≤ N3) (b1 : N1 < 2147483648) (b3 : N3 < 2147483648) : ∀ (f i : Nat), i ≤ 104 → 104 - i < f → f10_copyState_p3 f a N1 (nI s) c N3 (nI d) (nI i) (tp_w u c (tp_cp s d i (u.1 a) (u.1 c))) = some (tp_w u c (tp_cp s d 104 (u.1 a) (u.1 c)))
  | 0, _, _, h => absurd h (Nat.not_lt_zero _)
  | f + 1, i, hi, hf => by
    unfold f10_copyState_p3
    simp (disch := omega) only [tp_k104, tp_le]
    by_cases e : 104 ≤ i
    · rw [if_pos e, show i = 104 by omega]
    · rw [if_neg e]
      have ea : ∀ r : tp_R, (tp_w u c r).1 a = u.1 a := fun r => if_neg hac
      simp (disch := omega) only [nI_add, tp_neg, false_or, tp_nleT, tp_gT, tp_cn, tp_L, tp_wu1, tp_w2, tp_wp, tp_wg, ea, nI_1]
      have : tp_up (tp_cp s d i (u.1 a) (u.1 c)) (d + i) (u.1 a (s + i)) = tp_cp s d (i + 1) (u.1 a) (u.1 c) := by
        funext j
        unfold tp_up tp_cp
        by_cases q : j = d + i
        · rw [if_pos q, if_pos (by omega), q, show d + i - d = i by omega]
        · rw [if_neg q]
          by_cases w : d ≤ j ∧ j < d + i
          · rw [if_pos w, if_pos (by omega)]
          · rw [if_neg w, if_neg (by omega)]
      rw [this]
      exact tr_copy_l hac h1 h3 b1 b3 f (i + 1) (by omega) (by omega)
theorem tr_copy {a c s d N1 N3 : Nat} {x y : Int32} (hx : x = nI s) (hy : y = nI d) (hac : a ≠ c) (h1 : s + 104 ≤ N1) (h3 : d + 104 ≤ N3) (b1 : N1 < 2147483648) (b3 : N3 < 2147483648) : f10_copyState a N1 x c N3 y u = some (tp_w u c (tp_cp s d 104 (u.1 a) (u.1 c))) := by
  subst hx hy
  have e : u = tp_w u c (tp_cp s d 0 (u.1 a) (u.1 c)) := by
    have : tp_cp s d 0 (u.1 a) (u.1 c) = u.1 c := by
      funext j
      unfold tp_cp
      rw [if_neg (by omega)]
    rw [this, tp_w_self]
  have h := tr_copy_l (u := u) hac h1 h3 b1 b3 tl_F 0 (by omega) (by unfold tl_F; omega)
  rw [← e] at h
  exact h
/-- a row is copied whole -/
theorem tp_cp_row {x y : tp_R} (hx : ∀ j, 104 ≤ j → x j = 0) (hy : ∀ j, 104 ≤ j → y j = 0) : tp_cp 0 0 104 x y = x := by
  funext j
  unfold tp_cp
  by_cases c : j < 104
  · rw [if_pos (by omega)]; congr 1; omega
  · rw [if_neg (by omega), hx j (by omega), hy j (by omega)]
theorem tp_rng_z (h : tp_rng r) : ∀ j, 104 ≤ j → r j = 0 := by
  intro j hj
  have e : tp_kd j = (1, 0) := by
    unfold tp_kd
    rw [if_neg (by omega), if_neg (by omega), if_neg (by omega), if_neg (by omega), if_neg (by omega)]
  obtain ⟨n, n1, n2⟩ := (tp_in1 e).mp (h j)
  rw [n2, show n = 0 by omega]; rfl
def tp_z (i : Nat) (y : tp_R) : tp_R := fun j => if j < i then 0 else y j
theorem tr_clear_l {y : tp_R} : ∀ (f i : Nat), i ≤ 104 → 104 - i < f → f10_clear_p2 f b (nI i) (tp_w u b (tp_z i y)) = some (tp_w u b (tp_up (tp_up (tp_z 104 y) 13 (-1)) 16 4))
  | 0, _, _, h => absurd h (Nat.not_lt_zero _)
  | f + 1, i, hi, hf => by
    unfold f10_clear_p2
    simp (disch := omega) only [tp_k104, tp_le]
    by_cases e : 104 ≤ i
    · rw [if_pos e, show i = 104 by omega]
      simp (disch := omega) only [tp_L, tp_wu1, tp_w2, tp_wp, tp_wg]
    · rw [if_neg e]
      simp (disch := omega) only [tp_neg, false_or, tp_nleT, tp_gT, tp_cn, tp_L, tp_wu1, tp_w2, tp_wp, tp_wg, nI_1]
      have : tp_up (tp_z i y) i 0 = tp_z (i + 1) y := by
        funext j
        unfold tp_up tp_z
        by_cases q : j = i
        · rw [if_pos q, if_pos (by omega)]
        · rw [if_neg q]
          by_cases w : j < i
          · rw [if_pos w, if_pos (by omega)]
          · rw [if_neg w, if_neg (by omega)]
      rw [this]
      exact tr_clear_l f (i + 1) (by omega) (by omega)
theorem tr_clear (hr : ∀ j, 104 ≤ j → r j = 0) : f10_clear b (tp_w u b r) = some (tp_w u b tp_clr) := by
  have e : r = tp_z 0 r := by
    funext j
    unfold tp_z
    rw [if_neg (by omega)]
  have h := tr_clear_l (u := u) (b := b) (y := r) tl_F 0 (by omega) (by unfold tl_F; omega)
  rw [← e] at h
  have e2 : tp_up (tp_up (tp_z 104 r) 13 (-1)) 16 4 = tp_clr := by
    funext j
    unfold tp_up tp_z tp_clr
    by_cases c : j = 16
    · rw [if_pos c, if_neg (by omega), if_pos c]
    · rw [if_neg c]
      by_cases d : j = 13
      · rw [if_pos d, if_pos d]
      · rw [if_neg d, if_neg d, if_neg c]
        by_cases e : j < 104
        · rw [if_pos e]
        · rw [if_neg e, hr j (by omega)]
  rw [e2] at h
  exact h
end TPE
