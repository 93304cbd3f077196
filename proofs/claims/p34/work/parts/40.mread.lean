/-! What the class's functions read of a mine. -/
theorem tp_ixn {n N : Nat} (h : n < N) (hn : n < 2147483648) : ¬ (nI n < 0 ∨ N ≤ n) := by
  rw [tp_neg hn, false_or]; omega
theorem tc_within {x y z : Int32} {w : tl_S} : f9_isWithin x y z w = some (tp_b01 (tp_iw x y z), w) := by
  unfold f9_isWithin tp_iw
  by_cases c : x < y
  · rw [if_pos c, decide_eq_true c]; rfl
  · rw [if_neg c, decide_eq_false c]
    by_cases d : z < x
    · rw [if_pos d, decide_eq_true d]; rfl
    · rw [if_neg d, decide_eq_false d]; rfl
theorem tc_refusal {e i p : Bool} {w : tl_S} : f9_refusalOf (tp_b01 e) (tp_b01 i) (tp_b01 p) w = some (nI (tp_ro e i p), w) := by
  unfold f9_refusalOf tp_ro
  rw [tp_if0, tp_if0, tp_if0]
  cases e <;> cases i <;> cases p <;> rfl
theorem tc_isSetting {q v : Int32} {w : tl_S} : f5_isSetting q v w = some (tp_b01 (tp_is q v), w) := by
  unfold f5_isSetting tp_is
  rw [tc_within, tp_b2S, tp_if0]
  by_cases c : q = 0
  · rw [if_pos c, if_pos c]
    rcases tp_iw v 0 12 with _ | _
    · rw [if_neg (by decide), if_neg (by rw [c]; decide)]; rfl
    · rfl
  · rw [if_neg c, if_neg c]
    by_cases d : q = 1
    · rw [if_pos d, if_pos d, tc_within, tp_b2S, tp_if0]
      rcases tp_iw v 0 1 with _ | _ <;> rfl
    · rw [if_neg d, if_neg d]; rfl
section TPI
variable {a : Nat} {r : tp_R} {u0 u : tl_S}
theorem tc_hasGallery (h : tp_P u0 a r u) {g : Int32} : f5_hasGallery a g u = some (tp_b01 (tp_ig r g), u) := by
  unfold f5_hasGallery tp_ig
  rw [tq_g0 h]
  by_cases c : g < 0
  · rw [if_pos c, decide_eq_true c]; rfl
  · rw [if_neg c, decide_eq_false c]
    by_cases d : r 0 ≤ g
    · rw [if_pos d, decide_eq_true d]; rfl
    · rw [if_neg d, decide_eq_false d]; rfl
theorem tc_hasMiner (h : tp_P u0 a r u) {g : Int32} : f5_hasMiner a g u = some (tp_b01 (tp_im r g), u) := by
  unfold f5_hasMiner tp_im
  rw [tq_g1 h]
  by_cases c : g < 0
  · rw [if_pos c, decide_eq_true c]; rfl
  · rw [if_neg c, decide_eq_false c]
    by_cases d : r 1 ≤ g
    · rw [if_pos d, decide_eq_true d]; rfl
    · rw [if_neg d, decide_eq_false d]; rfl
theorem tc_hasLamp (h : tp_P u0 a r u) {g : Int32} : f5_hasLamp a g u = some (tp_b01 (tp_il r g), u) := by
  unfold f5_hasLamp tp_il
  rw [tq_g2 h]
  by_cases c : g < 0
  · rw [if_pos c, decide_eq_true c]; rfl
  · rw [if_neg c, decide_eq_false c]
    by_cases d : r 2 ≤ g
    · rw [if_pos d, decide_eq_true d]; rfl
    · rw [if_neg d, decide_eq_false d]; rfl
theorem tc_hasOrder (h : tp_P u0 a r u) {g : Int32} : f3_hasOrder (a + 4) g u = some (tp_b01 (tp_io r g), u) := by
  unfold f3_hasOrder tp_io
  rw [tq_g8 h]
  by_cases c : g < 0
  · rw [if_pos c, decide_eq_true c]; rfl
  · rw [if_neg c, decide_eq_false c]
    by_cases d : r 8 ≤ g
    · rw [if_pos d, decide_eq_true d]; rfl
    · rw [if_neg d, decide_eq_false d]; rfl
theorem tc_hasRoom (h : tp_P u0 a r u) : f3_hasRoomForOrder (a + 4) u = some (tp_b01 (!decide (6 ≤ r 8)), u) := by
  unfold f3_hasRoomForOrder
  rw [tq_g8 h]
  by_cases c : 6 ≤ r 8
  · rw [if_pos c, decide_eq_true c]; rfl
  · rw [if_neg c, decide_eq_false c]; rfl
theorem tc_handsFree (h : tp_P u0 a r u) : f3_handsAreFree (a + 4) u = some (tp_b01 (tp_fh r), u) := by
  unfold f3_handsAreFree tp_fh
  rw [tq_g13 h, tq_g14 h]
  by_cases c : r 13 = -1
  · rw [if_pos c, decide_eq_true c]
    by_cases d : r 14 = 0
    · rw [if_pos d, decide_eq_true d]; rfl
    · rw [if_neg d, decide_eq_false d]; rfl
  · rw [if_neg c, decide_eq_false c]; rfl
theorem tc_hasCell (h : tp_P u0 a r u) (hr : tp_rng r) {g c : Int32} : f5_hasCell a g c u = some (tp_b01 (tp_ic r g c), u) := by
  unfold f5_hasCell tp_ic
  rw [tc_hasGallery h, tp_b2S, tp_if0]
  rcases e : tp_ig r g with _ | _
  · rfl
  · obtain ⟨n, n1, rfl⟩ := (tp_ig_N hr).mp e
    have b0 := (tp_r0 hr).2
    have hn : n < 3 := by omega
    rw [if_pos rfl]
    by_cases c0 : c < 0
    · rw [if_pos c0, decide_eq_true c0]; rfl
    · rw [if_neg c0, decide_eq_false c0, tl_gs (tp_ix hn (by omega))]
      have hcl : tp_cl (nI n) = n := tp_cn (by omega)
      rw [tp_cn (by omega), tq_gG0 h hn, hcl]
      by_cases d : r (18 + 2 * n) ≤ c
      · rw [if_pos d, decide_eq_true d]; rfl
      · rw [if_neg d, decide_eq_false d]; rfl
theorem tc_burnsIn (h : tp_P u0 a r u) {l : Nat} (hl : l < 8) {g : Int32} : f4_burnsIn ((a + 3) + (18 + l)) g u = some (tp_b01 (decide (r (50 + 4 * l) = g) && !decide (r (49 + 4 * l) ≤ 0)), u) := by
  unfold f4_burnsIn
  rw [tq_gL2 h hl, tq_gL1 h hl]
  by_cases c : r (50 + 4 * l) = g
  · rw [if_pos c, decide_eq_true c]
    by_cases d : r (49 + 4 * l) ≤ 0
    · rw [if_pos d, decide_eq_true d]; rfl
    · rw [if_neg d, decide_eq_false d]; rfl
  · rw [if_neg c, decide_eq_false c]; rfl
theorem tc_lights (h : tp_P u0 a r u) {l : Nat} (hl : l < 8) {g c : Int32} : f4_lights ((a + 3) + (18 + l)) g c u = some (tp_b01 (tp_ltl r g c l), u) := by
  unfold f4_lights tp_ltl
  rw [tc_burnsIn h hl, tp_b2S, tp_if0, tq_gL0 h hl, tq_gL3 h hl, ← Bool.and_assoc]
  rcases (decide (r (50 + 4 * l) = g) && !decide (r (49 + 4 * l) ≤ 0)) with _ | _
  · rfl
  · rw [if_pos rfl]
    by_cases c1 : r (48 + 4 * l) < c - r (51 + 4 * l)
    · rw [if_pos c1, decide_eq_true c1]; rfl
    · rw [if_neg c1, decide_eq_false c1]
      by_cases c2 : r (48 + 4 * l) < r (51 + 4 * l) - c
      · rw [if_pos c2, decide_eq_true c2]; rfl
      · rw [if_neg c2, decide_eq_false c2]; rfl
theorem tc_isLit_l (h : tp_P u0 a r u) (hr : tp_rng r) {g c : Int32} : ∀ (f i : Nat), i ≤ tp_cl (r 2) → tp_cl (r 2) - i < f → tp_any (tp_ltl r g c) i = false → f5_isLit_p2 f a g c (nI i) u = some (tp_b01 (tp_lit r g c), u)
  | 0, _, _, h2, _ => absurd h2 (Nat.not_lt_zero _)
  | f + 1, i, h1, h2, h3 => by
    obtain ⟨n, n2, n1, n3⟩ := tp_xx (tp_r2 hr)
    have ih : i + 1 ≤ tp_cl (r 2) → tp_any (tp_ltl r g c) (i + 1) = false → f5_isLit_p2 f a g c (nI (i + 1)) u = some (tp_b01 (tp_lit r g c), u) := fun q z => tc_isLit_l h hr f (i + 1) q (by omega) z
    unfold tp_lit at ih ⊢
    unfold tp_cl at h1 h2 ih ⊢
    rw [n3] at h1 h2 ih ⊢
    unfold f5_isLit_p2
    have ele : (nI n ≤ nI i) = (n ≤ i) := tp_le (by omega) (by omega)
    rw [tq_g2 h, n1]
    simp only [ele]
    by_cases e : n ≤ i
    · rw [if_pos e, show n = i by omega, h3]; rfl
    · rw [if_neg e, tl_gs (tp_ix (by omega) (by omega)), tp_cn (by omega), tc_lights h (by omega), tp_b2S, tp_if0]
      rcases q : tp_ltl r g c i with _ | _
      · rw [if_neg (by decide), tp_L, nI_1]
        exact ih (by omega) (by rw [show tp_any (tp_ltl r g c) (i + 1) = (tp_any (tp_ltl r g c) i || tp_ltl r g c i) from rfl, h3, q]; rfl)
      · rw [if_pos rfl, tp_any_t (show i < n by omega) q]; rfl
theorem tc_isLit (h : tp_P u0 a r u) (hr : tp_rng r) {g c : Int32} : f5_isLit a g c u = some (tp_b01 (tp_lit r g c), u) :=
  tc_isLit_l h hr tl_F 0 (Nat.zero_le _) (by have := (tp_r2 hr).2; unfold tl_F; omega) rfl
theorem tc_oil_l (h : tp_P u0 a r u) (hr : tp_rng r) : ∀ (f i : Nat), i ≤ tp_cl (r 2) → tp_cl (r 2) - i < f → f5_oilInLamps_p4 f a (tp_oil r i) (nI i) u = some (tp_oil r (tp_cl (r 2)), u)
  | 0, _, _, h2 => absurd h2 (Nat.not_lt_zero _)
  | f + 1, i, h1, h2 => by
    obtain ⟨n, n2, n1, n3⟩ := tp_xx (tp_r2 hr)
    have ih := fun q q2 => tc_oil_l h hr f (i + 1) q q2
    unfold tp_cl at h1 h2 ih ⊢
    rw [n3] at h1 h2 ih ⊢
    unfold f5_oilInLamps_p4
    have ele : (nI n ≤ nI i) = (n ≤ i) := tp_le (by omega) (by omega)
    rw [tq_g2 h, n1]
    simp only [ele]
    by_cases e : n ≤ i
    · rw [if_pos e, show n = i by omega]
    · rw [if_neg e, tl_gs (tp_ix (by omega) (by omega)), tp_cn (by omega), tq_gL1 h (show i < 8 by omega), tp_L, tp_L, nI_1]
      exact ih (by omega) (by omega)
theorem tc_oil (h : tp_P u0 a r u) (hr : tp_rng r) : f5_oilInLamps a u = some (tp_oil r (tp_cl (r 2)), u) :=
  tc_oil_l h hr tl_F 0 (Nat.zero_le _) (by have := (tp_r2 hr).2; unfold tl_F; omega)
theorem tc_minersIn_l (h : tp_P u0 a r u) (hr : tp_rng r) {g : Nat} : ∀ (f i : Nat), i ≤ tp_cl (r 1) → tp_cl (r 1) - i < f → f5_minersIn_p4 f a (nI g) (nI (tp_cnt (tp_isg r g) i)) (nI i) u = some (nI (tp_cnt (tp_isg r g) (tp_cl (r 1))), u)
  | 0, _, _, h2 => absurd h2 (Nat.not_lt_zero _)
  | f + 1, i, h1, h2 => by
    obtain ⟨n, n2, n1, n3⟩ := tp_xx (tp_r1 hr)
    have ih := fun q q2 => tc_minersIn_l (g := g) h hr f (i + 1) q q2
    unfold tp_cl at h1 h2 ih ⊢
    rw [n3] at h1 h2 ih ⊢
    unfold f5_minersIn_p4
    have ele : (nI n ≤ nI i) = (n ≤ i) := tp_le (by omega) (by omega)
    rw [tq_g1 h, n1]
    simp only [ele]
    by_cases e : n ≤ i
    · rw [if_pos e, show n = i by omega]
    · have ih := ih (by omega) (by omega)
      have hs1 : tp_cnt (tp_isg r g) (i + 1) = tp_cnt (tp_isg r g) i + (if tp_isg r g i = true then 1 else 0) := rfl
      rw [hs1] at ih
      rw [if_neg e, tl_gs (tp_ix (by omega) (by omega)), tp_cn (by omega), tq_gM0 h (show i < 6 by omega)]
      by_cases c : r (24 + 4 * i) = nI g
      · rw [if_pos c, tp_L, tp_L, nI_1, nI_1]
        rw [if_pos (by unfold tp_isg; exact decide_eq_true c)] at ih
        exact ih
      · rw [if_neg c, tp_L, nI_1]
        rw [if_neg (by unfold tp_isg; simp [c])] at ih
        exact ih
theorem tc_minersIn (h : tp_P u0 a r u) (hr : tp_rng r) {g : Nat} : f5_minersIn a (nI g) u = some (nI (tp_cnt (tp_isg r g) (tp_cl (r 1))), u) :=
  tc_minersIn_l h hr tl_F 0 (Nat.zero_le _) (by have := (tp_r1 hr).2; unfold tl_F; omega)
theorem tc_lampsIn_l (h : tp_P u0 a r u) (hr : tp_rng r) {g : Nat} : ∀ (f i : Nat), i ≤ tp_cl (r 2) → tp_cl (r 2) - i < f → f5_lampsIn_p4 f a (nI g) (nI (tp_cnt (tp_isl r g) i)) (nI i) u = some (nI (tp_cnt (tp_isl r g) (tp_cl (r 2))), u)
  | 0, _, _, h2 => absurd h2 (Nat.not_lt_zero _)
  | f + 1, i, h1, h2 => by
    obtain ⟨n, n2, n1, n3⟩ := tp_xx (tp_r2 hr)
    have ih := fun q q2 => tc_lampsIn_l (g := g) h hr f (i + 1) q q2
    unfold tp_cl at h1 h2 ih ⊢
    rw [n3] at h1 h2 ih ⊢
    unfold f5_lampsIn_p4
    have ele : (nI n ≤ nI i) = (n ≤ i) := tp_le (by omega) (by omega)
    rw [tq_g2 h, n1]
    simp only [ele]
    by_cases e : n ≤ i
    · rw [if_pos e, show n = i by omega]
    · have ih := ih (by omega) (by omega)
      have hs1 : tp_cnt (tp_isl r g) (i + 1) = tp_cnt (tp_isl r g) i + (if tp_isl r g i = true then 1 else 0) := rfl
      rw [hs1] at ih
      rw [if_neg e, tl_gs (tp_ix (by omega) (by omega)), tp_cn (by omega), tq_gL2 h (show i < 8 by omega)]
      by_cases c : r (50 + 4 * i) = nI g
      · rw [if_pos c, tp_L, tp_L, nI_1, nI_1]
        rw [if_pos (by unfold tp_isl; exact decide_eq_true c)] at ih
        exact ih
      · rw [if_neg c, tp_L, nI_1]
        rw [if_neg (by unfold tp_isl; simp [c])] at ih
        exact ih
theorem tc_lampsIn (h : tp_P u0 a r u) (hr : tp_rng r) {g : Nat} : f5_lampsIn a (nI g) u = some (nI (tp_cnt (tp_isl r g) (tp_cl (r 2))), u) :=
  tc_lampsIn_l h hr tl_F 0 (Nat.zero_le _) (by have := (tp_r2 hr).2; unfold tl_F; omega)
theorem tp_cnt0 {p : Nat → Bool} : ∀ n, tp_cnt p n = 0 ↔ tp_any p n = false
  | 0 => by simp [tp_cnt, tp_any]
  | n + 1 => by
    unfold tp_cnt tp_any
    rw [Bool.or_eq_false_iff, ← tp_cnt0 n]
    rcases p n with _ | _
    · simp
    · simp
theorem tp_cnt_le {p : Nat → Bool} : ∀ n, tp_cnt p n ≤ n
  | 0 => Nat.le_refl _
  | n + 1 => by
    unfold tp_cnt
    have := tp_cnt_le (p := p) n
    split <;> omega
def tp_mo (r : tp_R) (b : Int32) : Int32 := if b = -1 then 0 else r (49 + 4 * tp_cl b)
theorem tc_full_l (h : tp_P u0 a r u) (hr : tp_rng r) {g : Nat} (hg : g < 3) : ∀ (f i : Nat), i ≤ tp_cl (r 2) → tp_cl (r 2) - i < f → f5_fullestLampBelow_p8 f a (nI g) (r (18 + 2 * g) - 1) (tp_fw r g i) (tp_mo r (tp_fw r g i)) (nI i) u = some (tp_fw r g (tp_cl (r 2)), u)
  | 0, _, _, h2 => absurd h2 (Nat.not_lt_zero _)
  | f + 1, i, h1, h2 => by
    obtain ⟨n, n2, n1, n3⟩ := tp_xx (tp_r2 hr)
    have ih := fun q q2 => tc_full_l (g := g) h hr hg f (i + 1) q q2
    unfold tp_cl at h1 h2 ih ⊢
    rw [n3] at h1 h2 ih ⊢
    unfold f5_fullestLampBelow_p8
    have ele : (nI n ≤ nI i) = (n ≤ i) := tp_le (by omega) (by omega)
    rw [tq_g2 h, n1]
    simp only [ele]
    by_cases e : n ≤ i
    · rw [if_pos e, show n = i by omega]
    · have ih := ih (by omega) (by omega)
      have hl : i < 8 := by omega
      have hs1 : tp_fw r g (i + 1) = if tp_fwc r g (tp_fw r g i) i = true then nI i else tp_fw r g i := rfl
      rw [hs1] at ih
      unfold tp_fwc at ih
      rw [if_neg e, tl_gs (tp_ix (by omega) (by omega)), tp_cn (by omega), tc_burnsIn h hl, tp_b2S, tp_if0]
      by_cases c1 : r (50 + 4 * i) = nI g
      · by_cases c2 : r (49 + 4 * i) ≤ 0
        · rw [if_neg (by simp [c2]), tp_L, nI_1]
          rw [if_neg (by simp [c2])] at ih
          exact ih
        · rw [if_pos (by simp [c1, c2]), tl_gs (tp_ixn (n := i) (by omega) (by omega)), tq_gL3 h hl]
          by_cases c3 : r (18 + 2 * g) - 1 ≤ r (51 + 4 * i)
          · rw [if_pos c3, tp_L, nI_1]
            rw [if_neg (by simp [c3])] at ih
            exact ih
          · rw [if_neg c3, tl_gs (tp_ixn (n := i) (by omega) (by omega)), tq_gL1 h hl]
            have em : tp_mo r (nI i) = r (49 + 4 * i) := by
              unfold tp_mo tp_cl
              rw [if_neg (fun z => (tp_m1n (by omega)).mp z), tp_cn (by omega)]
            rcases tp_fw_N (r := r) g i with z | ⟨l, l1, l2, -⟩
            · have hm : tp_mo r (tp_fw r g i) = 0 := by unfold tp_mo; rw [if_pos z]
              rw [hm, if_neg c2, tl_gs (tp_ixn (n := i) (by omega) (by omega)), tp_L, tp_L, nI_1]
              rw [if_pos (by simp [c1, c2, c3, z]), em] at ih
              exact ih
            · have z : ¬ tp_fw r g i = -1 := by rw [l2]; exact fun z => (tp_m1n (by omega)).mp z
              have hm : tp_mo r (tp_fw r g i) = r (49 + 4 * tp_cl (tp_fw r g i)) := by unfold tp_mo; rw [if_neg z]
              rw [hm]
              by_cases c4 : r (49 + 4 * i) ≤ r (49 + 4 * tp_cl (tp_fw r g i))
              · rw [if_pos c4, tp_L, nI_1]
                rw [if_neg (by simp [z, c4]), hm] at ih
                exact ih
              · rw [if_neg c4, tl_gs (tp_ixn (n := i) (by omega) (by omega)), tp_L, tp_L, nI_1]
                rw [if_pos (by simp [c1, c2, c3, z, c4]), em] at ih
                exact ih
      · rw [if_neg (by simp [c1]), tp_L, nI_1]
        rw [if_neg (by simp [c1])] at ih
        exact ih
theorem tc_fullest (h : tp_P u0 a r u) (hr : tp_rng r) {g : Nat} (hg : g < 3) : f5_fullestLampBelow a (nI g) (r (18 + 2 * g) - 1) u = some (tp_fw r g (tp_cl (r 2)), u) :=
  tc_full_l h hr hg tl_F 0 (Nat.zero_le _) (by have := (tp_r2 hr).2; unfold tl_F; omega)
theorem tc_litc_l (h : tp_P u0 a r u) (hr : tp_rng r) {g : Nat} (hg : g < 3) : ∀ (f i : Nat), i ≤ tp_cl (r (18 + 2 * g)) → tp_cl (r (18 + 2 * g)) - i < f → f5_litCellByCell_p27 f a (nI g) (r (18 + 2 * g)) (nI (tp_cnt (fun c => tp_lit r (nI g) (nI c)) i)) (nI i) u = some (nI (tp_litn r g), u)
  | 0, _, _, h2 => absurd h2 (Nat.not_lt_zero _)
  | f + 1, i, h1, h2 => by
    obtain ⟨n, n2, n1, n3⟩ := tp_xx (tp_rga hr hg)
    have ih := fun q q2 => tc_litc_l (g := g) h hr hg f (i + 1) q q2
    unfold tp_cl at h1 h2
    rw [n3] at h1 h2
    unfold f5_litCellByCell_p27
    have ele : (r (18 + 2 * g) ≤ nI i) = (n ≤ i) := by rw [n1]; exact tp_le (by omega) (by omega)
    simp only [ele]
    by_cases e : n ≤ i
    · rw [if_pos e]
      unfold tp_litn tp_cl
      rw [n3, show n = i by omega]
    · have ih := ih (by unfold tp_cl; omega) (by unfold tp_cl; omega)
      have hs1 : tp_cnt (fun c => tp_lit r (nI g) (nI c)) (i + 1) = tp_cnt (fun c => tp_lit r (nI g) (nI c)) i + (if tp_lit r (nI g) (nI i) = true then 1 else 0) := rfl
      rw [hs1] at ih
      rw [if_neg e, tc_isLit h hr, tp_b2S, tp_if0]
      rcases q : tp_lit r (nI g) (nI i) with _ | _
      · rw [if_neg (by decide), tp_L, nI_1]
        rw [q, if_neg (by decide)] at ih
        exact ih
      · rw [if_pos rfl, tp_L, tp_L, nI_1, nI_1]
        rw [q, if_pos rfl] at ih
        exact ih
theorem tc_litc (h : tp_P u0 a r u) (hr : tp_rng r) {g : Nat} (hg : g < tp_cl (r 0)) : f5_litCellByCell a (nI g) u = some (nI (tp_litn r g), u) := by
  have b0 := (tp_r0 hr).2
  have hg3 : g < 3 := by omega
  unfold f5_litCellByCell
  rw [tc_hasGallery h, tp_b2S, tp_if0, (tp_ig_N hr).mpr ⟨g, hg, rfl⟩, if_pos rfl, tl_gs (tp_ix hg3 (by omega)), tp_cn (by omega), tq_gG0 h hg3, tp_L]
  exact tc_litc_l h hr hg3 tl_F 0 (Nat.zero_le _) (by have := (tp_rga hr hg3).2; unfold tl_F; omega)
end TPI
