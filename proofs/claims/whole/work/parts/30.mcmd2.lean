/-! The reference's reading of a text: a command. -/
section TPD
variable {u : tl_S} {m : Nat} {o t : tp_R} {tx : tp_R} {len : Nat}
theorem tp_gz {w : tl_S} : tl_g ((0 : Int32) = 0 ∨ (0 : Int32) = 1) (some ((0 : Int32), w)) = some (0, w) := if_pos (Or.inl rfl)
theorem tp_gone {w : tl_S} : tl_g ((1 : Int32) = 0 ∨ (1 : Int32) = 1) (some ((1 : Int32), w)) = some (1, w) := if_pos (Or.inr rfl)
theorem tp_wcg {c : Nat} (h : m ≠ c) : (tp_w (tp_w u c t) m o).1 c = t := by rw [tp_wgn (Ne.symm h), tp_wg]
theorem tp_wcu {c k : Nat} {x : Int32} (h : m ≠ c) : (tl_u (tp_w (tp_w u c t) m o).1 c k x, (tp_w (tp_w u c t) m o).2) = tp_w (tp_w u c (tp_up t k x)) m o := by
  rw [tp_wc h, tp_wu, tp_wc h]
theorem tp_nlt_le {x y : Int32} (h : x ≤ y) : ¬ y < x := by
  rw [tp_lti]; rw [tp_lei] at h; omega
theorem tp_lt_nle {x y : Int32} (h : ¬ x ≤ y) : y < x := by
  rw [tp_lti]; rw [tp_lei] at h; omega
theorem tr_l103 {p : Nat} (hlen : len ≤ 120) (ht : ∀ i, i < len → u.1 (m + 1) i = tx i ∧ tp_N 255 (tx i)) (h2 : o 2 = nI len) (h9 : o 9 = nI p) (hp : p < len) (hT : tp_Ok t) (hch : tx p = nI 103) : f10_readCommand m (m + 3) (tp_w (tp_w u (m + 3) t) m o) = tp_rs u m (m + 3) o t (tp_cmd tx len 103 (p + 1)) := by
  have hmc : m ≠ m + 3 := by omega
  have htw : ∀ i, i < len → (tp_w u (m + 3) t).1 (m + 1) i = tx i ∧ tp_N 255 (tx i) := fun i hi => by rw [tp_wgn (by omega)]; exact ht i hi
  have ht1 := (ht p hp).1
  have et : (tp_w (tp_w u (m + 3) t) m o).1 (m + 1) = u.1 (m + 1) := by rw [tp_wgn (by omega), tp_wgn (by omega)]
  have e : (nI 103).toInt = 103 := by decide
  unfold f10_readCommand
  rw [tp_wg, h9, et, tl_gs (tp_ix (n := p) (by omega) (by omega)), tp_cn (by omega), ht1, hch, tp_L, tp_L]
  simp only [e, Int.reduceLT, Int.reduceEq, or_self, if_false, if_true, reduceIte]
  have ew : (tl_u (tp_w (tp_w u (m + 3) t) m o).1 m 9 (nI p + 1), (tp_w (tp_w u (m + 3) t) m o).2) = tp_w (tp_w u (m + 3) t) m (tp_up o 9 (nI (p + 1))) := by rw [tp_wu, nI_1]
  rw [ew]
  unfold tp_cmd
  rw [if_pos rfl]
  try dsimp only
  have gX := tr_fig (u := tp_w u (m + 3) t) (x := (some 0)) (p := (p + 1)) hlen htw h2 (lo := 1) (hi := 60) (w := 2) (W := 2) (LO := 1) (HI := 60) rfl rfl rfl (by omega) (by omega) (by omega) (fun n h => by cases h; omega) (by omega)
  rw [tp_vo0] at gX
  rw [gX, tp_b2S]
  clear gX
  have hXb : ∀ n, (tp_sq tx len (some 0) 2 1 60 (p + 1)).1 = some n → n ≤ 1000 := tp_sq_b (by decide) (by decide)
  have hXr : ∀ n, (tp_sq tx len (some 0) 2 1 60 (p + 1)).1 = some n → 1 ≤ n ∧ n ≤ 60 ∧ (some 0).isSome = true := fun n h => tp_sq_r (by decide) h
  have hXp : (tp_sq tx len (some 0) 2 1 60 (p + 1)).2 ≤ len := (tp_sq_f (by omega)).2
  generalize tp_sq tx len (some 0) 2 1 60 (p + 1) = X at hXb hXr hXp ⊢
  obtain ⟨xo, px⟩ := X
  dsimp only
  dsimp only at hXr
  cases xo with
  | none =>
    rw [show tp_vo none = -1 from rfl, if_pos rfl]; rfl
  | some x =>
    obtain ⟨x1, x2, x3⟩ := hXr x rfl
    rw [if_neg (tr_vo_m1 (by omega))]
    simp only [tp_vos]
    show _ = tp_rs u m (m + 3) o t (true, _, _, _, _, _, _)
    by_cases c0 : 3 ≤ t 0
    · rw [tp_rs_N (by unfold tp_rf; rw [if_pos rfl, tp_ro0]; simp [c0])]
      simp only [tp_wcg hmc, if_pos c0, tr_done0, tp_b2S, tp_ite1, tp_u9_10]
    · have hh : tp_rf 1 (nI x) 0 0 0 t = 0 := by unfold tp_rf; rw [if_pos rfl, tp_ro0]; exact ⟨rfl, tp_iwN (L := 1) (B := 60) rfl rfl (by omega) (by omega) (by decide), by simp [c0]⟩
      have b0 := tp_r0 hT.1
      have hc : tp_cl (t 0) < 3 := by rw [b0.1, tp_k3, tp_le (by decide) (by omega)] at c0; omega
      rw [tp_rs_T hh]
      simp only [tp_wcg hmc, if_neg c0, ts_galleryOn hmc hT.1 hc, if_neg (tp_pos_nn b0 (by decide)), tr_done1, tp_b2S, tp_ite1, tp_u9_10]
      rfl

theorem tr_l109 {p : Nat} (hlen : len ≤ 120) (ht : ∀ i, i < len → u.1 (m + 1) i = tx i ∧ tp_N 255 (tx i)) (h2 : o 2 = nI len) (h9 : o 9 = nI p) (hp : p < len) (hT : tp_Ok t) (hch : tx p = nI 109) : f10_readCommand m (m + 3) (tp_w (tp_w u (m + 3) t) m o) = tp_rs u m (m + 3) o t (tp_cmd tx len 109 (p + 1)) := by
  have hmc : m ≠ m + 3 := by omega
  have htw : ∀ i, i < len → (tp_w u (m + 3) t).1 (m + 1) i = tx i ∧ tp_N 255 (tx i) := fun i hi => by rw [tp_wgn (by omega)]; exact ht i hi
  have ht1 := (ht p hp).1
  have et : (tp_w (tp_w u (m + 3) t) m o).1 (m + 1) = u.1 (m + 1) := by rw [tp_wgn (by omega), tp_wgn (by omega)]
  have e : (nI 109).toInt = 109 := by decide
  unfold f10_readCommand
  rw [tp_wg, h9, et, tl_gs (tp_ix (n := p) (by omega) (by omega)), tp_cn (by omega), ht1, hch, tp_L, tp_L]
  simp only [e, Int.reduceLT, Int.reduceEq, or_self, if_false, if_true, reduceIte]
  have ew : (tl_u (tp_w (tp_w u (m + 3) t) m o).1 m 9 (nI p + 1), (tp_w (tp_w u (m + 3) t) m o).2) = tp_w (tp_w u (m + 3) t) m (tp_up o 9 (nI (p + 1))) := by rw [tp_wu, nI_1]
  rw [ew]
  unfold tp_cmd
  rw [if_neg (by decide)]
  rw [if_pos rfl]
  try dsimp only
  have gX := tr_gs (u := tp_w u (m + 3) t) (x := (some 0)) (p := (p + 1)) hlen htw h2 (fun n h => by cases h; omega) (by omega)
  rw [tp_vo0] at gX
  rw [gX, tp_b2S]
  clear gX
  have hXb : ∀ n, (tp_sq tx len (some 0) 1 0 2 (p + 1)).1 = some n → n ≤ 1000 := tp_sq_b (by decide) (by decide)
  have hXr : ∀ n, (tp_sq tx len (some 0) 1 0 2 (p + 1)).1 = some n → 0 ≤ n ∧ n ≤ 2 ∧ (some 0).isSome = true := fun n h => tp_sq_r (by decide) h
  have hXp : (tp_sq tx len (some 0) 1 0 2 (p + 1)).2 ≤ len := (tp_sq_f (by omega)).2
  generalize tp_sq tx len (some 0) 1 0 2 (p + 1) = X at hXb hXr hXp ⊢
  have gY := tr_fig (u := tp_w u (m + 3) t) (x := X.1) (p := X.2) hlen htw h2 (lo := 1) (hi := 5) (w := 1) (W := 1) (LO := 1) (HI := 5) rfl rfl rfl (by omega) (by omega) (by omega) hXb hXp
  rw [gY, tp_b2S]
  clear gY
  have hYb : ∀ n, (tp_sq tx len X.1 1 1 5 X.2).1 = some n → n ≤ 1000 := tp_sq_b (by decide) (by decide)
  have hYr : ∀ n, (tp_sq tx len X.1 1 1 5 X.2).1 = some n → 1 ≤ n ∧ n ≤ 5 ∧ X.1.isSome = true := fun n h => tp_sq_r (by decide) h
  have hYp : (tp_sq tx len X.1 1 1 5 X.2).2 ≤ len := (tp_sq_f hXp).2
  generalize tp_sq tx len X.1 1 1 5 X.2 = Y at hYb hYr hYp ⊢
  obtain ⟨xo, px⟩ := X
  obtain ⟨yo, py⟩ := Y
  dsimp only
  dsimp only at hXr hYr
  cases yo with
  | none =>
    rw [show tp_vo none = -1 from rfl, if_pos rfl]; rfl
  | some y =>
    obtain ⟨y1, y2, y3⟩ := hYr y rfl
    obtain ⟨x, rfl⟩ := Option.isSome_iff_exists.mp y3
    obtain ⟨x1, x2, x3⟩ := hXr x rfl
    rw [if_neg (tr_vo_m1 (by omega))]
    simp only [tp_vos]
    show _ = tp_rs u m (m + 3) o t (true, _, _, _, _, _, _)
    rw [ts_canMiner hmc hT.1, tp_b2S, tp_if0]
    rcases cB : (tp_ig t (nI x) && !decide (6 ≤ t 1)) with _ | _
    · have hh : ¬ tp_rf 2 (nI x) (nI y) 0 0 t = 0 := by
        unfold tp_rf
        rw [if_neg (by decide), if_pos rfl, tp_ro0]
        rintro ⟨z1, -, z3⟩
        rw [z1, z3] at cB; cases cB
      rw [tp_rs_N hh, if_neg (by decide), tr_done0, tp_b2S, tp_ite1, tp_u9_10]
    · rw [Bool.and_eq_true] at cB
      have hh : tp_rf 2 (nI x) (nI y) 0 0 t = 0 := by
        unfold tp_rf
        rw [if_neg (by decide), if_pos rfl, tp_ro0]
        exact ⟨cB.1, tp_iwN (L := 1) (B := 5) rfl rfl (by omega) (by omega) (by decide), cB.2⟩
      have b1 := tp_r1 hT.1
      have hc : tp_cl (t 1) < 6 := (tp_ge_N b1.1 (by omega) tp_k6 (by decide)).mp cB.2
      rw [tp_rs_T hh, if_pos rfl, ts_minerOn hmc hT.1 hc, tp_b2S, if_neg (tp_pos_nn b1 (by decide)), tr_done1, tp_b2S, tp_ite1, tp_u9_10]
      rfl

theorem tr_l108 {p : Nat} (hlen : len ≤ 120) (ht : ∀ i, i < len → u.1 (m + 1) i = tx i ∧ tp_N 255 (tx i)) (h2 : o 2 = nI len) (h9 : o 9 = nI p) (hp : p < len) (hT : tp_Ok t) (hch : tx p = nI 108) : f10_readCommand m (m + 3) (tp_w (tp_w u (m + 3) t) m o) = tp_rs u m (m + 3) o t (tp_cmd tx len 108 (p + 1)) := by
  have hmc : m ≠ m + 3 := by omega
  have htw : ∀ i, i < len → (tp_w u (m + 3) t).1 (m + 1) i = tx i ∧ tp_N 255 (tx i) := fun i hi => by rw [tp_wgn (by omega)]; exact ht i hi
  have ht1 := (ht p hp).1
  have et : (tp_w (tp_w u (m + 3) t) m o).1 (m + 1) = u.1 (m + 1) := by rw [tp_wgn (by omega), tp_wgn (by omega)]
  have e : (nI 108).toInt = 108 := by decide
  unfold f10_readCommand
  rw [tp_wg, h9, et, tl_gs (tp_ix (n := p) (by omega) (by omega)), tp_cn (by omega), ht1, hch, tp_L, tp_L]
  simp only [e, Int.reduceLT, Int.reduceEq, or_self, if_false, if_true, reduceIte]
  have ew : (tl_u (tp_w (tp_w u (m + 3) t) m o).1 m 9 (nI p + 1), (tp_w (tp_w u (m + 3) t) m o).2) = tp_w (tp_w u (m + 3) t) m (tp_up o 9 (nI (p + 1))) := by rw [tp_wu, nI_1]
  rw [ew]
  unfold tp_cmd
  rw [if_neg (by decide)]
  rw [if_neg (by decide)]
  rw [if_pos rfl]
  try dsimp only
  unfold f10_readLamp
  have gX := tr_gs (u := tp_w u (m + 3) t) (x := (some 0)) (p := (p + 1)) hlen htw h2 (fun n h => by cases h; omega) (by omega)
  rw [tp_vo0] at gX
  rw [gX, tp_b2S]
  clear gX
  have hXb : ∀ n, (tp_sq tx len (some 0) 1 0 2 (p + 1)).1 = some n → n ≤ 1000 := tp_sq_b (by decide) (by decide)
  have hXr : ∀ n, (tp_sq tx len (some 0) 1 0 2 (p + 1)).1 = some n → 0 ≤ n ∧ n ≤ 2 ∧ (some 0).isSome = true := fun n h => tp_sq_r (by decide) h
  have hXp : (tp_sq tx len (some 0) 1 0 2 (p + 1)).2 ≤ len := (tp_sq_f (by omega)).2
  generalize tp_sq tx len (some 0) 1 0 2 (p + 1) = X at hXb hXr hXp ⊢
  have gY := tr_cs (u := tp_w u (m + 3) t) (x := X.1) (p := X.2) hlen htw h2 hXb hXp
  rw [gY, tp_b2S]
  clear gY
  have hYb : ∀ n, (tp_sq tx len X.1 2 0 59 X.2).1 = some n → n ≤ 1000 := tp_sq_b (by decide) (by decide)
  have hYr : ∀ n, (tp_sq tx len X.1 2 0 59 X.2).1 = some n → 0 ≤ n ∧ n ≤ 59 ∧ X.1.isSome = true := fun n h => tp_sq_r (by decide) h
  have hYp : (tp_sq tx len X.1 2 0 59 X.2).2 ≤ len := (tp_sq_f hXp).2
  generalize tp_sq tx len X.1 2 0 59 X.2 = Y at hYb hYr hYp ⊢
  have gZ := tr_fig (u := tp_w u (m + 3) t) (x := Y.1) (p := Y.2) hlen htw h2 (lo := 1) (hi := 9) (w := 1) (W := 1) (LO := 1) (HI := 9) rfl rfl rfl (by omega) (by omega) (by omega) hYb hYp
  rw [gZ, tp_b2S]
  clear gZ
  have hZb : ∀ n, (tp_sq tx len Y.1 1 1 9 Y.2).1 = some n → n ≤ 1000 := tp_sq_b (by decide) (by decide)
  have hZr : ∀ n, (tp_sq tx len Y.1 1 1 9 Y.2).1 = some n → 1 ≤ n ∧ n ≤ 9 ∧ Y.1.isSome = true := fun n h => tp_sq_r (by decide) h
  have hZp : (tp_sq tx len Y.1 1 1 9 Y.2).2 ≤ len := (tp_sq_f hYp).2
  generalize tp_sq tx len Y.1 1 1 9 Y.2 = Z at hZb hZr hZp ⊢
  have gQ := tr_fig (u := tp_w u (m + 3) t) (x := Z.1) (p := Z.2) hlen htw h2 (lo := 0) (hi := 99) (w := 2) (W := 2) (LO := 0) (HI := 99) rfl rfl rfl (by omega) (by omega) (by omega) hZb hZp
  rw [gQ, tp_b2S]
  clear gQ
  have hQb : ∀ n, (tp_sq tx len Z.1 2 0 99 Z.2).1 = some n → n ≤ 1000 := tp_sq_b (by decide) (by decide)
  have hQr : ∀ n, (tp_sq tx len Z.1 2 0 99 Z.2).1 = some n → 0 ≤ n ∧ n ≤ 99 ∧ Z.1.isSome = true := fun n h => tp_sq_r (by decide) h
  have hQp : (tp_sq tx len Z.1 2 0 99 Z.2).2 ≤ len := (tp_sq_f hZp).2
  generalize tp_sq tx len Z.1 2 0 99 Z.2 = Q at hQb hQr hQp ⊢
  obtain ⟨xo, px⟩ := X
  obtain ⟨yo, py⟩ := Y
  obtain ⟨zo, pz⟩ := Z
  obtain ⟨wo, pw⟩ := Q
  dsimp only
  dsimp only at hXr hYr hZr hQr
  cases wo with
  | none =>
    rw [show tp_vo none = -1 from rfl, if_pos rfl, tp_b2S, tp_gz]; rfl
  | some w =>
    obtain ⟨w1, w2, w3⟩ := hQr w rfl
    obtain ⟨z, rfl⟩ := Option.isSome_iff_exists.mp w3
    obtain ⟨z1, z2, z3⟩ := hZr z rfl
    obtain ⟨y, rfl⟩ := Option.isSome_iff_exists.mp z3
    obtain ⟨y1, y2, y3⟩ := hYr y rfl
    obtain ⟨x, rfl⟩ := Option.isSome_iff_exists.mp y3
    obtain ⟨x1, x2, x3⟩ := hXr x rfl
    rw [if_neg (tr_vo_m1 (by omega))]
    simp only [tp_vos]
    show _ = tp_rs u m (m + 3) o t (true, _, _, _, _, _, _)
    rw [ts_canLamp hmc hT.1, tp_b2S, tp_if0]
    rcases cB : (tp_ic t (nI x) (nI y) && !decide (8 ≤ t 2)) with _ | _
    · have hh : ¬ tp_rf 4 (nI x) (nI y) (nI z) (nI w) t = 0 := by
        unfold tp_rf
        rw [if_neg (by decide), if_neg (by decide), if_neg (by decide), if_pos rfl, tp_ro0]
        rintro ⟨z1, -, z3⟩
        rw [z1, z3] at cB; cases cB
      rw [tp_rs_N hh, if_neg (by decide), tr_done0, tp_b2S, tp_ite1, tp_u9_10, tp_b2S, tp_gone]
    · rw [Bool.and_eq_true] at cB
      have hh : tp_rf 4 (nI x) (nI y) (nI z) (nI w) t = 0 := by
        unfold tp_rf
        rw [if_neg (by decide), if_neg (by decide), if_neg (by decide), if_pos rfl, tp_ro0]
        exact ⟨cB.1, by rw [tp_iwN (l := 1) (h := 9) (L := 1) (B := 9) rfl rfl (by omega) (by omega) (by decide), tp_iwN (l := 0) (h := 99) (L := 0) (B := 99) rfl rfl (by omega) (by omega) (by decide)]; rfl, cB.2⟩
      have b2 := tp_r2 hT.1
      have hc : tp_cl (t 2) < 8 := (tp_ge_N b2.1 (by omega) tp_k8 (by decide)).mp cB.2
      rw [tp_rs_T hh, if_pos rfl, ts_lampOn hmc hT.1 hc, tp_b2S, if_neg (tp_pos_nn b2 (by decide)), tr_done1, tp_b2S, tp_ite1, tp_u9_10, tp_b2S, tp_gone]
      rfl

theorem tr_l115 {p : Nat} (hlen : len ≤ 120) (ht : ∀ i, i < len → u.1 (m + 1) i = tx i ∧ tp_N 255 (tx i)) (h2 : o 2 = nI len) (h9 : o 9 = nI p) (hp : p < len) (hT : tp_Ok t) (hch : tx p = nI 115) : f10_readCommand m (m + 3) (tp_w (tp_w u (m + 3) t) m o) = tp_rs u m (m + 3) o t (tp_cmd tx len 115 (p + 1)) := by
  have hmc : m ≠ m + 3 := by omega
  have htw : ∀ i, i < len → (tp_w u (m + 3) t).1 (m + 1) i = tx i ∧ tp_N 255 (tx i) := fun i hi => by rw [tp_wgn (by omega)]; exact ht i hi
  have ht1 := (ht p hp).1
  have et : (tp_w (tp_w u (m + 3) t) m o).1 (m + 1) = u.1 (m + 1) := by rw [tp_wgn (by omega), tp_wgn (by omega)]
  have e : (nI 115).toInt = 115 := by decide
  unfold f10_readCommand
  rw [tp_wg, h9, et, tl_gs (tp_ix (n := p) (by omega) (by omega)), tp_cn (by omega), ht1, hch, tp_L, tp_L]
  simp only [e, Int.reduceLT, Int.reduceEq, or_self, if_false, if_true, reduceIte]
  have ew : (tl_u (tp_w (tp_w u (m + 3) t) m o).1 m 9 (nI p + 1), (tp_w (tp_w u (m + 3) t) m o).2) = tp_w (tp_w u (m + 3) t) m (tp_up o 9 (nI (p + 1))) := by rw [tp_wu, nI_1]
  rw [ew]
  unfold tp_cmd
  rw [if_neg (by decide)]
  rw [if_neg (by decide)]
  rw [if_neg (by decide)]
  rw [if_pos rfl]
  try dsimp only
  have gX := tr_fig (u := tp_w u (m + 3) t) (x := (some 0)) (p := (p + 1)) hlen htw h2 (lo := 0) (hi := 999) (w := 3) (W := 3) (LO := 0) (HI := 999) rfl rfl rfl (by omega) (by omega) (by omega) (fun n h => by cases h; omega) (by omega)
  rw [tp_vo0] at gX
  rw [gX, tp_b2S]
  clear gX
  have hXb : ∀ n, (tp_sq tx len (some 0) 3 0 999 (p + 1)).1 = some n → n ≤ 1000 := tp_sq_b (by decide) (by decide)
  have hXr : ∀ n, (tp_sq tx len (some 0) 3 0 999 (p + 1)).1 = some n → 0 ≤ n ∧ n ≤ 999 ∧ (some 0).isSome = true := fun n h => tp_sq_r (by decide) h
  have hXp : (tp_sq tx len (some 0) 3 0 999 (p + 1)).2 ≤ len := (tp_sq_f (by omega)).2
  generalize tp_sq tx len (some 0) 3 0 999 (p + 1) = X at hXb hXr hXp ⊢
  obtain ⟨xo, px⟩ := X
  dsimp only
  dsimp only at hXr
  cases xo with
  | none =>
    rw [show tp_vo none = -1 from rfl, if_pos rfl]; rfl
  | some x =>
    obtain ⟨x1, x2, x3⟩ := hXr x rfl
    rw [if_neg (tr_vo_m1 (by omega))]
    simp only [tp_vos]
    show _ = tp_rs u m (m + 3) o t (true, _, _, _, _, _, _)
    by_cases c0 : t 4 + nI x ≤ 9999
    · have b4 := tp_r4 hT.1
      obtain ⟨s, s2, s1, -⟩ := tp_xx b4
      have c1 := c0
      rw [s1, nI_add, tp_k9999, tp_le (by omega) (by decide)] at c1
      have hh : tp_rf 5 (nI x) 0 0 0 t = 0 := by
        unfold tp_rf
        rw [if_neg (by decide), if_neg (by decide), if_neg (by decide), if_neg (by decide), if_pos rfl, tp_ro0]
        refine ⟨rfl, tp_iwN (L := 0) (B := 999) rfl rfl (by omega) (by omega) (by decide), ?_⟩
        rw [s1, tp_k9999, tp_sb s2]
        simp (disch := omega) only [tp_lt]
        simp; omega
      rw [tp_rs_T hh]
      have nn : ¬ t 4 + nI x < 0 := by rw [s1, nI_add, tp_neg (by omega)]; exact id
      simp only [tp_wcg hmc, if_neg (tp_nlt_le c0), ts_storeOn hmc, if_neg nn, tr_done1, tp_b2S, tp_ite1, tp_u9_10]
      rfl
    · have b4 := tp_r4 hT.1
      obtain ⟨s, s2, s1, -⟩ := tp_xx b4
      have c1 := c0
      rw [s1, nI_add, tp_k9999, tp_le (by omega) (by decide)] at c1
      have hh : ¬ tp_rf 5 (nI x) 0 0 0 t = 0 := by
        unfold tp_rf
        rw [if_neg (by decide), if_neg (by decide), if_neg (by decide), if_neg (by decide), if_pos rfl, tp_ro0]
        rintro ⟨-, -, z3⟩
        rw [s1, tp_k9999, tp_sb s2] at z3
        simp (disch := omega) only [tp_lt] at z3
        simp at z3; omega
      rw [tp_rs_N hh]
      simp only [tp_wcg hmc, if_pos (tp_lt_nle c0), tr_done0, tp_b2S, tp_ite1, tp_u9_10]

theorem tr_l104 {p : Nat} (hlen : len ≤ 120) (ht : ∀ i, i < len → u.1 (m + 1) i = tx i ∧ tp_N 255 (tx i)) (h2 : o 2 = nI len) (h9 : o 9 = nI p) (hp : p < len) (hT : tp_Ok t) (hch : tx p = nI 104) : f10_readCommand m (m + 3) (tp_w (tp_w u (m + 3) t) m o) = tp_rs u m (m + 3) o t (tp_cmd tx len 104 (p + 1)) := by
  have hmc : m ≠ m + 3 := by omega
  have htw : ∀ i, i < len → (tp_w u (m + 3) t).1 (m + 1) i = tx i ∧ tp_N 255 (tx i) := fun i hi => by rw [tp_wgn (by omega)]; exact ht i hi
  have ht1 := (ht p hp).1
  have et : (tp_w (tp_w u (m + 3) t) m o).1 (m + 1) = u.1 (m + 1) := by rw [tp_wgn (by omega), tp_wgn (by omega)]
  have e : (nI 104).toInt = 104 := by decide
  unfold f10_readCommand
  rw [tp_wg, h9, et, tl_gs (tp_ix (n := p) (by omega) (by omega)), tp_cn (by omega), ht1, hch, tp_L, tp_L]
  simp only [e, Int.reduceLT, Int.reduceEq, or_self, if_false, if_true, reduceIte]
  have ew : (tl_u (tp_w (tp_w u (m + 3) t) m o).1 m 9 (nI p + 1), (tp_w (tp_w u (m + 3) t) m o).2) = tp_w (tp_w u (m + 3) t) m (tp_up o 9 (nI (p + 1))) := by rw [tp_wu, nI_1]
  rw [ew]
  unfold tp_cmd
  rw [if_neg (by decide)]
  rw [if_neg (by decide)]
  rw [if_neg (by decide)]
  rw [if_neg (by decide)]
  rw [if_pos rfl]
  try dsimp only
  unfold f10_readHang
  have gX := tr_ls (u := tp_w u (m + 3) t) (x := (some 0)) (p := (p + 1)) hlen htw h2 (fun n h => by cases h; omega) (by omega)
  rw [tp_vo0] at gX
  rw [gX, tp_b2S]
  clear gX
  have hXb : ∀ n, (tp_sq tx len (some 0) 1 0 7 (p + 1)).1 = some n → n ≤ 1000 := tp_sq_b (by decide) (by decide)
  have hXr : ∀ n, (tp_sq tx len (some 0) 1 0 7 (p + 1)).1 = some n → 0 ≤ n ∧ n ≤ 7 ∧ (some 0).isSome = true := fun n h => tp_sq_r (by decide) h
  have hXp : (tp_sq tx len (some 0) 1 0 7 (p + 1)).2 ≤ len := (tp_sq_f (by omega)).2
  generalize tp_sq tx len (some 0) 1 0 7 (p + 1) = X at hXb hXr hXp ⊢
  have gY := tr_gs (u := tp_w u (m + 3) t) (x := X.1) (p := X.2) hlen htw h2 hXb hXp
  rw [gY, tp_b2S]
  clear gY
  have hYb : ∀ n, (tp_sq tx len X.1 1 0 2 X.2).1 = some n → n ≤ 1000 := tp_sq_b (by decide) (by decide)
  have hYr : ∀ n, (tp_sq tx len X.1 1 0 2 X.2).1 = some n → 0 ≤ n ∧ n ≤ 2 ∧ X.1.isSome = true := fun n h => tp_sq_r (by decide) h
  have hYp : (tp_sq tx len X.1 1 0 2 X.2).2 ≤ len := (tp_sq_f hXp).2
  generalize tp_sq tx len X.1 1 0 2 X.2 = Y at hYb hYr hYp ⊢
  have gZ := tr_cs (u := tp_w u (m + 3) t) (x := Y.1) (p := Y.2) hlen htw h2 hYb hYp
  rw [gZ, tp_b2S]
  clear gZ
  have hZb : ∀ n, (tp_sq tx len Y.1 2 0 59 Y.2).1 = some n → n ≤ 1000 := tp_sq_b (by decide) (by decide)
  have hZr : ∀ n, (tp_sq tx len Y.1 2 0 59 Y.2).1 = some n → 0 ≤ n ∧ n ≤ 59 ∧ Y.1.isSome = true := fun n h => tp_sq_r (by decide) h
  have hZp : (tp_sq tx len Y.1 2 0 59 Y.2).2 ≤ len := (tp_sq_f hYp).2
  generalize tp_sq tx len Y.1 2 0 59 Y.2 = Z at hZb hZr hZp ⊢
  obtain ⟨xo, px⟩ := X
  obtain ⟨yo, py⟩ := Y
  obtain ⟨zo, pz⟩ := Z
  dsimp only
  dsimp only at hXr hYr hZr
  cases zo with
  | none =>
    rw [show tp_vo none = -1 from rfl, if_pos rfl, tp_b2S, tp_gz]; rfl
  | some z =>
    obtain ⟨z1, z2, z3⟩ := hZr z rfl
    obtain ⟨y, rfl⟩ := Option.isSome_iff_exists.mp z3
    obtain ⟨y1, y2, y3⟩ := hYr y rfl
    obtain ⟨x, rfl⟩ := Option.isSome_iff_exists.mp y3
    obtain ⟨x1, x2, x3⟩ := hXr x rfl
    rw [if_neg (tr_vo_m1 (by omega))]
    simp only [tp_vos]
    show _ = tp_rs u m (m + 3) o t (true, _, _, _, _, _, _)
    rw [ts_canHang hmc hT.1, tp_b2S, tp_if0]
    rcases cB : (tp_il t (nI x) && tp_ic t (nI y) (nI z) && !decide (6 ≤ t 8)) with _ | _
    · have hh : ¬ tp_rf 6 (nI x) (nI y) (nI z) 0 t = 0 := by
        unfold tp_rf
        rw [if_neg (by decide), if_neg (by decide), if_neg (by decide), if_neg (by decide), if_neg (by decide), if_pos rfl, tp_ro0]
        rintro ⟨z1, -, z3⟩
        rw [z1, z3] at cB; cases cB
      rw [tp_rs_N hh, if_neg (by decide), tr_done0, tp_b2S, tp_ite1, tp_u9_10, tp_b2S, tp_gone]
    · rw [Bool.and_eq_true] at cB
      have hh : tp_rf 6 (nI x) (nI y) (nI z) 0 t = 0 := by
        unfold tp_rf
        rw [if_neg (by decide), if_neg (by decide), if_neg (by decide), if_neg (by decide), if_neg (by decide), if_pos rfl, tp_ro0]
        exact ⟨cB.1, rfl, cB.2⟩
      have b8 := tp_r8 hT.1
      have hc : tp_cl (t 8) < 6 := (tp_ge_N b8.1 (by omega) tp_k6 (by decide)).mp cB.2
      have nn : ¬ t 8 + 1 ≤ 0 := by rw [b8.1, nI_1, tp_le0 (by omega)]; omega
      rw [tp_rs_T hh, if_pos rfl, ts_orderOn hmc hT.1 hc, tp_b2S, if_neg nn, tr_done1, tp_b2S, tp_ite1, tp_u9_10, tp_b2S, tp_gone]
      rfl

theorem tr_l102 {p : Nat} (hlen : len ≤ 120) (ht : ∀ i, i < len → u.1 (m + 1) i = tx i ∧ tp_N 255 (tx i)) (h2 : o 2 = nI len) (h9 : o 9 = nI p) (hp : p < len) (hT : tp_Ok t) (hch : tx p = nI 102) : f10_readCommand m (m + 3) (tp_w (tp_w u (m + 3) t) m o) = tp_rs u m (m + 3) o t (tp_cmd tx len 102 (p + 1)) := by
  have hmc : m ≠ m + 3 := by omega
  have htw : ∀ i, i < len → (tp_w u (m + 3) t).1 (m + 1) i = tx i ∧ tp_N 255 (tx i) := fun i hi => by rw [tp_wgn (by omega)]; exact ht i hi
  have ht1 := (ht p hp).1
  have et : (tp_w (tp_w u (m + 3) t) m o).1 (m + 1) = u.1 (m + 1) := by rw [tp_wgn (by omega), tp_wgn (by omega)]
  have e : (nI 102).toInt = 102 := by decide
  unfold f10_readCommand
  rw [tp_wg, h9, et, tl_gs (tp_ix (n := p) (by omega) (by omega)), tp_cn (by omega), ht1, hch, tp_L, tp_L]
  simp only [e, Int.reduceLT, Int.reduceEq, or_self, if_false, if_true, reduceIte]
  have ew : (tl_u (tp_w (tp_w u (m + 3) t) m o).1 m 9 (nI p + 1), (tp_w (tp_w u (m + 3) t) m o).2) = tp_w (tp_w u (m + 3) t) m (tp_up o 9 (nI (p + 1))) := by rw [tp_wu, nI_1]
  rw [ew]
  unfold tp_cmd
  rw [if_neg (by decide)]
  rw [if_neg (by decide)]
  rw [if_neg (by decide)]
  rw [if_neg (by decide)]
  rw [if_neg (by decide)]
  rw [if_pos rfl]
  try dsimp only
  have gX := tr_ls (u := tp_w u (m + 3) t) (x := (some 0)) (p := (p + 1)) hlen htw h2 (fun n h => by cases h; omega) (by omega)
  rw [tp_vo0] at gX
  rw [gX, tp_b2S]
  clear gX
  have hXb : ∀ n, (tp_sq tx len (some 0) 1 0 7 (p + 1)).1 = some n → n ≤ 1000 := tp_sq_b (by decide) (by decide)
  have hXr : ∀ n, (tp_sq tx len (some 0) 1 0 7 (p + 1)).1 = some n → 0 ≤ n ∧ n ≤ 7 ∧ (some 0).isSome = true := fun n h => tp_sq_r (by decide) h
  have hXp : (tp_sq tx len (some 0) 1 0 7 (p + 1)).2 ≤ len := (tp_sq_f (by omega)).2
  generalize tp_sq tx len (some 0) 1 0 7 (p + 1) = X at hXb hXr hXp ⊢
  have gY := tr_fig (u := tp_w u (m + 3) t) (x := X.1) (p := X.2) hlen htw h2 (lo := 1) (hi := 99) (w := 2) (W := 2) (LO := 1) (HI := 99) rfl rfl rfl (by omega) (by omega) (by omega) hXb hXp
  rw [gY, tp_b2S]
  clear gY
  have hYb : ∀ n, (tp_sq tx len X.1 2 1 99 X.2).1 = some n → n ≤ 1000 := tp_sq_b (by decide) (by decide)
  have hYr : ∀ n, (tp_sq tx len X.1 2 1 99 X.2).1 = some n → 1 ≤ n ∧ n ≤ 99 ∧ X.1.isSome = true := fun n h => tp_sq_r (by decide) h
  have hYp : (tp_sq tx len X.1 2 1 99 X.2).2 ≤ len := (tp_sq_f hXp).2
  generalize tp_sq tx len X.1 2 1 99 X.2 = Y at hYb hYr hYp ⊢
  obtain ⟨xo, px⟩ := X
  obtain ⟨yo, py⟩ := Y
  dsimp only
  dsimp only at hXr hYr
  cases yo with
  | none =>
    rw [show tp_vo none = -1 from rfl, if_pos rfl]; rfl
  | some y =>
    obtain ⟨y1, y2, y3⟩ := hYr y rfl
    obtain ⟨x, rfl⟩ := Option.isSome_iff_exists.mp y3
    obtain ⟨x1, x2, x3⟩ := hXr x rfl
    rw [if_neg (tr_vo_m1 (by omega))]
    simp only [tp_vos]
    show _ = tp_rs u m (m + 3) o t (true, _, _, _, _, _, _)
    rw [ts_canFill hmc hT.1, tp_b2S, tp_if0]
    rcases cB : (tp_il t (nI x) && tp_iw (nI y) 1 99 && !decide (6 ≤ t 8)) with _ | _
    · have hh : ¬ tp_rf 7 (nI x) (nI y) 0 0 t = 0 := by
        unfold tp_rf
        rw [if_neg (by decide), if_neg (by decide), if_neg (by decide), if_neg (by decide), if_neg (by decide), if_neg (by decide), if_pos rfl, tp_ro0]
        rintro ⟨z1, z2, z3⟩
        rw [z1, z2, z3] at cB; cases cB
      rw [tp_rs_N hh, if_neg (by decide), tr_done0, tp_b2S, tp_ite1, tp_u9_10]
    · rw [Bool.and_eq_true, Bool.and_eq_true] at cB
      have hh : tp_rf 7 (nI x) (nI y) 0 0 t = 0 := by
        unfold tp_rf
        rw [if_neg (by decide), if_neg (by decide), if_neg (by decide), if_neg (by decide), if_neg (by decide), if_neg (by decide), if_pos rfl, tp_ro0]
        exact ⟨cB.1.1, cB.1.2, cB.2⟩
      have b8 := tp_r8 hT.1
      have hc : tp_cl (t 8) < 6 := (tp_ge_N b8.1 (by omega) tp_k6 (by decide)).mp cB.2
      have nn : ¬ t 8 + 1 ≤ 0 := by rw [b8.1, nI_1, tp_le0 (by omega)]; omega
      rw [tp_rs_T hh, if_pos rfl, ts_orderOn hmc hT.1 hc, tp_b2S, if_neg nn, tr_done1, tp_b2S, tp_ite1, tp_u9_10]
      rfl

theorem tr_l97 {p : Nat} (hlen : len ≤ 120) (ht : ∀ i, i < len → u.1 (m + 1) i = tx i ∧ tp_N 255 (tx i)) (h2 : o 2 = nI len) (h9 : o 9 = nI p) (hp : p < len) (hT : tp_Ok t) (hch : tx p = nI 97) : f10_readCommand m (m + 3) (tp_w (tp_w u (m + 3) t) m o) = tp_rs u m (m + 3) o t (tp_cmd tx len 97 (p + 1)) := by
  have hmc : m ≠ m + 3 := by omega
  have htw : ∀ i, i < len → (tp_w u (m + 3) t).1 (m + 1) i = tx i ∧ tp_N 255 (tx i) := fun i hi => by rw [tp_wgn (by omega)]; exact ht i hi
  have ht1 := (ht p hp).1
  have et : (tp_w (tp_w u (m + 3) t) m o).1 (m + 1) = u.1 (m + 1) := by rw [tp_wgn (by omega), tp_wgn (by omega)]
  have e : (nI 97).toInt = 97 := by decide
  unfold f10_readCommand
  rw [tp_wg, h9, et, tl_gs (tp_ix (n := p) (by omega) (by omega)), tp_cn (by omega), ht1, hch, tp_L, tp_L]
  simp only [e, Int.reduceLT, Int.reduceEq, or_self, if_false, if_true, reduceIte]
  have ew : (tl_u (tp_w (tp_w u (m + 3) t) m o).1 m 9 (nI p + 1), (tp_w (tp_w u (m + 3) t) m o).2) = tp_w (tp_w u (m + 3) t) m (tp_up o 9 (nI (p + 1))) := by rw [tp_wu, nI_1]
  rw [ew]
  unfold tp_cmd
  rw [if_neg (by decide)]
  rw [if_neg (by decide)]
  rw [if_neg (by decide)]
  rw [if_neg (by decide)]
  rw [if_neg (by decide)]
  rw [if_neg (by decide)]
  rw [if_pos rfl]
  try dsimp only
  have gX := tr_fig (u := tp_w u (m + 3) t) (x := (some 0)) (p := (p + 1)) hlen htw h2 (lo := 0) (hi := 1) (w := 1) (W := 1) (LO := 0) (HI := 1) rfl rfl rfl (by omega) (by omega) (by omega) (fun n h => by cases h; omega) (by omega)
  rw [tp_vo0] at gX
  rw [gX, tp_b2S]
  clear gX
  have hXb : ∀ n, (tp_sq tx len (some 0) 1 0 1 (p + 1)).1 = some n → n ≤ 1000 := tp_sq_b (by decide) (by decide)
  have hXr : ∀ n, (tp_sq tx len (some 0) 1 0 1 (p + 1)).1 = some n → 0 ≤ n ∧ n ≤ 1 ∧ (some 0).isSome = true := fun n h => tp_sq_r (by decide) h
  have hXp : (tp_sq tx len (some 0) 1 0 1 (p + 1)).2 ≤ len := (tp_sq_f (by omega)).2
  generalize tp_sq tx len (some 0) 1 0 1 (p + 1) = X at hXb hXr hXp ⊢
  obtain ⟨xo, px⟩ := X
  dsimp only
  dsimp only at hXr
  cases xo with
  | none =>
    rw [show tp_vo none = -1 from rfl, if_pos rfl, tp_L, if_pos rfl, tp_wcg hmc, tp_wcu hmc, tp_ui]; rfl
  | some x =>
    obtain ⟨x1, x2, x3⟩ := hXr x rfl
    rw [if_neg (tr_vo_m1 (by omega))]
    rw [tp_L, if_neg (tr_vo_m1 (by omega))]
    simp only [tp_vos]
    show _ = tp_rs u m (m + 3) o t (true, _, _, _, _, _, _)
    have hh : tp_rf 9 1 (nI x) 0 0 t = 0 := by
      unfold tp_rf
      rw [if_neg (by decide), if_neg (by decide), if_neg (by decide), if_neg (by decide), if_neg (by decide), if_neg (by decide), if_neg (by decide), if_neg (by decide), if_pos rfl, tp_ro0]
      refine ⟨rfl, ?_, rfl⟩
      unfold tp_is
      rw [if_neg (by decide), if_pos rfl]
      exact tp_iwN (L := 0) (B := 1) rfl rfl (by omega) (by omega) (by decide)
    rw [tp_rs_T hh, tp_wcu hmc, ← tp_u9_10 (o := o) (x := nI px), tp_ui]
    rfl

theorem tr_l116 {p : Nat} (hlen : len ≤ 120) (ht : ∀ i, i < len → u.1 (m + 1) i = tx i ∧ tp_N 255 (tx i)) (h2 : o 2 = nI len) (h9 : o 9 = nI p) (hp : p < len) (hT : tp_Ok t) (hch : tx p = nI 116) : f10_readCommand m (m + 3) (tp_w (tp_w u (m + 3) t) m o) = tp_rs u m (m + 3) o t (tp_cmd tx len 116 (p + 1)) := by
  have hmc : m ≠ m + 3 := by omega
  have htw : ∀ i, i < len → (tp_w u (m + 3) t).1 (m + 1) i = tx i ∧ tp_N 255 (tx i) := fun i hi => by rw [tp_wgn (by omega)]; exact ht i hi
  have ht1 := (ht p hp).1
  have et : (tp_w (tp_w u (m + 3) t) m o).1 (m + 1) = u.1 (m + 1) := by rw [tp_wgn (by omega), tp_wgn (by omega)]
  have e : (nI 116).toInt = 116 := by decide
  unfold f10_readCommand
  rw [tp_wg, h9, et, tl_gs (tp_ix (n := p) (by omega) (by omega)), tp_cn (by omega), ht1, hch, tp_L, tp_L]
  simp only [e, Int.reduceLT, Int.reduceEq, or_self, if_false, if_true, reduceIte]
  have ew : (tl_u (tp_w (tp_w u (m + 3) t) m o).1 m 9 (nI p + 1), (tp_w (tp_w u (m + 3) t) m o).2) = tp_w (tp_w u (m + 3) t) m (tp_up o 9 (nI (p + 1))) := by rw [tp_wu, nI_1]
  rw [ew]
  unfold tp_cmd
  rw [if_neg (by decide)]
  rw [if_neg (by decide)]
  rw [if_neg (by decide)]
  rw [if_neg (by decide)]
  rw [if_neg (by decide)]
  rw [if_neg (by decide)]
  rw [if_neg (by decide)]
  rw [if_pos rfl]
  try dsimp only
  have gX := tr_fig (u := tp_w u (m + 3) t) (x := (some 0)) (p := (p + 1)) hlen htw h2 (lo := 1) (hi := 60) (w := 2) (W := 2) (LO := 1) (HI := 60) rfl rfl rfl (by omega) (by omega) (by omega) (fun n h => by cases h; omega) (by omega)
  rw [tp_vo0] at gX
  rw [gX, tp_b2S]
  clear gX
  have hXb : ∀ n, (tp_sq tx len (some 0) 2 1 60 (p + 1)).1 = some n → n ≤ 1000 := tp_sq_b (by decide) (by decide)
  have hXr : ∀ n, (tp_sq tx len (some 0) 2 1 60 (p + 1)).1 = some n → 1 ≤ n ∧ n ≤ 60 ∧ (some 0).isSome = true := fun n h => tp_sq_r (by decide) h
  have hXp : (tp_sq tx len (some 0) 2 1 60 (p + 1)).2 ≤ len := (tp_sq_f (by omega)).2
  generalize tp_sq tx len (some 0) 2 1 60 (p + 1) = X at hXb hXr hXp ⊢
  obtain ⟨xo, px⟩ := X
  dsimp only
  dsimp only at hXr
  cases xo with
  | none =>
    rw [show tp_vo none = -1 from rfl, if_pos rfl]; rfl
  | some x =>
    obtain ⟨x1, x2, x3⟩ := hXr x rfl
    rw [if_neg (tr_vo_m1 (by omega))]
    simp only [tp_vos]
    show _ = tp_rs u m (m + 3) o t (true, _, _, _, _, _, _)
    have hh : tp_rf 10 (nI x) 0 0 0 t = 0 := by
      unfold tp_rf
      rw [if_neg (by decide), if_neg (by decide), if_neg (by decide), if_neg (by decide), if_neg (by decide), if_neg (by decide), if_neg (by decide), if_neg (by decide), if_neg (by decide), tp_ro0]
      exact ⟨rfl, tp_iwN (L := 1) (B := 60) rfl rfl (by omega) (by omega) (by decide), rfl⟩
    obtain ⟨k, k1, k2⟩ := tp_hrs_dug x hT
    have hp : tp_pf 10 (nI x) 0 0 0 t = tp_hrs x t := by
      show tp_hrs (tp_cl (nI x)) t = _
      unfold tp_cl
      rw [tp_cn (by omega)]
    have nn : ¬ tp_hrs x t 10 - t 10 < 0 := by rw [k2, tp_neg (by omega)]; exact id
    rw [tp_rs_T hh, hp, ts_hours hmc hT (by omega), tp_b2S, if_neg nn, tr_done1, tp_b2S, tp_ite1, tp_u9_10]

theorem tr_lno {p ch : Nat} (hlen : len ≤ 120) (ht : ∀ i, i < len → u.1 (m + 1) i = tx i ∧ tp_N 255 (tx i)) (h9 : o 9 = nI p) (hp : p < len) (hch : tx p = nI ch) (hc : ch ≤ 255) (n1 : ¬ ch = 103) (n2 : ¬ ch = 109) (n3 : ¬ ch = 108) (n4 : ¬ ch = 115) (n5 : ¬ ch = 104) (n6 : ¬ ch = 102) (n7 : ¬ ch = 97) (n8 : ¬ ch = 116) : f10_readCommand m (m + 3) (tp_w (tp_w u (m + 3) t) m o) = tp_rs u m (m + 3) o t (tp_cmd tx len ch (p + 1)) := by
  have ht1 := (ht p hp).1
  have et : (tp_w (tp_w u (m + 3) t) m o).1 (m + 1) = u.1 (m + 1) := by rw [tp_wgn (by omega), tp_wgn (by omega)]
  have e : (nI ch).toInt = (ch : Int) := tp_ti (by omega)
  unfold tp_cmd
  rw [if_neg n1, if_neg n2, if_neg n3, if_neg n4, if_neg n5, if_neg n6, if_neg n7, if_neg n8, tp_rs_F, show p + 1 - 1 = p from rfl]
  unfold f10_readCommand
  rw [tp_wg, h9, et, tl_gs (tp_ix (n := p) (by omega) (by omega)), tp_cn (by omega), ht1, hch, tp_L, tp_L]
  have ew : (tl_u (tp_w (tp_w u (m + 3) t) m o).1 m 9 (nI p + 1), (tp_w (tp_w u (m + 3) t) m o).2) = tp_w (tp_w u (m + 3) t) m (tp_up o 9 (nI (p + 1))) := by rw [tp_wu, nI_1]
  rw [ew]
  have eb : tp_up (tp_up o 9 (nI (p + 1))) 9 (tp_up o 9 (nI (p + 1)) 9 - 1) = tp_up o 9 (nI p) := by rw [tp_us, tp_uu, nI_pred]
  have F : (tl_let (tl_u (tp_w (tp_w u (m + 3) t) m (tp_up o 9 (nI (p + 1)))).1 m 9 ((tp_w (tp_w u (m + 3) t) m (tp_up o 9 (nI (p + 1)))).1 m 9 - 1), (tp_w (tp_w u (m + 3) t) m (tp_up o 9 (nI (p + 1)))).2) fun u8 => some ((0 : Int32), u8)) = some (0, tp_w (tp_w u (m + 3) t) m (tp_up o 9 (nI p))) := by
    rw [tp_L, tp_wu, tp_wg, eb]
  simp only [e]
  by_cases q0 : (ch : Int) < 97 ∨ 116 < (ch : Int)
  · rw [if_pos q0]; exact F
  rw [if_neg q0, if_neg (by omega)]
  by_cases q1 : (ch : Int) = 98
  · rw [if_pos q1]; exact F
  rw [if_neg q1]
  by_cases q2 : (ch : Int) = 99
  · rw [if_pos q2]; exact F
  rw [if_neg q2]
  by_cases q3 : (ch : Int) = 100
  · rw [if_pos q3]; exact F
  rw [if_neg q3]
  by_cases q4 : (ch : Int) = 101
  · rw [if_pos q4]; exact F
  rw [if_neg q4, if_neg (by omega), if_neg (by omega), if_neg (by omega)]
  by_cases q5 : (ch : Int) = 105
  · rw [if_pos q5]; exact F
  rw [if_neg q5]
  by_cases q6 : (ch : Int) = 106
  · rw [if_pos q6]; exact F
  rw [if_neg q6]
  by_cases q7 : (ch : Int) = 107
  · rw [if_pos q7]; exact F
  rw [if_neg q7, if_neg (by omega), if_neg (by omega)]
  by_cases q8 : (ch : Int) = 110
  · rw [if_pos q8]; exact F
  rw [if_neg q8]
  by_cases q9 : (ch : Int) = 111
  · rw [if_pos q9]; exact F
  rw [if_neg q9]
  by_cases q10 : (ch : Int) = 112
  · rw [if_pos q10]; exact F
  rw [if_neg q10]
  by_cases q11 : (ch : Int) = 113
  · rw [if_pos q11]; exact F
  rw [if_neg q11]
  by_cases q12 : (ch : Int) = 114
  · rw [if_pos q12]; exact F
  exact absurd q0 (by omega)
theorem tr_readCommand {p : Nat} (hlen : len ≤ 120) (ht : ∀ i, i < len → u.1 (m + 1) i = tx i ∧ tp_N 255 (tx i)) (h2 : o 2 = nI len) (h9 : o 9 = nI p) (hp : p < len) (hT : tp_Ok t) : f10_readCommand m (m + 3) (tp_w (tp_w u (m + 3) t) m o) = tp_rs u m (m + 3) o t (tp_cmd tx len (tp_cl (tx p)) (p + 1)) := by
  obtain ⟨-, ch, ch2, htx⟩ := ht p hp
  have hcl : tp_cl (tx p) = ch := by unfold tp_cl; rw [htx, tp_cn (by omega)]
  rw [hcl]
  by_cases n1 : ch = 103
  · subst n1; exact tr_l103 hlen ht h2 h9 hp hT htx
  by_cases n2 : ch = 109
  · subst n2; exact tr_l109 hlen ht h2 h9 hp hT htx
  by_cases n3 : ch = 108
  · subst n3; exact tr_l108 hlen ht h2 h9 hp hT htx
  by_cases n4 : ch = 115
  · subst n4; exact tr_l115 hlen ht h2 h9 hp hT htx
  by_cases n5 : ch = 104
  · subst n5; exact tr_l104 hlen ht h2 h9 hp hT htx
  by_cases n6 : ch = 102
  · subst n6; exact tr_l102 hlen ht h2 h9 hp hT htx
  by_cases n7 : ch = 97
  · subst n7; exact tr_l97 hlen ht h2 h9 hp hT htx
  by_cases n8 : ch = 116
  · subst n8; exact tr_l116 hlen ht h2 h9 hp hT htx
  exact tr_lno hlen ht h9 hp htx ch2 n1 n2 n3 n4 n5 n6 n7 n8
theorem tr_run (hlen : len ≤ 120) (ht : ∀ i, i < len → u.1 (m + 1) i = tx i ∧ tp_N 255 (tx i)) : ∀ (k f p : Nat) {o t : tp_R}, o 2 = nI len → o 9 = nI p → p ≤ len → len - p ≤ k → k < f → tp_Ok t →
    ∃ o' : tp_R, f10_readText_p39 f m (m + 3) (tp_w (tp_w u (m + 3) t) m o) = some ((tp_run tx len k p t (o 10)).1, tp_w (tp_w u (m + 3) (tp_run tx len k p t (o 10)).2.1) m o') ∧ o' 10 = (tp_run tx len k p t (o 10)).2.2 ∧ ∀ i, i ≠ 9 → i ≠ 10 → o' i = o i
  | _, 0, _, _, _, _, _, _, _, h, _ => absurd h (Nat.not_lt_zero _)
  | 0, f + 1, p, o, t, h2, h9, hp, hk, hf, hT => by
    refine ⟨o, ?_, rfl, fun _ _ _ => rfl⟩
    unfold f10_readText_p39 tp_run
    simp (disch := omega) only [tp_wg, h2, h9, tp_le]
    rw [if_pos (by omega)]
  | k + 1, f + 1, p, o, t, h2, h9, hp, hk, hf, hT => by
    unfold f10_readText_p39
    simp (disch := omega) only [tp_wg, h2, h9, tp_le]
    by_cases c : len ≤ p
    · refine ⟨o, ?_, ?_, fun _ _ _ => rfl⟩
      · unfold tp_run
        rw [if_pos c, if_neg (by omega)]
      · unfold tp_run
        rw [if_neg (by omega)]
    · have hc := tp_cmd_f (tx := tx) (len := len) (ch := tp_cl (tx p)) (p := p + 1) (by omega)
      rw [if_neg c, tr_readCommand hlen ht h2 h9 (by omega) hT]
      unfold tp_run
      rw [if_pos (by omega)]
      generalize tp_cmd tx len (tp_cl (tx p)) (p + 1) = K at hc ⊢
      obtain ⟨kb, q, a, b, d, e, pp⟩ := K
      dsimp only at hc ⊢
      unfold tp_rs
      dsimp only
      cases kb with
      | false =>
        refine ⟨tp_up o 9 (nI pp), ?_, ?_, fun i n9 _ => tp_un n9⟩
        · rw [if_neg (by decide), tp_b2S, if_pos rfl, tp_wg, tp_us, if_neg (by decide)]
        · rw [if_neg (by decide)]; exact tp_u9_10
      | true =>
        have hpp := hc.2 rfl
        rw [if_pos rfl, if_pos rfl, tp_b2S, tp_ite1]
        have hD := tp_Ok_do (q := q) (a := a) (b := b) (c := d) (d := e) (o := o 10) hT
        generalize tp_do q a b d e t (o 10) = D at hD ⊢
        obtain ⟨o', w1, w2, w3⟩ := tr_run hlen ht k f pp (o := tp_up (tp_up o 9 (nI pp)) 10 D.2) (t := D.1) (by rw [tp_un (by decide), tp_un (by decide)]; exact h2) (by rw [tp_un (by decide), tp_us]) (by omega) (by omega) (by omega) hD
        rw [tp_us] at w1 w2
        exact ⟨o', w1, w2, fun i n9 n10 => by rw [w3 i n9 n10, tp_un n10, tp_un n9]⟩
theorem tr_readText (hlen : len ≤ 120) (ht : ∀ i, i < len → u.1 (m + 1) i = tx i ∧ tp_N 255 (tx i)) (h2 : o 2 = nI len) (hz : ∀ j, 104 ≤ j → t j = 0) :
    ∃ o' : tp_R, f10_readText m (m + 3) (tp_w (tp_w u (m + 3) t) m o) = some ((tp_txt tx len).1, tp_w (tp_w u (m + 3) (tp_txt tx len).2.1) m o') ∧ o' 10 = (tp_txt tx len).2.2 ∧ ∀ i, i ≠ 9 → i ≠ 10 → o' i = o i := by
  have hmc : m ≠ m + 3 := by omega
  unfold f10_readText
  rw [tp_wc hmc, tr_clear hz, tp_bS, ← tp_wc hmc, tp_L, tp_wu, tp_L, tp_wu, tp_wg]
  rw [tp_un (i := 9) (j := 2) (by decide), tp_un (i := 10) (j := 2) (by decide), h2]
  unfold tp_txt
  by_cases c : len = 0
  · refine ⟨tp_up (tp_up o 10 0) 9 0, ?_, ?_, fun i n9 n10 => by rw [tp_un n9, tp_un n10]⟩
    · rw [if_pos (by rw [c]; rfl), if_pos c]
    · rw [if_pos c, tp_un (by decide), tp_us]
  · have ht0 := ht 0 (by omega)
    have e0 : (tp_w (tp_w u (m + 3) tp_clr) m (tp_up (tp_up o 10 0) 9 0)).1 (m + 1) 0 = tx 0 := by
      rw [tp_wgn (by omega), tp_wgn (by omega)]; exact ht0.1
    rw [if_neg (fun z => c ((tp_eq (by omega) (by decide)).mp (z.trans nI_0.symm))), if_neg c, e0]
    by_cases d : tx 0 = 84
    · rw [if_pos d, if_pos d, tp_L, tp_wu, tp_uu]
      obtain ⟨o', w1, w2, w3⟩ := tr_run (u := u) (m := m) hlen ht len tl_F 1 (o := tp_up (tp_up o 10 0) 9 1) (t := tp_clr) (by rw [tp_un (by decide), tp_un (by decide)]; exact h2) (tp_us _ _ _) (by omega) (by omega) (by unfold tl_F; omega) tp_Ok_clr
      have e10 : tp_up (tp_up o 10 0) 9 1 10 = 0 := by rw [tp_un (by decide), tp_us]
      rw [e10] at w1 w2
      exact ⟨o', w1, w2, fun i n9 n10 => by rw [w3 i n9 n10, tp_un n9, tp_un n10]⟩
    · rw [if_neg d, if_neg d]
      exact ⟨tp_up (tp_up o 10 0) 9 0, rfl, by rw [tp_un (by decide), tp_us], fun i n9 n10 => by rw [tp_un n9, tp_un n10]⟩
end TPD
