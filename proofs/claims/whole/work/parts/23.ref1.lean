/-! What the reference's functions compute over its rows. -/
def tp_w (u : tl_S) (b : Nat) (r : tp_R) : tl_S := (fun q => if q = b then r else u.1 q, u.2)
def tp_b01 (b : Bool) : Int32 := if b then 1 else 0
theorem tp_b01_c (b : Bool) : tp_b01 b = 0 ∨ tp_b01 b = 1 := by cases b <;> decide
theorem tp_b01_0 (b : Bool) : (tp_b01 b = 0) = (b = false) := by cases b <;> simp [tp_b01]
theorem tp_b01_1 (b : Bool) : (tp_b01 b = 1) = (b = true) := by cases b <;> simp [tp_b01]
theorem tp_if0 {α : Type} (b : Bool) (x y : α) : (if tp_b01 b = 0 then x else y) = if b = true then y else x := by cases b <;> rfl
theorem tp_if1 {α : Type} (b : Bool) (x y : α) : (if tp_b01 b = 1 then x else y) = if b = true then x else y := by cases b <;> rfl
theorem tp_b01t : tp_b01 true = 1 := rfl
theorem tp_b01f : tp_b01 false = 0 := rfl
theorem tp_gT {β : Type} (x : Option β) : tl_g True x = x := if_pos trivial
theorem tp_gB {β : Type} (b : Bool) (x : Option β) : tl_g (tp_b01 b = 0 ∨ tp_b01 b = 1) x = x := if_pos (tp_b01_c b)
theorem tp_bS {α β : Type} (a : α) (f : α → Option β) : tl_b (some a) f = f a := Eq.trans rfl rfl
theorem tp_b2S {α β γ : Type} (a : α) (b : β) (f : α → β → Option γ) : tl_b2 (some (a, b)) f = f a b := Eq.trans rfl rfl
theorem tp_L {α β : Type} (v : α) (f : α → Option β) : tl_let v f = f v := Eq.trans rfl rfl
theorem tp_ixT {n N : Nat} (h : n < N) (hn : n < 2147483648) : (¬ (nI n < 0 ∨ N ≤ (nI n).toNatClampNeg)) = True := eq_true (tp_ix h hn)
theorem tp_nleT {n N : Nat} (h : n < N) : (¬ N ≤ n) = True := eq_true (by omega)
theorem tp_j18 (n : Nat) : 18 + 2 * nI n = nI (18 + 2 * n) := by rw [tp_k2, pk_mul, tp_k18, nI_add]
theorem tp_j24 (n : Nat) : 24 + 4 * nI n = nI (24 + 4 * n) := by rw [tp_k4, pk_mul, tp_k24, nI_add]
theorem tp_j48 (n : Nat) : 48 + 4 * nI n = nI (48 + 4 * n) := by rw [tp_k4, pk_mul, tp_k48, nI_add]
theorem tp_j80 (n : Nat) : 80 + 4 * nI n = nI (80 + 4 * n) := by rw [tp_k4, pk_mul, tp_k80, nI_add]
theorem tp_p0 (n : Nat) : nI n + 0 = nI n := by rw [tp_k0, nI_add]; rfl
theorem tp_p1 (n : Nat) : nI n + 1 = nI (n + 1) := nI_1 n
theorem tp_p2 (n : Nat) : nI n + 2 = nI (n + 2) := by rw [tp_k2, nI_add]
theorem tp_p3 (n : Nat) : nI n + 3 = nI (n + 3) := by rw [tp_k3, nI_add]
theorem tp_p4 (n : Nat) : nI n + 4 = nI (n + 4) := by rw [tp_k4, nI_add]
theorem tp_q18_1 (n : Nat) : 18 + 2 * n + 1 = 19 + 2 * n := by omega
theorem tp_q24_1 (n : Nat) : 24 + 4 * n + 1 = 25 + 4 * n := by omega
theorem tp_q24_2 (n : Nat) : 24 + 4 * n + 2 = 26 + 4 * n := by omega
theorem tp_q24_3 (n : Nat) : 24 + 4 * n + 3 = 27 + 4 * n := by omega
theorem tp_q48_1 (n : Nat) : 48 + 4 * n + 1 = 49 + 4 * n := by omega
theorem tp_q48_2 (n : Nat) : 48 + 4 * n + 2 = 50 + 4 * n := by omega
theorem tp_q48_3 (n : Nat) : 48 + 4 * n + 3 = 51 + 4 * n := by omega
theorem tp_q80_1 (n : Nat) : 80 + 4 * n + 1 = 81 + 4 * n := by omega
theorem tp_q80_2 (n : Nat) : 80 + 4 * n + 2 = 82 + 4 * n := by omega
theorem tp_q80_3 (n : Nat) : 80 + 4 * n + 3 = 83 + 4 * n := by omega
theorem tp_wide_lt (a b : Int32) : (a.toInt64 < b.toInt64) = (a < b) := propext (by rw [Int64.lt_iff_toInt_lt, Int32.lt_iff_toInt_lt, Int32.toInt_toInt64, Int32.toInt_toInt64])
theorem tp_wide_eq (a b : Int32) : (a.toInt64 = b.toInt64) = (a = b) := propext (by rw [← Int64.toInt_inj, ← Int32.toInt_inj, Int32.toInt_toInt64, Int32.toInt_toInt64])
theorem tp_cmp_lt (a b : Int64) : (lg_cmp a b < 0) = (a < b) := by
  unfold lg_cmp
  by_cases c : a > b
  · rw [if_pos c]
    exact propext ⟨fun h => absurd h (by decide), fun h => absurd (Int64.lt_iff_toInt_lt.mp h) (by have := Int64.lt_iff_toInt_lt.mp c; omega)⟩
  · rw [if_neg c]
    by_cases d : a = b
    · rw [if_pos d, d]
      exact propext ⟨fun h => absurd h (by decide), fun h => absurd (Int64.lt_iff_toInt_lt.mp h) (by omega)⟩
    · rw [if_neg d]
      refine propext ⟨fun _ => ?_, fun _ => by decide⟩
      rw [gt_iff_lt, Int64.lt_iff_toInt_lt] at c
      rw [← Int64.toInt_inj] at d
      rw [Int64.lt_iff_toInt_lt]; omega
theorem tp_cmp_gt (a b : Int64) : (0 < lg_cmp a b) = (b < a) := by
  unfold lg_cmp
  by_cases c : a > b
  · rw [if_pos c]
    exact propext ⟨fun _ => c, fun _ => by decide⟩
  · rw [if_neg c]
    by_cases d : a = b
    · rw [if_pos d]
      exact propext ⟨fun h => absurd h (by decide), fun h => absurd h c⟩
    · rw [if_neg d]
      exact propext ⟨fun h => absurd h (by decide), fun h => absurd h c⟩
section TPR
variable {u : tl_S} {b : Nat} {r : tp_R}
theorem tp_wg : (tp_w u b r).1 b = r := if_pos rfl
theorem tp_wu (k : Nat) (x : Int32) : (tl_u (tp_w u b r).1 b k x, (tp_w u b r).2) = tp_w u b (tp_up r k x) := by
  unfold tp_w
  refine Prod.ext ?_ rfl
  funext q j
  show tl_u _ b k x q j = _
  unfold tl_u tp_up
  by_cases c : q = b
  · subst c; simp
  · simp [c]
theorem tp_wu1 (k : Nat) (x : Int32) : tl_u (tp_w u b r).1 b k x = (tp_w u b (tp_up r k x)).1 := congrArg Prod.fst (tp_wu (u := u) (b := b) (r := r) k x)
theorem tp_w2 : (tp_w u b r).2 = u.2 := Eq.trans rfl rfl
theorem tp_wp : ((tp_w u b r).1, u.2) = tp_w u b r := Prod.ext rfl rfl
theorem tp_w_self : tp_w u b (u.1 b) = u := by
  unfold tp_w
  refine Prod.ext ?_ rfl
  funext q
  show (if q = b then u.1 b else u.1 q) = u.1 q
  split
  · subst_vars; rfl
  · rfl
theorem tp_in_l {x y z : Int32} {Y Z : Int64} {w : tl_S} (hy : Y = y.toInt64) (hz : Z = z.toInt64) : f10_in x.toInt64 Y Z w = some (tp_b01 (tp_iw x y z), w) := by
  subst hy hz
  unfold f10_in tp_iw tp_b01
  simp only [tp_cmp_lt, tp_cmp_gt, tp_wide_lt]
  by_cases c : x < y
  · rw [if_pos c]; simp [c]
  · rw [if_neg c]
    by_cases d : z < x
    · rw [if_pos d]; simp [d]
    · rw [if_neg d]; simp [c, d]
theorem tp_iw_m {x m : Int32} {n : Nat} (hm : m = nI n) (hn : n ≤ 1000) : tp_iw x 0 (m - 1) = (!decide (x < 0) && !decide (m ≤ x)) := by
  unfold tp_iw
  congr 2
  subst hm
  apply decide_eq_decide.mpr
  have e : (nI n - 1).toInt = (n : Int) - 1 := by
    rw [tp_tsub, tp_ti (by omega)]
    · rfl
    · rw [tp_ti (by omega)]; have : (1 : Int32).toInt = 1 := by decide
      omega
    · rw [tp_ti (by omega)]; have : (1 : Int32).toInt = 1 := by decide
      omega
  rw [tp_lti, tp_lei, e, tp_ti (by omega)]
  omega
theorem tr_isGallery (h : tp_rng r) {g : Int32} : f10_isGallery b g (tp_w u b r) = some (tp_b01 (tp_ig r g), tp_w u b r) := by
  unfold f10_isGallery
  rw [tp_wg, tp_in_l (y := 0) (Y := 0) (by decide) rfl, tp_b2S, tp_gB, tp_iw_m (tp_r0 h).1 (by have := (tp_r0 h).2; omega)]; rfl
theorem tr_isMiner (h : tp_rng r) {g : Int32} : f10_isMiner b g (tp_w u b r) = some (tp_b01 (tp_im r g), tp_w u b r) := by
  unfold f10_isMiner
  rw [tp_wg, tp_in_l (y := 0) (Y := 0) (by decide) rfl, tp_b2S, tp_gB, tp_iw_m (tp_r1 h).1 (by have := (tp_r1 h).2; omega)]; rfl
theorem tr_isLamp (h : tp_rng r) {g : Int32} : f10_isLamp b g (tp_w u b r) = some (tp_b01 (tp_il r g), tp_w u b r) := by
  unfold f10_isLamp
  rw [tp_wg, tp_in_l (y := 0) (Y := 0) (by decide) rfl, tp_b2S, tp_gB, tp_iw_m (tp_r2 h).1 (by have := (tp_r2 h).2; omega)]; rfl
theorem tr_depth {g : Nat} (hg : g < 3) : f10_depth b (nI g) (tp_w u b r) = some (r (18 + 2 * g), tp_w u b r) := by
  unfold f10_depth
  simp (disch := omega) only [tp_j18, tp_neg, false_or, tp_nleT, tp_gT, tp_cn, tp_wg]
theorem tr_ofMiner {m : Nat} {x : Int32} {j : Nat} (hm : m < 6) (hx : x = nI j) (hj : j < 4) : f10_ofMiner b (nI m) x (tp_w u b r) = some (r (24 + 4 * m + j), tp_w u b r) := by
  subst hx
  unfold f10_ofMiner
  simp (disch := omega) only [tp_j24, nI_add, tp_neg, false_or, tp_nleT, tp_gT, tp_cn, tp_wg]
theorem tr_ofLamp {m : Nat} {x : Int32} {j : Nat} (hm : m < 8) (hx : x = nI j) (hj : j < 4) : f10_ofLamp b (nI m) x (tp_w u b r) = some (r (48 + 4 * m + j), tp_w u b r) := by
  subst hx
  unfold f10_ofLamp
  simp (disch := omega) only [tp_j48, nI_add, tp_neg, false_or, tp_nleT, tp_gT, tp_cn, tp_wg]
theorem tr_ofOrder {m : Nat} {x : Int32} {j : Nat} (hm : m < 6) (hx : x = nI j) (hj : j < 4) : f10_ofOrder b (nI m) x (tp_w u b r) = some (r (80 + 4 * m + j), tp_w u b r) := by
  subst hx
  unfold f10_ofOrder
  simp (disch := omega) only [tp_j80, nI_add, tp_neg, false_or, tp_nleT, tp_gT, tp_cn, tp_wg]
theorem tr_mi0 {m : Nat} (hm : m < 6) : f10_ofMiner b (nI m) 0 (tp_w u b r) = some (r (24 + 4 * m), tp_w u b r) := tr_ofMiner hm rfl (by decide)
theorem tr_mi1 {m : Nat} (hm : m < 6) : f10_ofMiner b (nI m) 1 (tp_w u b r) = some (r (25 + 4 * m), tp_w u b r) := by rw [tr_ofMiner (x := 1) (j := 1) hm rfl (by decide), tp_q24_1]
theorem tr_la0 {m : Nat} (hm : m < 8) : f10_ofLamp b (nI m) 0 (tp_w u b r) = some (r (48 + 4 * m), tp_w u b r) := tr_ofLamp hm rfl (by decide)
theorem tr_la1 {m : Nat} (hm : m < 8) : f10_ofLamp b (nI m) 1 (tp_w u b r) = some (r (49 + 4 * m), tp_w u b r) := by rw [tr_ofLamp (x := 1) (j := 1) hm rfl (by decide), tp_q48_1]
theorem tr_la2 {m : Nat} (hm : m < 8) : f10_ofLamp b (nI m) 2 (tp_w u b r) = some (r (50 + 4 * m), tp_w u b r) := by rw [tr_ofLamp (x := 2) (j := 2) hm rfl (by decide), tp_q48_2]
theorem tr_la3 {m : Nat} (hm : m < 8) : f10_ofLamp b (nI m) 3 (tp_w u b r) = some (r (51 + 4 * m), tp_w u b r) := by rw [tr_ofLamp (x := 3) (j := 3) hm rfl (by decide), tp_q48_3]
theorem tr_or0 : f10_ofOrder b 0 0 (tp_w u b r) = some (r 80, tp_w u b r) := tr_ofOrder (m := 0) (by decide) rfl (by decide)
theorem tr_or1 : f10_ofOrder b 0 1 (tp_w u b r) = some (r 81, tp_w u b r) := tr_ofOrder (m := 0) (by decide) rfl (by decide)
theorem tr_or2 : f10_ofOrder b 0 2 (tp_w u b r) = some (r 82, tp_w u b r) := tr_ofOrder (m := 0) (by decide) rfl (by decide)
theorem tr_or3 : f10_ofOrder b 0 3 (tp_w u b r) = some (r 83, tp_w u b r) := tr_ofOrder (m := 0) (by decide) rfl (by decide)
theorem tr_isCell (h : tp_rng r) {g c : Int32} : f10_isCell b g c (tp_w u b r) = some (tp_b01 (tp_ic r g c), tp_w u b r) := by
  unfold f10_isCell tp_ic
  rw [tr_isGallery h, tp_b2S, tp_if0]
  rcases e : tp_ig r g with _ | _
  · rfl
  · obtain ⟨n, n1, rfl⟩ := (tp_ig_N h).mp e
    have b0 := (tp_r0 h).2
    have hn : n < 3 := by omega
    rw [if_pos rfl, tr_depth hn, tp_b2S, tp_in_l (y := 0) (Y := 0) (by decide) rfl, tp_b2S, tp_iw_m (tp_rga h hn).1 (by have := (tp_rga h hn).2; omega), tp_if0, Bool.true_and]
    unfold tp_cl
    rw [tp_cn (by omega)]
    rcases (!decide (c < 0) && !decide (r (18 + 2 * n) ≤ c)) with _ | _ <;> rfl
theorem tr_lights (h : tp_rng r) {l : Nat} (hl : l < 8) {g c : Int32} {k : Nat} (hc : c = nI k) (hk : k ≤ 1000) : f10_lights b (nI l) g c (tp_w u b r) = some (tp_b01 (tp_ltl r g c l), tp_w u b r) := by
  unfold f10_lights tp_ltl
  simp only [tr_la3 hl, tr_la2 hl, tr_la1 hl, tr_la0 hl, tp_b2S, tp_L]
  by_cases c1 : r (50 + 4 * l) = g
  · rw [if_pos c1]
    by_cases c2 : r (49 + 4 * l) ≤ 0
    · rw [if_pos c2]; simp [c1, c2]; rfl
    · rw [if_neg c2, tp_in_l rfl rfl, tp_b2S, tp_if0]
      have e : tp_iw (r (51 + 4 * l) - c) (-r (48 + 4 * l)) (r (48 + 4 * l)) = (!decide (r (48 + 4 * l) < c - r (51 + 4 * l)) && !decide (r (48 + 4 * l) < r (51 + 4 * l) - c)) := by
        unfold tp_iw
        congr 2
        apply decide_eq_decide.mpr
        obtain ⟨ρ, ρ2, ρ1, -⟩ := tp_xx (tp_rlr h hl)
        have hcell : -1 ≤ (r (51 + 4 * l)).toInt ∧ (r (51 + 4 * l)).toInt ≤ 59 := by
          rcases tp_rlc h hl with z | z
          · rw [z, tp_m1i]; omega
          · obtain ⟨y, y2, y1, -⟩ := tp_xx z
            rw [y1, tp_ti (by omega)]; omega
        rw [ρ1, hc, tp_lti, tp_lti]
        have t1 : (nI k).toInt = (k : Int) := tp_ti (by omega)
        have t2 : (nI ρ).toInt = (ρ : Int) := tp_ti (by omega)
        rw [tp_tneg (by rw [t2]; omega), tp_tsub (by rw [t1]; omega) (by rw [t1]; omega), tp_tsub (by rw [t1]; omega) (by rw [t1]; omega), t1, t2]
        omega
      rw [e]
      simp only [c1, c2, decide_true, decide_false, Bool.not_false, Bool.true_and]
      rcases (!decide (r (48 + 4 * l) < c - r (51 + 4 * l)) && !decide (r (48 + 4 * l) < r (51 + 4 * l) - c)) with _ | _ <;> rfl
  · rw [if_neg c1]; simp [c1]; rfl
theorem tr_isLit_l (h : tp_rng r) {g c : Int32} {k : Nat} (hc : c = nI k) (hk : k ≤ 1000) : ∀ (f i : Nat), i ≤ tp_cl (r 2) → tp_cl (r 2) - i < f → tp_any (tp_ltl r g c) i = false → f10_isLit_p2 f b g c (nI i) (tp_w u b r) = some (tp_b01 (tp_lit r g c), tp_w u b r)
  | 0, _, _, h2, _ => absurd h2 (Nat.not_lt_zero _)
  | f + 1, i, h1, h2, h3 => by
    obtain ⟨n, n2, n1, n3⟩ := tp_xx (tp_r2 h)
    unfold tp_cl at h1 h2
    rw [n3] at h1 h2
    unfold f10_isLit_p2 tp_lit tp_cl
    simp (disch := omega) only [tp_wg, n1, tp_cn, tp_le]
    by_cases e : n ≤ i
    · rw [if_pos e, show n = i by omega, h3]; rfl
    · rw [if_neg e, tr_lights h (by omega) hc hk, tp_b2S, tp_if0]
      rcases q : tp_ltl r g c i with _ | _
      · rw [if_neg (by decide), tp_L, nI_1, tr_isLit_l h hc hk f (i + 1) (by unfold tp_cl; omega) (by unfold tp_cl; omega) (by unfold tp_any; rw [h3, q]; rfl)]
        unfold tp_lit tp_cl
        rw [n3]
      · rw [if_pos rfl, tp_any_t (show i < n by omega) q]; rfl
theorem tr_isLit (h : tp_rng r) {g c : Int32} {k : Nat} (hc : c = nI k) (hk : k ≤ 1000) : f10_isLit b g c (tp_w u b r) = some (tp_b01 (tp_lit r g c), tp_w u b r) :=
  tr_isLit_l h hc hk tl_F 0 (Nat.zero_le _) (by have := (tp_r2 h).2; unfold tl_F; omega) rfl
end TPR
