/-! The reference as a whole. -/
def tp_MI (m len : Nat) (tx now : tp_R) (hn : Nat) (hist : Nat → tp_R) (sl : Nat → Bool) (kp : Nat → tp_R) (u : tl_S) : Prop :=
  u.1 m 2 = nI len ∧ (∀ i, i < len → u.1 (m + 1) i = tx i) ∧ u.1 (m + 2) = now ∧ (∀ j, 104 ≤ j → u.1 (m + 3) j = 0) ∧ u.1 m 6 = nI hn ∧
  (∀ i, i < hn → ∀ j, j < 104 → u.1 (m + 4) (104 * i + j) = hist i j) ∧ (∀ s, s < 2 → u.1 (m + 6) s = tp_b01 (sl s)) ∧
  (∀ s, s < 2 → sl s = true → ∀ j, j < 104 → u.1 (m + 5) (104 * s + j) = kp s j)
/-- what holds of a state of the object -/
def tp_SO (len : Nat) (tx now : tp_R) (hn : Nat) (hist : Nat → tp_R) (sl : Nat → Bool) (kp : Nat → tp_R) : Prop :=
  len ≤ 120 ∧ (∀ i, i < len → tp_N 255 (tx i)) ∧ tp_Ok now ∧ hn ≤ 14 ∧ (∀ i, i < hn → tp_Ok (hist i)) ∧ (∀ s, s < 2 → sl s = true → tp_Ok (kp s))
def tp_FM (m : Nat) (u v : tl_S) : Prop := (∀ q, (q < m ∨ m + 7 ≤ q) → v.1 q = u.1 q) ∧ v.2 = u.2
def tp_ph (hn : Nat) (hist : Nat → tp_R) (now : tp_R) : Nat → tp_R := fun i => if hn = 14 then (if i = 13 then now else hist (i + 1)) else (if i = hn then now else hist i)
def tp_pn (hn : Nat) : Nat := if hn = 14 then 14 else hn + 1
/-- the number of an exception, among those that a call lists -/
def tp_cd : List Nat → Nat → Nat
  | [], _ => 0
  | a :: l, t => if t = a then 1 else if tp_cd l t = 0 then 0 else tp_cd l t + 1
theorem tp_FM_rf (m : Nat) (u : tl_S) : tp_FM m u u := ⟨fun _ _ => rfl, rfl⟩
theorem tp_FM_w {m q : Nat} {u v : tl_S} {r : tp_R} (h : tp_FM m u v) (h1 : m ≤ q) (h2 : q < m + 7) : tp_FM m u (tp_w v q r) :=
  ⟨fun z hz => (tp_wgn (by omega)).trans (h.1 z hz), h.2⟩
theorem tp_FM_tr {m : Nat} {u v w : tl_S} (h1 : tp_FM m u v) (h2 : tp_FM m v w) : tp_FM m u w :=
  ⟨fun z hz => (h2.1 z hz).trans (h1.1 z hz), h2.2.trans h1.2⟩
theorem tp_SO_push {len : Nat} {tx now : tp_R} {hn : Nat} {hist : Nat → tp_R} {sl : Nat → Bool} {kp : Nat → tp_R} {n2 : tp_R} (h : tp_SO len tx now hn hist sl kp) (h2 : tp_Ok n2) : tp_SO len tx n2 (tp_pn hn) (tp_ph hn hist now) sl kp := by
  obtain ⟨a1, a2, a3, a4, a5, a6⟩ := h
  refine ⟨a1, a2, h2, ?_, fun i hi => ?_, a6⟩
  · unfold tp_pn; split <;> omega
  · unfold tp_ph
    unfold tp_pn at hi
    by_cases c : hn = 14
    · rw [if_pos c] at hi ⊢
      split
      · exact a3
      · exact a5 _ (by omega)
    · rw [if_neg c] at hi ⊢
      split
      · exact a3
      · exact a5 _ (by omega)
theorem tp_tw (u : tl_S) (a k : Nat) (x : Int32) : (tl_u u.1 a k x, u.2) = tp_w u a (tp_up (u.1 a) k x) := by
  have h := tp_wu (u := u) (b := a) (r := u.1 a) k x
  rw [tp_w_self] at h
  exact h
theorem tp_we {u : tl_S} {b : Nat} {r : tp_R} (e : u.1 b = r) : tp_w u b r = u := by rw [← e]; exact tp_w_self
theorem tp_ww {u : tl_S} {b : Nat} {r q : tp_R} : tp_w (tp_w u b r) b q = tp_w u b q := by
  unfold tp_w
  refine Prod.ext ?_ rfl
  funext z
  show (if z = b then q else if z = b then r else u.1 z) = if z = b then q else u.1 z
  split
  · rfl
  · rfl
section TPZ
variable {m len : Nat} {tx now : tp_R} {hn : Nat} {hist : Nat → tp_R} {sl : Nat → Bool} {kp : Nat → tp_R} {u : tl_S}
theorem tp_MI_o {o : tp_R} (h : tp_MI m len tx now hn hist sl kp u) (h2 : o 2 = u.1 m 2) (h6 : o 6 = u.1 m 6) : tp_MI m len tx now hn hist sl kp (tp_w u m o) := by
  obtain ⟨a1, a2, a3, a4, a5, a6, a7, a8⟩ := h
  refine ⟨?_, ?_, ?_, ?_, ?_, ?_, ?_, ?_⟩
  · rw [tp_wg, h2]; exact a1
  · rw [tp_wgn (by omega)]; exact a2
  · rw [tp_wgn (by omega)]; exact a3
  · rw [tp_wgn (by omega)]; exact a4
  · rw [tp_wg, h6]; exact a5
  · rw [tp_wgn (by omega)]; exact a6
  · rw [tp_wgn (by omega)]; exact a7
  · rw [tp_wgn (by omega)]; exact a8
theorem tp_MI_r {x : Int32} (h : tp_MI m len tx now hn hist sl kp u) : tp_MI m len tx now hn hist sl kp (tp_w u m (tp_up (u.1 m) 0 x)) := tp_MI_o h (tp_un (by decide)) (tp_un (by decide))
theorem tp_MI_t {t : tp_R} (h : tp_MI m len tx now hn hist sl kp u) (ht : ∀ j, 104 ≤ j → t j = 0) : tp_MI m len tx now hn hist sl kp (tp_w u (m + 3) t) := by
  obtain ⟨a1, a2, a3, a4, a5, a6, a7, a8⟩ := h
  refine ⟨?_, ?_, ?_, ?_, ?_, ?_, ?_, ?_⟩
  · rw [tp_wgn (by omega)]; exact a1
  · rw [tp_wgn (by omega)]; exact a2
  · rw [tp_wgn (by omega)]; exact a3
  · rw [tp_wg]; exact ht
  · rw [tp_wgn (by omega)]; exact a5
  · rw [tp_wgn (by omega)]; exact a6
  · rw [tp_wgn (by omega)]; exact a7
  · rw [tp_wgn (by omega)]; exact a8
theorem tp_MI_n {n2 : tp_R} (h : tp_MI m len tx now hn hist sl kp u) : tp_MI m len tx n2 hn hist sl kp (tp_w u (m + 2) n2) := by
  obtain ⟨a1, a2, a3, a4, a5, a6, a7, a8⟩ := h
  refine ⟨?_, ?_, ?_, ?_, ?_, ?_, ?_, ?_⟩
  · rw [tp_wgn (by omega)]; exact a1
  · rw [tp_wgn (by omega)]; exact a2
  · rw [tp_wg]
  · rw [tp_wgn (by omega)]; exact a4
  · rw [tp_wgn (by omega)]; exact a5
  · rw [tp_wgn (by omega)]; exact a6
  · rw [tp_wgn (by omega)]; exact a7
  · rw [tp_wgn (by omega)]; exact a8
theorem tm_refused {x : Int32} : f10_refused m x u = some (if x ≤ 0 then 0 else 1, tp_w u m (tp_up (u.1 m) 0 x)) := by
  unfold f10_refused
  rw [tp_L, tp_tw]
  split <;> rfl
/-- refused -/
theorem tm_no {F : tl_S → Option (Int32 × tl_S)} {c : Nat} {x : Int32} {Q : Int32 × tl_S → Prop} (hx : x = nI c) (hc : 0 < c) (hc2 : c < 10) (h : tp_MI m len tx now hn hist sl kp u)
    (hQ : ∀ v : tl_S, v.1 m 0 = nI c → tp_FM m u v → tp_MI m len tx now hn hist sl kp v → Q (0, v)) : tp_T (tl_b2 (f10_refused m x u) (fun x8 u7 => if x8 = 0 then F u7 else some (0, u7))) Q := by
  subst hx
  rw [tm_refused, if_neg (by rw [tp_le0 (by omega)]; omega), tp_b2S, tp_ite1]
  exact ⟨_, rfl, hQ _ (by rw [tp_wg, tp_us]) (tp_FM_w (tp_FM_rf m u) (Nat.le_refl m) (by omega)) (tp_MI_r h)⟩
/-- not refused -/
theorem tm_yes {F : tl_S → Option (Int32 × tl_S)} {Q : Int32 × tl_S → Prop} (h : tp_MI m len tx now hn hist sl kp u)
    (hF : ∀ v : tl_S, v.1 m 0 = 0 → tp_FM m u v → tp_MI m len tx now hn hist sl kp v → tp_T (F v) Q) : tp_T (tl_b2 (f10_refused m 0 u) (fun x8 u7 => if x8 = 0 then F u7 else some (0, u7))) Q := by
  rw [tm_refused, if_pos (by decide), tp_b2S, if_pos rfl]
  exact hF _ (by rw [tp_wg, tp_us]) (tp_FM_w (tp_FM_rf m u) (Nat.le_refl m) (by omega)) (tp_MI_r h)
def tp_sh (i : Nat) (y : tp_R) : tp_R := fun j => if j < i then y (j + 104) else y j
theorem tm_shift {y : tp_R} : ∀ (f i : Nat), i ≤ 1352 → 1352 - i < f → f10_remember_p11 f m (nI i) (tp_w u (m + 4) (tp_sh i y)) = f10_remember_p49 m (tp_w (tp_w u (m + 4) (tp_sh 1352 y)) m (tp_up (u.1 m) 6 (u.1 m 6 - 1)))
  | 0, _, _, h => absurd h (Nat.not_lt_zero _)
  | f + 1, i, hi, hf => by
    unfold f10_remember_p11
    simp (disch := omega) only [tp_k1352, tp_le]
    by_cases e : 1352 ≤ i
    · have em : (tp_w u (m + 4) (tp_sh i y)).1 m = u.1 m := tp_wgn (by omega)
      rw [if_pos e, tp_L, tp_tw, em, show i = 1352 by omega]
    · rw [if_neg e, tp_k104, nI_add]
      simp (disch := omega) only [tp_neg, false_or, tp_nleT, tp_gT, tp_cn, tp_L, tp_wu1, tp_w2, tp_wp, tp_wg, nI_1]
      have : tp_up (tp_sh i y) i (tp_sh i y (i + 104)) = tp_sh (i + 1) y := by
        funext j
        unfold tp_up tp_sh
        by_cases q : j = i
        · rw [if_pos q, if_neg (by omega), if_pos (by omega), q]
        · rw [if_neg q]
          by_cases w : j < i
          · rw [if_pos w, if_pos (by omega)]
          · rw [if_neg w, if_neg (by omega)]
      rw [this]
      exact tm_shift f (i + 1) (by omega) (by omega)
/-- a state is remembered, there is room -/
theorem tm_rem49 {k : Nat} (hk : k < 14) (h6 : u.1 m 6 = nI k) (hz : ∀ j, 104 ≤ j → u.1 (m + 2) j = 0) : f10_remember_p49 m u = some (tp_w (tp_w u (m + 4) (tp_cp 0 (104 * k) 104 (u.1 (m + 2)) (u.1 (m + 4)))) m (tp_up (u.1 m) 6 (nI (k + 1)))) := by
  unfold f10_remember_p49
  rw [h6, tp_k104, pk_mul, tr_copy (x := 0) (y := nI (104 * k)) (s := 0) (d := 104 * k) rfl rfl (by omega) (by omega) (by omega) (by decide) (by decide), tp_bS]
  have em : (tp_w u (m + 4) (tp_cp 0 (104 * k) 104 (u.1 (m + 2)) (u.1 (m + 4)))).1 m = u.1 m := tp_wgn (by omega)
  rw [tp_L, tp_tw, em, h6, nI_1]
theorem tm_remember (h : tp_MI m len tx now hn hist sl kp u) (hs : tp_SO len tx now hn hist sl kp) :
    ∃ v, f10_remember m u = some v ∧ v.1 m 0 = u.1 m 0 ∧ tp_FM m u v ∧ tp_MI m len tx now (tp_pn hn) (tp_ph hn hist now) sl kp v := by
  obtain ⟨a1, a2, a3, a4, a5, a6, a7, a8⟩ := h
  obtain ⟨s1, s2, s3, s4, s5, s6⟩ := hs
  have hz : ∀ j, 104 ≤ j → u.1 (m + 2) j = 0 := by rw [a3]; exact tp_rng_z s3.1
  unfold f10_remember
  by_cases c : hn = 14
  · rw [if_pos (by rw [a5, c]; rfl)]
    have e0 : u = tp_w u (m + 4) (tp_sh 0 (u.1 (m + 4))) := by
      have : tp_sh 0 (u.1 (m + 4)) = u.1 (m + 4) := by
        funext j
        unfold tp_sh
        rw [if_neg (by omega)]
      rw [this, tp_w_self]
    have hsft := tm_shift (u := u) (m := m) (y := u.1 (m + 4)) tl_F 0 (by omega) (by unfold tl_F; omega)
    rw [← e0] at hsft
    rw [show (0 : Int32) = nI 0 from rfl, hsft]
    have g6 : (tp_w (tp_w u (m + 4) (tp_sh 1352 (u.1 (m + 4)))) m (tp_up (u.1 m) 6 (u.1 m 6 - 1))).1 m 6 = nI 13 := by
      rw [tp_wg, tp_us, a5, c]; rfl
    have g2 : (tp_w (tp_w u (m + 4) (tp_sh 1352 (u.1 (m + 4)))) m (tp_up (u.1 m) 6 (u.1 m 6 - 1))).1 (m + 2) = now := by
      rw [tp_wgn (by omega), tp_wgn (by omega)]; exact a3
    have g4 : (tp_w (tp_w u (m + 4) (tp_sh 1352 (u.1 (m + 4)))) m (tp_up (u.1 m) 6 (u.1 m 6 - 1))).1 (m + 4) = tp_sh 1352 (u.1 (m + 4)) := by
      rw [tp_wgn (by omega), tp_wg]
    have r := tm_rem49 (u := tp_w (tp_w u (m + 4) (tp_sh 1352 (u.1 (m + 4)))) m (tp_up (u.1 m) 6 (u.1 m 6 - 1))) (by decide : 13 < 14) g6 (by rw [g2, ← a3]; exact hz)
    rw [g2, g4] at r
    refine ⟨_, r, ?_, ?_, ?_⟩
    · rw [tp_wg, tp_un (by decide), tp_wg, tp_un (by decide)]
    · exact tp_FM_w (tp_FM_w (tp_FM_w (tp_FM_w (tp_FM_rf m u) (by omega) (by omega)) (Nat.le_refl m) (by omega)) (by omega) (by omega)) (Nat.le_refl m) (by omega)
    · refine ⟨?_, ?_, ?_, ?_, ?_, ?_, ?_, ?_⟩
      · rw [tp_wg, tp_un (by decide), tp_wg, tp_un (by decide)]; exact a1
      · rw [tp_wgn (by omega), tp_wgn (by omega), tp_wgn (by omega), tp_wgn (by omega)]; exact a2
      · rw [tp_wgn (by omega), tp_wgn (by omega), tp_wgn (by omega), tp_wgn (by omega)]; exact a3
      · rw [tp_wgn (by omega), tp_wgn (by omega), tp_wgn (by omega), tp_wgn (by omega)]; exact a4
      · rw [tp_wg, tp_us]; unfold tp_pn; rw [if_pos c]
      · intro i hi j hj
        unfold tp_pn at hi
        rw [if_pos c] at hi
        rw [tp_wgn (by omega), tp_wg]
        unfold tp_cp tp_ph tp_sh
        rw [if_pos c]
        by_cases q : i = 13
        · subst q
          rw [if_pos rfl, if_pos (by omega), show 0 + (104 * 13 + j - 104 * 13) = j by omega]
        · rw [if_neg q, if_neg (by omega), if_pos (by omega), show 104 * i + j + 104 = 104 * (i + 1) + j by omega]
          exact a6 (i + 1) (by omega) j hj
      · rw [tp_wgn (by omega), tp_wgn (by omega), tp_wgn (by omega), tp_wgn (by omega)]; exact a7
      · rw [tp_wgn (by omega), tp_wgn (by omega), tp_wgn (by omega), tp_wgn (by omega)]; exact a8
  · rw [if_neg (by rw [a5]; intro z; exact c ((tp_eq (by omega) (by decide)).mp (z.trans tp_k14)))]
    have r := tm_rem49 (u := u) (m := m) (show hn < 14 by omega) a5 hz
    refine ⟨_, r, ?_, ?_, ?_⟩
    · rw [tp_wg, tp_un (by decide)]
    · exact tp_FM_w (tp_FM_w (tp_FM_rf m u) (by omega) (by omega)) (Nat.le_refl m) (by omega)
    · refine ⟨?_, ?_, ?_, ?_, ?_, ?_, ?_, ?_⟩
      · rw [tp_wg, tp_un (by decide)]; exact a1
      · rw [tp_wgn (by omega), tp_wgn (by omega)]; exact a2
      · rw [tp_wgn (by omega), tp_wgn (by omega)]; exact a3
      · rw [tp_wgn (by omega), tp_wgn (by omega)]; exact a4
      · rw [tp_wg, tp_us]; unfold tp_pn; rw [if_neg c]
      · intro i hi j hj
        unfold tp_pn at hi
        rw [if_neg c] at hi
        rw [tp_wgn (by omega), tp_wg]
        unfold tp_cp tp_ph
        rw [if_neg c]
        by_cases q : i = hn
        · subst q
          rw [if_pos rfl, if_pos (by omega), a3, show 0 + (104 * i + j - 104 * i) = j by omega]
        · rw [if_neg q, if_neg (by omega)]
          exact a6 i (by omega) j hj
      · rw [tp_wgn (by omega), tp_wgn (by omega)]; exact a7
      · rw [tp_wgn (by omega), tp_wgn (by omega)]; exact a8
/-- an action -/
theorem tm_act {F : tl_S → Option (Int32 × tl_S)} {x : Int32} {n2 : tp_R} {Q : Int32 × tl_S → Prop} (h : tp_MI m len tx now hn hist sl kp u) (hs : tp_SO len tx now hn hist sl kp)
    (hF : ∀ v : tl_S, v.1 (m + 2) = now → F v = some (x, tp_w v (m + 2) n2))
    (hQ : ∀ v : tl_S, v.1 m 0 = 0 → tp_FM m u v → tp_MI m len tx n2 (tp_pn hn) (tp_ph hn hist now) sl kp v → Q (x, v)) :
    tp_T (tl_b2 (f10_refused m 0 u) (fun x8 u7 => if x8 = 0 then tl_b (f10_remember m u7) F else some (0, u7))) Q := by
  refine tm_yes (F := fun u7 => tl_b (f10_remember m u7) F) h (fun v v0 vF vM => ?_)
  obtain ⟨w, e, w0, wF, wM⟩ := tm_remember vM hs
  rw [e, tp_bS, hF w wM.2.2.1]
  refine ⟨_, rfl, hQ _ ?_ ?_ (tp_MI_n wM)⟩
  · rw [tp_wgn (by omega), w0, v0]
  · exact tp_FM_w (tp_FM_tr vF wF) (by omega) (by omega)
end TPZ
