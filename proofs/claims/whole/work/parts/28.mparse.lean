/-! The reference's reading of a text. -/
def tp_un10 : Nat → Nat
  | 0 => 0
  | k + 1 => 10 ^ k
theorem tp_le0 {n : Nat} (h : n < 2147483648) : (nI n ≤ 0) = (n ≤ 0) := tp_le h (by decide)
theorem tp_vo_m1 {x : Option Nat} {N : Nat} (hN : N < 2147483648) (h : ∀ n, x = some n → n ≤ N) : (tp_vo x = -1) = (x.isSome = false) := by
  cases x with
  | none => simp [tp_vo]
  | some n =>
    have := h n rfl
    unfold tp_vo
    rw [tp_m1n (by omega)]
    simp
section TPM
variable {u : tl_S} {m c : Nat} {o t : tp_R} {tx : tp_R} {len : Nat}
/-- the world over the object's row and a state's row -/
theorem tp_wc (h : m ≠ c) : tp_w (tp_w u c t) m o = tp_w (tp_w u m o) c t := by
  unfold tp_w
  refine Prod.ext ?_ rfl
  funext q
  show (if q = m then o else if q = c then t else u.1 q) = if q = c then t else if q = m then o else u.1 q
  by_cases a : q = m
  · subst a
    rw [if_pos rfl, if_neg h, if_pos rfl]
  · rw [if_neg a, if_neg a]
theorem tp_wgn {q : Nat} (h : q ≠ m) : (tp_w u m o).1 q = u.1 q := if_neg h
theorem tr_fg (hlen : len ≤ 120) (ht : ∀ i, i < len → u.1 (m + 1) i = tx i ∧ tp_N 255 (tx i)) (h2 : o 2 = nI len) {lo hi : Nat} (hl : lo ≤ 1000) (hh : hi ≤ 1000) {a : Int32} (ha : ¬ a = -1) :
    ∀ (k f v p : Nat), k ≤ 3 → k < f → v ≤ 1000 → p ≤ len → f10_figures_p26 f m a (nI lo) (nI hi) (nI v) (nI (tp_un10 k)) (tp_w u m (tp_up o 9 (nI p))) = some (tp_vo (tp_fg tx len lo hi k v p).1, tp_w u m (tp_up o 9 (nI (tp_fg tx len lo hi k v p).2)))
  | _, 0, _, _, _, h, _, _ => absurd h (Nat.not_lt_zero _)
  | 0, f + 1, v, p, _, _, hv, hp => by
    unfold f10_figures_p26 tp_un10 tp_fg
    simp (disch := omega) only [tp_le0]
    rw [if_pos (Nat.le_refl 0), if_neg ha]; rfl
  | k + 1, f + 1, v, p, hk, hf, hv, hp => by
    have hu : 10 ^ k ≤ 100 := Nat.le_trans (Nat.pow_le_pow_right (by decide) (show k ≤ 2 by omega)) (by decide)
    have hu0 : 0 < 10 ^ k := Nat.pow_pos (by decide)
    unfold f10_figures_p26 tp_fg
    have e9 : tp_up o 9 (nI p) 9 = nI p := tp_us _ _ _
    have e2 : tp_up o 9 (nI p) 2 = nI len := (tp_un (by decide)).trans h2
    have et : (tp_w u m (tp_up o 9 (nI p))).1 (m + 1) = u.1 (m + 1) := tp_wgn (by omega)
    simp (disch := omega) only [show tp_un10 (k + 1) = 10 ^ k from rfl, tp_wg, e9, e2, et, tp_le, tp_le0]
    rw [if_neg (by omega), if_neg ha]
    by_cases c1 : p < len
    · obtain ⟨ht1, ch, ch2, ht2⟩ := ht p c1
      have hcl : tp_cl (tx p) = ch := by unfold tp_cl; rw [ht2, tp_cn (by omega)]
      rw [if_neg (by omega), if_pos c1, hcl]
      simp (disch := omega) only [tp_neg, false_or, tp_nleT, tp_gT, tp_cn, tp_L]
      rw [ht1, ht2]
      by_cases c2 : 48 ≤ ch ∧ ch ≤ 57
      · have ed : nI ch - 48 = nI (ch - 48) := tp_sb c2.1
        have ei : tp_iw (nI (ch - 48)) 0 9 = true := by
          unfold tp_iw
          simp (disch := omega) only [tp_k0, tp_k9, tp_lt]
          simp; omega
        have hb : (ch - 48) * 10 ^ k ≤ 900 := Nat.le_trans (Nat.mul_le_mul (show ch - 48 ≤ 9 by omega) hu) (by decide)
        rw [ed, pk_mul, nI_add, tp_in_l (y := 0) (z := 9) (Y := 0) (Z := 9) (by decide) (by decide), tp_b2S, tp_if0, ei, if_pos rfl, if_pos c2, nI_add, tp_k1, tp_sb (by omega)]
        simp (disch := omega) only [tp_lt, tp_le]
        by_cases c3 : hi < v + (ch - 48) * 10 ^ k
        · rw [if_pos c3, if_pos (Or.inl c3)]; rfl
        · rw [if_neg c3]
          by_cases c4 : v + (ch - 48) * 10 ^ k + 10 ^ k ≤ lo
          · rw [if_neg (by omega), if_pos (Or.inr c4)]; rfl
          · rw [if_pos (by omega), if_neg (by omega)]
            rw [tp_wg, e9, tp_wu, nI_add, tp_uu]
            have e10 : nI (10 ^ k) / 10 = nI (tp_un10 k) := by
              rw [tp_k10, pk_div (by omega) (by decide) (by decide)]
              congr 1
              cases k with
              | zero => rfl
              | succ k => rw [Nat.pow_succ, Nat.mul_div_cancel _ (by decide)]; rfl
            rw [e10]
            exact tr_fg hlen ht h2 hl hh ha k f _ (p + 1) (by omega) (by omega) (by omega) (by omega)
      · rw [if_neg c2]
        have ei : tp_iw (nI ch - 48) 0 9 = false := by
          unfold tp_iw
          have e48 : (48 : Int32).toInt = 48 := by decide
          have e0 : (0 : Int32).toInt = 0 := by decide
          have e9 : (9 : Int32).toInt = 9 := by decide
          have ec : (nI ch).toInt = (ch : Int) := tp_ti (by omega)
          simp only [tp_lti]
          rw [tp_tsub (by omega) (by omega), ec, e48, e0, e9]
          simp; omega
        rw [tp_in_l (y := 0) (z := 9) (Y := 0) (Z := 9) (by decide) (by decide), tp_b2S, tp_if0, ei]; rfl
    · rw [if_pos (by omega), if_neg c1, tp_L, tp_in_l (y := 0) (z := 9) (Y := 0) (Z := 9) (by decide) (by decide), tp_b2S, tp_if0]; rfl
theorem tr_fig_m1 {w lo hi : Int32} {v : tl_S} : f10_figures m (-1) w lo hi v = some (-1, v) := by
  unfold f10_figures
  have h1 : ∀ x y z f, ¬ x ≤ (0 : Int32) → f10_figures_p26 (f + 1) m (-1) y z 0 x v = some (-1, v) := by
    intro x y z f hx
    unfold f10_figures_p26
    rw [if_neg hx, if_pos rfl, if_pos rfl]
  split
  · exact h1 100 lo hi 1999 (by decide)
  · split
    · exact h1 10 lo hi 1999 (by decide)
    · exact h1 1 lo hi 1999 (by decide)
theorem tr_fig (hlen : len ≤ 120) (ht : ∀ i, i < len → u.1 (m + 1) i = tx i ∧ tp_N 255 (tx i)) (h2 : o 2 = nI len) {lo hi w p : Nat} {W LO HI : Int32} (hW : W = nI w) (hLO : LO = nI lo) (hHI : HI = nI hi) (hw : w = 1 ∨ w = 2 ∨ w = 3) (hl : lo ≤ 1000) (hh : hi ≤ 1000) {x : Option Nat} (hx : ∀ n, x = some n → n ≤ 1000) (hp : p ≤ len) :
    f10_figures m (tp_vo x) W LO HI (tp_w u m (tp_up o 9 (nI p))) = some (tp_vo (tp_sq tx len x w lo hi p).1, tp_w u m (tp_up o 9 (nI (tp_sq tx len x w lo hi p).2))) := by
  subst hW hLO hHI
  cases x with
  | none => exact tr_fig_m1
  | some n =>
    have hn := hx n rfl
    have ha : ¬ nI n = -1 := fun z => (tp_m1n (by omega)).mp z
    unfold f10_figures tp_sq
    show (if nI w = 3 then _ else _ : Option (Int32 × tl_S)) = some (tp_vo (tp_fg tx len lo hi w 0 p).1, _)
    rcases hw with rfl | rfl | rfl
    · rw [if_neg (by decide), if_neg (by decide)]
      exact tr_fg hlen ht h2 hl hh ha 1 tl_F 0 p (by omega) (by unfold tl_F; omega) (by omega) hp
    · rw [if_neg (by decide), if_pos (show nI 2 = 2 from rfl)]
      exact tr_fg hlen ht h2 hl hh ha 2 tl_F 0 p (by omega) (by unfold tl_F; omega) (by omega) hp
    · rw [if_pos (show nI 3 = 3 from rfl)]
      exact tr_fg hlen ht h2 hl hh ha 3 tl_F 0 p (by omega) (by unfold tl_F; omega) (by omega) hp
end TPM
