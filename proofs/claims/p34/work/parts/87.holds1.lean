/-! What holds in each mine: the lamps, the cells that are lit. -/
theorem tz_nat {r : tp_R} {i b : Nat} (h : tp_rng r) (e : tp_kd i = (1, b)) (hb : b < 2147483648) : ∃ n, n ≤ b ∧ r i = nI n ∧ tp_cl (r i) = n := tp_xx (tp_rN h e hb)
theorem tz_il1 {a b : Nat} {α : Type} {x y : α} (ha : a < 2147483648) (hb : b < 2147483648) (h : a < b) : (if nI b ≤ nI a then x else y) = y := if_neg (by rw [tp_le hb ha]; omega)
theorem tz_il0 {a b : Nat} {α : Type} {x y : α} (ha : a < 2147483648) (hb : b < 2147483648) (h : b ≤ a) : (if nI b ≤ nI a then x else y) = x := if_pos (by rw [tp_le hb ha]; exact h)
theorem tz_kif {R : Type} {c : Prop} [Decidable c] {x y : Int32} {u : tz_U} {f : Int32 → tz_U → Option R} : tl_k f (fun K => if c then K x u else K y u) = f (if c then x else y) u := by
  unfold tl_k
  split <;> rfl
theorem tz_kifn {R : Type} {c : Prop} [Decidable c] {x : Option R} {u : tz_U} {f : tz_U → Option R} (h : c) : tl_k f (fun K => if c then K u else x) = f u := by
  show (if c then f u else x) = f u
  exact if_pos h
theorem tz_h101 {a : Nat} {U : tz_U} {T n : Nat} (hV : tz_V T (U a).1) (hn : tp_cl ((U a).1 2) = n) (x2 x3 x5 x8 x9 x10 : Int32) : ∀ (fu i : Nat), i ≤ n → n < i + fu → fL_holds_p101 fu a x2 x3 (nI n) x5 ((U a).1 13) (tp_oil (U a).1 i) x8 x9 x10 1 (nI i) U = some (tp_oil (U a).1 n, 1, U)
  | 0, _, h1, h2 => absurd h2 (by omega)
  | fu + 1, i, h1, h2 => by
    have ih := tz_h101 hV hn x2 x3 x5 x8 x9 x10 fu (i + 1)
    obtain ⟨⟨hk, hL, -⟩, -⟩ := hV
    have hr := hk.1
    have b2 := (tp_r2 hr).2
    have b0 := (tp_r0 hr).2
    unfold fL_holds_p101
    by_cases c : n ≤ i
    · rw [tz_il0 (by omega) (by omega) c, show i = n by omega]
    · have hi : i < tp_cl ((U a).1 2) := by omega
      have ih := ih (by omega) (by omega)
      rw [tz_il1 (by omega) (by omega) (by omega), if_neg (by decide), gG_1 hr hi, tp_b2S, gG_2 hr hi, tp_b2S, gG_3 hr hi, tp_b2S, tp_L]
      obtain ⟨o, o2, o1, o3⟩ := tp_xx (tp_rlo hr (show i < 8 by omega))
      have e4 : tp_oil (U a).1 i + (U a).1 (49 + 4 * i) = tp_oil (U a).1 (i + 1) := rfl
      have e1 : nI i + 1 = nI (i + 1) := nI_1 i
      rw [e4, o1, if_neg (show ¬ nI o < 0 by rw [tp_k0, tp_lt (by omega) (by decide)]; omega), if_neg (show ¬ 99 < nI o by rw [tp_k99, tp_lt (by decide) (by omega)]; omega), gG_4 hr hi, tp_b2S, o1, tz_kif, tz_kif]
      have ey : (if (if nI o ≤ 0 then (0 : Int32) else 1) = 1 then (1 : Int32) else 0) = (if nI o ≤ 0 then 0 else 1) := by
        by_cases z : nI o ≤ 0
        · rw [if_pos z, if_neg (by decide)]
        · rw [if_neg z, if_pos rfl]
      rw [if_pos ey, tz_kif, tz_kif]
      obtain ⟨a1, a2⟩ := hL i hi
      by_cases c13 : (U a).1 13 = nI i
      · obtain ⟨l1, l2⟩ := a1 c13
        have m1 : (-1 : Int32) = -1 := rfl
        have o1 : (1 : Int32) = 1 := rfl
        rw [l1, l2, if_pos m1, if_pos c13.symm, if_pos o1, tz_kif, tz_kif, if_pos m1, if_pos c13.symm, if_pos o1, if_pos c13.symm, tp_L, e1]
        exact ih
      · obtain ⟨g, cc, g1, g2, g3, g4⟩ := a2 c13
        have c13' : ¬ nI i = (U a).1 13 := fun z => c13 z.symm
        have d60 := (tp_rga hr (show g < 3 by omega)).2
        have g4 : cc < tp_cl ((U a).1 (18 + 2 * g)) := g4
        obtain ⟨d, d2, d1, d3⟩ := tp_xx (tp_rga hr (show g < 3 by omega))
        have d3 : tp_cl ((U a).1 (18 + 2 * g)) = d := d3
        rw [g1, g3, if_neg (show ¬ nI g = -1 from fun z => (tp_m1n (by omega)).mp z), if_neg c13', if_pos rfl, tz_kif, tz_kif, if_neg (show ¬ nI cc = -1 from fun z => (tp_m1n (by omega)).mp z), if_neg c13', if_pos rfl, if_neg c13', gT_0 hr g2, tp_b2S, d1, tz_il1 (by omega) (by omega) (by omega), tp_L, e1]
        exact ih
theorem tz_any_s (p : Nat → Bool) (n : Nat) : tp_any p (n + 1) = (tp_any p n || p n) := rfl
theorem tz_h375 {a : Nat} {U : tz_U} {T n g c : Nat} (hV : tz_V T (U a).1) (hn : tp_cl ((U a).1 2) = n) (x2 x3 x5 x6 x7 x8 x9 x10 x11 x13 x14 x15 : Int32) : ∀ (fu i : Nat), i ≤ n → n < i + fu → fL_holds_p375 fu a x2 x3 (nI n) x5 x6 x7 x8 x9 x10 x11 (nI g) x13 x14 x15 (nI c) (tp_b01 (tp_any (tp_ltl (U a).1 (nI g) (nI c)) i)) (nI i) U = some (tp_b01 (tp_any (tp_ltl (U a).1 (nI g) (nI c)) n), U)
  | 0, _, h1, h2 => absurd h2 (by omega)
  | fu + 1, i, h1, h2 => by
    have ih := tz_h375 (g := g) (c := c) hV hn x2 x3 x5 x6 x7 x8 x9 x10 x11 x13 x14 x15 fu (i + 1)
    obtain ⟨⟨hk, hL, -⟩, -⟩ := hV
    have hr := hk.1
    have b2 := (tp_r2 hr).2
    unfold fL_holds_p375
    by_cases cc : n ≤ i
    · rw [tz_il0 (by omega) (by omega) cc, show i = n by omega]
    · have hi : i < tp_cl ((U a).1 2) := by omega
      have ih := ih (by omega) (by omega)
      rw [tz_any_s] at ih
      have e1 : nI i + 1 = nI (i + 1) := nI_1 i
      rw [tz_il1 (by omega) (by omega) (by omega), gG_3 hr hi, tp_b2S, tp_L, gG_0 hr hi, tp_b2S, tp_if0]
      rcases hq : tp_any (tp_ltl (U a).1 (nI g) (nI c)) i with _ | _
      · rw [if_neg (by decide), gG_2 hr hi, tp_b2S]
        rw [hq, Bool.false_or] at ih
        unfold tp_ltl at ih
        have eneg : -((U a).1 (51 + 4 * i) - nI c) = nI c - (U a).1 (51 + 4 * i) := by grind
        by_cases k1 : (U a).1 (50 + 4 * i) = nI g
        · rw [if_pos k1, gG_1 hr hi, tp_b2S]
          rw [decide_eq_true k1, Bool.true_and] at ih
          by_cases k2 : (U a).1 (49 + 4 * i) ≤ 0
          · rw [if_pos k2, tp_L, e1]
            rw [decide_eq_true k2] at ih
            exact ih
          · rw [if_neg k2]
            rw [decide_eq_false k2, Bool.not_false, Bool.true_and] at ih
            by_cases k3 : (U a).1 (48 + 4 * i) < (U a).1 (51 + 4 * i) - nI c
            · rw [if_pos k3, tp_L, e1]
              rw [decide_eq_true k3, Bool.not_true, Bool.and_false] at ih
              exact ih
            · rw [if_neg k3, eneg]
              rw [decide_eq_false k3, Bool.not_false, Bool.and_true] at ih
              by_cases k4 : (U a).1 (48 + 4 * i) < nI c - (U a).1 (51 + 4 * i)
              · rw [if_pos k4, tp_L, e1]
                rw [decide_eq_true k4] at ih
                exact ih
              · rw [if_neg k4, tp_L, e1]
                rw [decide_eq_false k4] at ih
                exact ih
        · rw [if_neg k1, tp_L, e1]
          rw [decide_eq_false k1, Bool.false_and] at ih
          exact ih
      · rw [if_pos rfl, tp_L, e1]
        rw [hq, Bool.true_or] at ih
        exact ih
theorem tz_cnt_s (p : Nat → Bool) (n : Nat) : tp_cnt p (n + 1) = tp_cnt p n + (if p n then 1 else 0) := rfl
theorem tz_cnt_le (p : Nat → Bool) : ∀ n, tp_cnt p n ≤ n
  | 0 => Nat.le_refl _
  | n + 1 => by
    rw [tz_cnt_s]
    have := tz_cnt_le p n
    split <;> omega
/-- the cells of a gallery, from c on; f: the last one's light -/
theorem tz_h357 {a : Nat} {U : tz_U} {T n g d : Nat} (hV : tz_V T (U a).1) (hn : tp_cl ((U a).1 2) = n) (hd : d ≤ 60) (x2 x3 x5 x6 x7 x8 x9 x10 x14 : Int32) : ∀ (fu c : Nat) (f : Int32), c ≤ d + 1 → d + 1 < c + fu → fL_holds_p357 fu a x2 x3 (nI n) x5 x6 x7 x8 x9 x10 1 (nI g) (nI d) x14 f (nI (tp_cnt (fun c => tp_lit (U a).1 (nI g) (nI c)) (min c d))) (nI c) U = some (if c = d + 1 then f else tp_b01 (tp_lit (U a).1 (nI g) (nI d)), nI (tp_cnt (fun c => tp_lit (U a).1 (nI g) (nI c)) d), U)
  | 0, _, _, h1, h2 => absurd h2 (by omega)
  | fu + 1, c, f, h1, h2 => by
    have ih := tz_h357 (g := g) hV hn hd x2 x3 x5 x6 x7 x8 x9 x10 x14 fu (c + 1)
    have b2 := (tp_r2 hV.1.1.1).2
    unfold fL_holds_p357
    by_cases e : d < c
    · have ec : c = d + 1 := by omega
      rw [if_pos (show nI d < nI c by rw [tp_lt (by omega) (by omega)]; exact e), if_pos ec, show min c d = d by omega]
    · rw [if_neg (show ¬ nI d < nI c by rw [tp_lt (by omega) (by omega)]; exact e), if_neg (by decide)]
      have h375 := tz_h375 (g := g) (c := c) hV hn x2 x3 x5 x6 x7 x8 x9 x10 1 (nI d) x14 (nI (tp_cnt (fun c => tp_lit (U a).1 (nI g) (nI c)) (min c d))) 9 0 (by omega) (by omega)
      have e0 : tp_b01 (tp_any (tp_ltl (U a).1 (nI g) (nI c)) 0) = 0 := rfl
      have eL : tp_any (tp_ltl (U a).1 (nI g) (nI c)) n = tp_lit (U a).1 (nI g) (nI c) := by unfold tp_lit; rw [hn]
      rw [e0, eL] at h375
      have h375' : fL_holds_p375 9 a x2 x3 (nI n) x5 x6 x7 x8 x9 x10 1 (nI g) (nI d) x14 (nI (tp_cnt (fun c => tp_lit (U a).1 (nI g) (nI c)) (min c d))) (nI c) 0 0 U = some (tp_b01 (tp_lit (U a).1 (nI g) (nI c)), U) := h375
      rw [tl_bs h375']
      have ih := ih (tp_b01 (tp_lit (U a).1 (nI g) (nI c))) (by omega) (by omega)
      dsimp only
      have ef : (if c + 1 = d + 1 then tp_b01 (tp_lit (U a).1 (nI g) (nI c)) else tp_b01 (tp_lit (U a).1 (nI g) (nI d))) = tp_b01 (tp_lit (U a).1 (nI g) (nI d)) := by
        by_cases w : c + 1 = d + 1
        · rw [if_pos w, show c = d by omega]
        · rw [if_neg w]
      rw [ef] at ih
      rw [if_neg (show ¬ c = d + 1 by omega)]
      rw [tz_k, tp_if0]
      rcases el : tp_lit (U a).1 (nI g) (nI c) with _ | _
      · rw [if_neg (by decide)]
        dsimp only
        rw [tp_L, tp_L, nI_1]
        have em : tp_cnt (fun c => tp_lit (U a).1 (nI g) (nI c)) (min (c + 1) d) = tp_cnt (fun c => tp_lit (U a).1 (nI g) (nI c)) (min c d) := by
          by_cases w : c < d
          · rw [show min (c + 1) d = c + 1 by omega, show min c d = c by omega, tz_cnt_s, el]; rfl
          · rw [show min (c + 1) d = d by omega, show min c d = d by omega]
        rw [em, el] at ih
        rw [Int32.add_zero]
        exact ih
      · rw [if_pos rfl]
        by_cases w : c < d
        · rw [tz_il1 (by omega) (by omega) w]
          dsimp only
          rw [tp_L, tp_L, nI_1, nI_1]
          rw [show min (c + 1) d = c + 1 by omega, tz_cnt_s, el] at ih
          rw [show min c d = c by omega]
          exact ih
        · rw [tz_il0 (by omega) (by omega) (by omega)]
          dsimp only
          rw [tp_L, tp_L, nI_1, Int32.add_zero]
          rw [show min (c + 1) d = d by omega, el] at ih
          rw [show min c d = d by omega]
          exact ih
