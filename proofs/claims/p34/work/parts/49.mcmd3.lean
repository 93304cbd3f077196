/-! The class's command. -/
def tp_FB (b : Nat) (u v : tl_S) : Prop := (∀ p, p ≠ b → v.1 p = u.1 p) ∧ v.2 = u.2
theorem tp_FB_rf (b : Nat) (u : tl_S) : tp_FB b u u := ⟨fun _ _ => rfl, rfl⟩
theorem tp_FB_tr {b : Nat} {u v w : tl_S} (h1 : tp_FB b u v) (h2 : tp_FB b v w) : tp_FB b u w := ⟨fun p hp => (h2.1 p hp).trans (h1.1 p hp), h2.2.trans h1.2⟩
theorem tp_FB_u {b F : Nat} {x : Int32} {u : tl_S} : tp_FB b u (tl_u u.1 b F x, u.2) := ⟨fun p hp => by
  funext j
  show tl_u u.1 b F x p j = u.1 p j
  unfold tl_u
  rw [if_neg (fun z => hp z.1)], rfl⟩
section TQA
variable {b : Nat} {u : tl_S}
theorem tc_become {q : Nat} {x A B C D : Int32} (hx : x = nI q) : tp_T (f0_become b x A B C D u) (fun v => tp_Cm b q A B C D v ∧ tp_FB b u v) := by
  subst hx
  unfold f0_become
  rw [tp_L, tp_L, tp_L, tp_L, tp_L]
  refine tp_ret ⟨⟨?_, ?_, ?_, ?_, ?_⟩, ?_⟩
  · show tl_u (tl_u (tl_u (tl_u (tl_u u.1 b 0 (nI q)) b 1 A) b 2 B) b 3 C) b 4 D b 0 = _
    unfold tl_u
    rw [if_neg (by omega), if_neg (by omega), if_neg (by omega), if_neg (by omega), if_pos ⟨rfl, rfl⟩]
  · show tl_u (tl_u (tl_u (tl_u (tl_u u.1 b 0 (nI q)) b 1 A) b 2 B) b 3 C) b 4 D b 1 = _
    unfold tl_u
    rw [if_neg (by omega), if_neg (by omega), if_neg (by omega), if_pos ⟨rfl, rfl⟩]
  · show tl_u (tl_u (tl_u (tl_u (tl_u u.1 b 0 (nI q)) b 1 A) b 2 B) b 3 C) b 4 D b 2 = _
    unfold tl_u
    rw [if_neg (by omega), if_neg (by omega), if_pos ⟨rfl, rfl⟩]
  · show tl_u (tl_u (tl_u (tl_u (tl_u u.1 b 0 (nI q)) b 1 A) b 2 B) b 3 C) b 4 D b 3 = _
    unfold tl_u
    rw [if_neg (by omega), if_pos ⟨rfl, rfl⟩]
  · show tl_u (tl_u (tl_u (tl_u (tl_u u.1 b 0 (nI q)) b 1 A) b 2 B) b 3 C) b 4 D b 4 = _
    unfold tl_u
    rw [if_pos ⟨rfl, rfl⟩]
  · exact tp_FB_tr (tp_FB_u) (tp_FB_tr (tp_FB_u) (tp_FB_tr (tp_FB_u) (tp_FB_tr (tp_FB_u) tp_FB_u)))
def tp_TQ (b n : Nat) (u v : tl_S) : Prop := tp_FB b u v ∧ ∃ Q A B C D, 1 ≤ Q ∧ Q ≤ 10 ∧ tp_Cm b Q A B C D v ∧ ∀ t, tp_turn (n % 16) (n / 16) t = tp_tt Q A B C D t
theorem tc_turn_b {n Q : Nat} {x A B C D : Int32} (hx : x = nI Q) (h1 : 1 ≤ Q) (h2 : Q ≤ 10) (ht : ∀ t, tp_turn (n % 16) (n / 16) t = tp_tt Q A B C D t) : tp_T (tl_b (f0_become b x A B C D u) (fun u7 => some u7)) (tp_TQ b n u) :=
  tp_b (tc_become hx) (fun v hv => tp_ret ⟨hv.2, Q, A, B, C, D, h1, h2, hv.1, ht⟩)
theorem tp_1pI (n : Nat) : 1 + nI n = nI (1 + n) := by rw [tp_k1, nI_add]
theorem tc_turn {n : Nat} (hn : n < 2147483648) : tp_T (f0_readTurn b (nI n) u) (tp_TQ b n u) := by
  unfold f0_readTurn
  rw [tp_L]
  have e16 : nI n - nI n / 16 * 16 = nI (n % 16) := by rw [tp_dv16 (by omega), tp_rn16]
  have e0 : nI n / 16 = nI (n / 16) := tp_dv16 (by omega)
  rw [e16, e0]
  have hk : n % 16 < 16 := Nat.mod_lt _ (by decide)
  have hq : n / 16 < 134217728 := by omega
  have base : ∀ {Q : Nat} {x A B C D : Int32}, x = nI Q → 1 ≤ Q → Q ≤ 10 → (∀ t, tp_turn (n % 16) (n / 16) t = tp_tt Q A B C D t) → tp_T (tl_b (f0_become b x A B C D u) (fun u7 => some u7)) (tp_TQ b n u) := fun h1 h2 h3 h4 => tc_turn_b h1 h2 h3 h4
  generalize n % 16 = k at hk base
  generalize n / 16 = q at hq base
  by_cases c : 10 ≤ k
  · have e : (nI k).toInt = (k : Int) := tp_ti (by omega)
    rw [e, if_pos (by omega), tp_dv12 (by omega), tp_rn12, tp_1pI]
    exact base (Q := 10) rfl (by decide) (by decide) (fun t => tp_turnX c q t)
  · have : k = 0 ∨ k = 1 ∨ k = 2 ∨ k = 3 ∨ k = 4 ∨ k = 5 ∨ k = 6 ∨ k = 7 ∨ k = 8 ∨ k = 9 := by omega
    rcases this with rfl | rfl | rfl | rfl | rfl | rfl | rfl | rfl | rfl | rfl
    · have e : (nI 0).toInt = ((0 : Nat) : Int) := tp_ti (by decide)
      rw [e, if_neg (by decide), if_pos (by decide), tp_dv30 (by omega), tp_rn30, tp_1pI]
      exact base (Q := 1) rfl (by decide) (by decide) (fun t => tp_turn0 q t)
    · have e : (nI 1).toInt = ((1 : Nat) : Int) := tp_ti (by decide)
      rw [e, if_neg (by decide), if_neg (by decide), if_pos (by decide), tp_dv3 (by omega), tp_rn3, tp_dv4 (by omega), tp_dv5 (by omega), tp_rn5, tp_1pI]
      exact base (Q := 2) rfl (by decide) (by decide) (fun t => tp_turn1 q t)
    · have e : (nI 2).toInt = ((2 : Nat) : Int) := tp_ti (by decide)
      rw [e, if_neg (by decide), if_neg (by decide), if_neg (by decide), if_pos (by decide), tp_dv3 (by omega), tp_rn3, tp_dv4 (by omega), tp_dv5 (by omega), tp_rn5, tp_1pI]
      exact base (Q := 2) rfl (by decide) (by decide) (fun t => tp_turn2 q t)
    · have e : (nI 3).toInt = ((3 : Nat) : Int) := tp_ti (by decide)
      rw [e, if_neg (by decide), if_neg (by decide), if_neg (by decide), if_neg (by decide), if_pos (by decide), tp_dv3 (by omega), tp_rn3, tp_dv4 (by omega), tp_dv30 (by omega), tp_rn30, tp_dv128 (by omega), tp_dv9 (by omega), tp_rn9, tp_1pI, tp_dv2048 (by omega), tp_dv100 (by omega), tp_rn100]
      exact base (Q := 4) rfl (by decide) (by decide) (fun t => tp_turn3 q t)
    · have e : (nI 4).toInt = ((4 : Nat) : Int) := tp_ti (by decide)
      rw [e, if_neg (by decide), if_neg (by decide), if_neg (by decide), if_neg (by decide), if_neg (by decide), if_pos (by decide), tp_dv200 (by omega), tp_rn200]
      exact base (Q := 5) rfl (by decide) (by decide) (fun t => tp_turn4 q t)
    · have e : (nI 5).toInt = ((5 : Nat) : Int) := tp_ti (by decide)
      rw [e, if_neg (by decide), if_neg (by decide), if_neg (by decide), if_neg (by decide), if_neg (by decide), if_neg (by decide), if_pos (by decide), tp_dv8 (by omega), tp_rn8, tp_dv3 (by omega), tp_rn3, tp_dv32 (by omega), tp_dv40 (by omega), tp_rn40]
      exact base (Q := 6) rfl (by decide) (by decide) (fun t => tp_turn5 q t)
    · have e : (nI 6).toInt = ((6 : Nat) : Int) := tp_ti (by decide)
      rw [e, if_neg (by decide), if_neg (by decide), if_neg (by decide), if_neg (by decide), if_neg (by decide), if_neg (by decide), if_neg (by decide), if_pos (by decide), tp_dv8 (by omega), tp_rn8, tp_dv3 (by omega), tp_rn3, tp_dv32 (by omega), tp_dv40 (by omega), tp_rn40]
      exact base (Q := 6) rfl (by decide) (by decide) (fun t => tp_turn6 q t)
    · have e : (nI 7).toInt = ((7 : Nat) : Int) := tp_ti (by decide)
      rw [e, if_neg (by decide), if_neg (by decide), if_neg (by decide), if_neg (by decide), if_neg (by decide), if_neg (by decide), if_neg (by decide), if_neg (by decide), if_pos (by decide), tp_dv8 (by omega), tp_rn8, tp_dv99 (by omega), tp_rn99, tp_1pI]
      exact base (Q := 7) rfl (by decide) (by decide) (fun t => tp_turn7 q t)
    · have e : (nI 8).toInt = ((8 : Nat) : Int) := tp_ti (by decide)
      rw [e, if_neg (by decide), if_neg (by decide), if_neg (by decide), if_neg (by decide), if_neg (by decide), if_neg (by decide), if_neg (by decide), if_neg (by decide), if_neg (by decide), if_pos (by decide)]
      have ec : (nI q / 16 - nI q / 16 / 2 * 2 = 0) = (q / 16 % 2 = 0) := by rw [tp_dv16 (by omega), tp_dv2 (by omega), tp_rn2, tp_k0, tp_eq (by omega) (by decide)]
      by_cases c2 : q / 16 % 2 = 0
      · rw [if_pos (ec.mpr c2), tp_dv13 (by omega), tp_rn13]
        exact base (Q := 9) rfl (by decide) (by decide) (fun t => by rw [tp_turn8, if_pos c2])
      · rw [if_neg (fun z => c2 (ec.mp z)), tp_dv2 (by omega), tp_rn2]
        exact base (Q := 9) rfl (by decide) (by decide) (fun t => by rw [tp_turn8, if_neg c2])
    · have e : (nI 9).toInt = ((9 : Nat) : Int) := tp_ti (by decide)
      rw [e, if_neg (by decide), if_neg (by decide), if_neg (by decide), if_neg (by decide), if_neg (by decide), if_neg (by decide), if_neg (by decide), if_neg (by decide), if_neg (by decide), if_neg (by decide), tp_dv6 (by omega), tp_rn6, tp_dv8 (by omega), tp_dv3 (by omega), tp_rn3]
      exact base (Q := 3) rfl (by decide) (by decide) (fun t => tp_turn9 q t)
def tp_GQ (b k v : Nat) (u : tl_S) (p : Int32 × tl_S) : Prop := tp_FB b u p.2 ∧ ((p.1 = 0 ∧ ∀ t, (tp_scr k v t).1 = false) ∨ (p.1 = 1 ∧ ∃ Q A B C D, tp_Cm b Q A B C D p.2 ∧ ((1 ≤ Q ∧ Q ≤ 10 ∧ ∀ t, tp_scr k v t = tp_tr true Q A B C D t) ∨ (11 ≤ Q ∧ Q ≤ 14 ∧ ∀ t, tp_scr k v t = (tp_ps Q A B t, t)))))
theorem tp_GQb {k v Q : Nat} {x A B C D : Int32} (z : Bool) {f : tl_S → Option (Int32 × tl_S)} (hx : x = nI Q) (hf : ∀ w, f w = some (tp_b01 z, w)) (h0 : z = false → ∀ t, (tp_scr k v t).1 = false) (h1 : z = true → (1 ≤ Q ∧ Q ≤ 10 ∧ ∀ t, tp_scr k v t = tp_tr true Q A B C D t) ∨ (11 ≤ Q ∧ Q ≤ 14 ∧ ∀ t, tp_scr k v t = (tp_ps Q A B t, t))) : tp_T (tl_b (f0_become b x A B C D u) f) (tp_GQ b k v u) := by
  refine tp_b (tc_become hx) (fun w hw => ?_)
  rw [hf]
  refine tp_ret ⟨hw.2, ?_⟩
  cases z
  · exact Or.inl ⟨rfl, h0 rfl⟩
  · exact Or.inr ⟨rfl, Q, A, B, C, D, hw.1, h1 rfl⟩
theorem tp_trf {g : Bool} {q : Nat} {A B C D : Int32} {t : tp_R} (h : g = false) : (tp_tr g q A B C D t).1 = false := by rw [tp_tr_n (Or.inl h)]
theorem tc_group {G : Nat} (hG : G < 1000000) : tp_T (f0_readGroup b (nI G) u) (tp_GQ b (G / 100000) (G % 100000) u) := by
  unfold f0_readGroup
  rw [tp_dv10000 (by omega), tp_dv10 (a := G / 10000) (by omega), tp_rn10, tp_L, tp_dv1000 (by omega), tp_dv10 (a := G / 1000) (by omega), tp_rn10, tp_L, tp_dv10 (a := G) (by omega), tp_dv100 (a := G / 10) (by omega), tp_rn100, tp_L, tp_dv100 (a := G) (by omega), tp_rn100, tp_L, tp_rn10, tp_L]
  have hk : G / 100000 < 10 := by omega
  obtain ⟨k, ek⟩ : ∃ k, G / 100000 = k := ⟨_, rfl⟩
  obtain ⟨v, ev⟩ : ∃ v, G % 100000 = v := ⟨_, rfl⟩
  have hv : v < 100000 := by omega
  have d2 : G / 10000 % 10 = v / 10000 := by omega
  have d3 : G / 1000 % 10 = v / 1000 % 10 := by omega
  have d45 : G / 10 % 100 = v / 10 % 100 := by omega
  have d56 : G % 100 = v % 100 := by omega
  have d6 : G % 10 = v % 10 := by omega
  have dm : G / 100 % 100 = v / 100 % 100 := by omega
  have dk : G % 1000 = v % 1000 := by omega
  have h70 : ∀ z1 z2 : Bool, z1 = (decide (v % 10 = 0) && decide (v / 1000 % 10 = 0)) → z2 = decide (v / 100 % 100 = 0) → tp_T (f0_readGroup_p70 b (nI G) (nI (G / 10000 % 10)) (nI (G / 1000 % 10)) (nI (G / 10 % 100)) (nI (G % 100)) (nI (G % 10)) (tp_b01 z1) (tp_b01 z2) u) (tp_GQ b (G / 100000) (G % 100000) u) := by
    intro z1 z2 hz1 hz2
    unfold f0_readGroup_p70
    rw [tp_dv100000 (by omega), tp_dv1000 (by omega), tp_rn1000, d2, d3, d45, d56, d6, dk, ek, ev]
    have hk : k < 10 := by omega
    have : k = 0 ∨ k = 1 ∨ k = 2 ∨ k = 3 ∨ k = 4 ∨ k = 5 ∨ k = 6 ∨ k = 7 ∨ k = 8 ∨ k = 9 := by omega
    have c0 : ∀ {x : Nat}, x < 2147483648 → (nI x = 0) = (x = 0) := fun h => by rw [tp_k0, tp_eq h (by decide)]
    rcases this with rfl | rfl | rfl | rfl | rfl | rfl | rfl | rfl | rfl | rfl
    · have e : (nI 0).toInt = ((0 : Nat) : Int) := tp_ti (by decide)
      rw [e, if_pos (by decide)]
      refine tp_ret ⟨tp_FB_rf b u, Or.inl ⟨rfl, fun t => ?_⟩⟩
      unfold tp_scr
      rw [if_neg (by decide), if_neg (by decide), if_neg (by decide), if_neg (by decide), if_neg (by decide), if_neg (by decide), if_neg (by decide), if_neg (by decide), if_neg (by decide)]
    · have e : (nI 1).toInt = ((1 : Nat) : Int) := tp_ti (by decide)
      rw [e, if_neg (by decide), if_pos (by decide)]
      refine tp_GQb (Q := 10) (decide (v / 10000 = 0) && z2) rfl (fun w => ?_) (fun z t => ?_) (fun z => Or.inl ⟨by decide, by decide, fun t => ?_⟩)
      · have e2 := c0 (x := v / 10000) (by omega)
        rw [tp_if0]
        by_cases c : v / 10000 = 0
        · rw [if_pos (e2.mpr c), decide_eq_true c]
          cases z2 <;> rfl
        · rw [if_neg (fun z => c (e2.mp z)), decide_eq_false c]; rfl
      · rw [tp_scr1]
        have : ¬ tp_rf 10 (nI v) 0 0 0 t = 0 := by
          rw [tp_rf10]
          intro y
          obtain ⟨n, n1, n2, n3⟩ := tp_iw_N (L := 1) (B := 60) rfl rfl (by decide) (by decide) y
          have e3 : v = n := (tp_eq (by omega) (by omega)).mp n3
          rw [hz2, Bool.and_eq_false_iff, decide_eq_false_iff_not, decide_eq_false_iff_not] at z
          omega
        rw [tp_tr_n (Or.inr this)]
      · rw [tp_scr1]
        rw [hz2, Bool.and_eq_true, decide_eq_true_iff, decide_eq_true_iff] at z
        rw [show v % 100 = v by omega]
    · have e : (nI 2).toInt = ((2 : Nat) : Int) := tp_ti (by decide)
      rw [e, if_neg (by decide), if_neg (by decide), if_pos (by decide)]
      refine tp_GQb (Q := 6) (decide (v % 10 = 0)) rfl (fun w => ?_) (fun z t => ?_) (fun z => Or.inl ⟨by decide, by decide, fun t => ?_⟩)
      · have e2 := c0 (x := v % 10) (by omega)
        by_cases c : v % 10 = 0
        · rw [if_pos (e2.mpr c), decide_eq_true c]; rfl
        · rw [if_neg (fun z => c (e2.mp z)), decide_eq_false c]; rfl
      · rw [tp_scr2]; exact tp_trf z
      · rw [tp_scr2, z]
    · have e : (nI 3).toInt = ((3 : Nat) : Int) := tp_ti (by decide)
      rw [e, if_neg (by decide), if_neg (by decide), if_neg (by decide), if_pos (by decide)]
      refine tp_GQb (Q := 7) z1 rfl (fun w => ?_) (fun z t => ?_) (fun z => Or.inl ⟨by decide, by decide, fun t => ?_⟩)
      · rw [tp_gB]
      · rw [tp_scr3]; exact tp_trf (hz1.symm.trans z)
      · rw [tp_scr3, ← hz1, z]
    · have e : (nI 4).toInt = ((4 : Nat) : Int) := tp_ti (by decide)
      rw [e, if_neg (by decide), if_neg (by decide), if_neg (by decide), if_neg (by decide), if_pos (by decide)]
      refine tp_GQb (Q := 9) z1 rfl (fun w => ?_) (fun z t => ?_) (fun z => Or.inl ⟨by decide, by decide, fun t => ?_⟩)
      · rw [tp_gB]
      · rw [tp_scr4]; exact tp_trf (hz1.symm.trans z)
      · rw [tp_scr4, ← hz1, z]
    · have e : (nI 5).toInt = ((5 : Nat) : Int) := tp_ti (by decide)
      rw [e, if_neg (by decide), if_neg (by decide), if_neg (by decide), if_neg (by decide), if_neg (by decide), if_pos (by decide)]
      refine tp_GQb (Q := 3) (decide (v % 1000 = 0)) rfl (fun w => ?_) (fun z t => ?_) (fun z => Or.inl ⟨by decide, by decide, fun t => ?_⟩)
      · have e2 := c0 (x := v % 1000) (by omega)
        by_cases c : v % 1000 = 0
        · rw [if_pos (e2.mpr c), decide_eq_true c]; rfl
        · rw [if_neg (fun z => c (e2.mp z)), decide_eq_false c]; rfl
      · rw [tp_scr5]; exact tp_trf z
      · rw [tp_scr5, z]
    · have e : (nI 6).toInt = ((6 : Nat) : Int) := tp_ti (by decide)
      rw [e, if_neg (by decide), if_neg (by decide), if_neg (by decide), if_neg (by decide), if_neg (by decide), if_neg (by decide), if_pos (by decide)]
      refine tp_GQb (Q := 11) (decide (v % 10000 < 2)) rfl (fun w => ?_) (fun z t => ?_) (fun z => Or.inr ⟨by decide, by decide, fun t => ?_⟩)
      · have e1 := c0 (x := v / 1000 % 10) (by omega)
        have e2 := c0 (x := v / 10 % 100) (by omega)
        have e3 : (1 < nI (v % 10)) = (1 < v % 10) := by rw [tp_k1, tp_lt (by decide) (by omega)]
        by_cases c1 : v / 1000 % 10 = 0
        · rw [if_pos (e1.mpr c1)]
          by_cases c2 : v / 10 % 100 = 0
          · rw [if_pos (e2.mpr c2)]
            by_cases c3 : 1 < v % 10
            · rw [if_pos (e3.mpr c3), decide_eq_false (by omega)]; rfl
            · rw [if_neg (fun z => c3 (e3.mp z)), decide_eq_true (by omega)]; rfl
          · rw [if_neg (fun z => c2 (e2.mp z)), decide_eq_false (by omega)]; rfl
        · rw [if_neg (fun z => c1 (e1.mp z)), decide_eq_false (by omega)]; rfl
      · rw [tp_scr6, z]; rfl
      · rw [tp_scr6, z, Bool.true_and]
        have hcl : tp_cl (nI (v / 10000)) = v / 10000 := tp_cn (by omega)
        have e1 : (nI (v % 10) = 1) = (v % 10 = 1) := by rw [tp_k1, tp_eq (by omega) (by decide)]
        unfold tp_ps
        rw [if_pos rfl, hcl]
        simp only [e1]
    · have e : (nI 7).toInt = ((7 : Nat) : Int) := tp_ti (by decide)
      rw [e, if_neg (by decide), if_neg (by decide), if_neg (by decide), if_neg (by decide), if_neg (by decide), if_neg (by decide), if_neg (by decide), if_pos (by decide)]
      refine tp_GQb (Q := 12) z2 rfl (fun w => ?_) (fun z t => ?_) (fun z => Or.inr ⟨by decide, by decide, fun t => ?_⟩)
      · rw [tp_gB]
      · rw [hz2, decide_eq_false_iff_not] at z
        rw [tp_scr7, decide_eq_false (show ¬ v % 10000 < 100 by omega)]; rfl
      · rw [hz2, decide_eq_true_iff] at z
        rw [tp_scr7, decide_eq_true (show v % 10000 < 100 by omega), Bool.true_and]
        have hcl : tp_cl (nI (v / 10000)) = v / 10000 := tp_cn (by omega)
        unfold tp_ps
        rw [if_neg (by decide), if_pos rfl, hcl]
    · have e : (nI 8).toInt = ((8 : Nat) : Int) := tp_ti (by decide)
      rw [e, if_neg (by decide), if_neg (by decide), if_neg (by decide), if_neg (by decide), if_neg (by decide), if_neg (by decide), if_neg (by decide), if_neg (by decide), if_pos (by decide)]
      refine tp_GQb (Q := 13) z2 rfl (fun w => ?_) (fun z t => ?_) (fun z => Or.inr ⟨by decide, by decide, fun t => ?_⟩)
      · rw [tp_gB]
      · rw [hz2, decide_eq_false_iff_not] at z
        rw [tp_scr8, decide_eq_false (show ¬ v % 10000 < 100 by omega)]; rfl
      · rw [hz2, decide_eq_true_iff] at z
        rw [tp_scr8, decide_eq_true (show v % 10000 < 100 by omega), Bool.true_and]
        have hcl : tp_cl (nI (v / 10000)) = v / 10000 := tp_cn (by omega)
        unfold tp_ps
        rw [if_neg (by decide), if_neg (by decide), if_pos rfl, hcl]
    · have e : (nI 9).toInt = ((9 : Nat) : Int) := tp_ti (by decide)
      rw [e, if_neg (by decide), if_neg (by decide), if_neg (by decide), if_neg (by decide), if_neg (by decide), if_neg (by decide), if_neg (by decide), if_neg (by decide), if_neg (by decide)]
      refine tp_GQb (Q := 14) (decide (v < 10)) rfl (fun w => ?_) (fun z t => ?_) (fun z => Or.inr ⟨by decide, by decide, fun t => ?_⟩)
      · have e0 := c0 (x := v / 10000) (by omega)
        have e1 := c0 (x := v / 1000 % 10) (by omega)
        have e2 := c0 (x := v / 10 % 100) (by omega)
        by_cases c0 : v / 10000 = 0
        · rw [if_pos (e0.mpr c0)]
          by_cases c1 : v / 1000 % 10 = 0
          · rw [if_pos (e1.mpr c1)]
            by_cases c2 : v / 10 % 100 = 0
            · rw [if_pos (e2.mpr c2), decide_eq_true (by omega)]; rfl
            · rw [if_neg (fun z => c2 (e2.mp z)), decide_eq_false (by omega)]; rfl
          · rw [if_neg (fun z => c1 (e1.mp z)), decide_eq_false (by omega)]; rfl
        · rw [if_neg (fun z => c0 (e0.mp z)), decide_eq_false (by omega)]; rfl
      · rw [tp_scr9, z]; rfl
      · rw [tp_scr9, z, Bool.true_and]
        unfold tp_ps
        rw [if_neg (by decide), if_neg (by decide), if_neg (by decide)]
  have h53 : ∀ z1 : Bool, z1 = (decide (v % 10 = 0) && decide (v / 1000 % 10 = 0)) → tp_T (f0_readGroup_p53 b (nI G) (nI (G / 10000 % 10)) (nI (G / 1000 % 10)) (nI (G / 10 % 100)) (nI (G % 100)) (nI (G % 10)) (tp_b01 z1) u) (tp_GQ b (G / 100000) (G % 100000) u) := by
    intro z1 hz1
    unfold f0_readGroup_p53
    rw [tp_dv100 (a := G) (by omega), tp_dv100 (a := G / 100) (by omega), tp_rn100, dm]
    have e1 : (nI (v / 100 % 100) = 0) = (v / 100 % 100 = 0) := by rw [tp_k0, tp_eq (by omega) (by decide)]
    by_cases c : v / 100 % 100 = 0
    · rw [if_pos (e1.mpr c)]
      exact h70 z1 true hz1 (decide_eq_true c).symm
    · rw [if_neg (fun z => c (e1.mp z))]
      exact h70 z1 false hz1 (decide_eq_false c).symm
  have e3 : (nI (G / 1000 % 10) = 0) = (v / 1000 % 10 = 0) := by rw [d3, tp_k0, tp_eq (by omega) (by decide)]
  have e6 : (nI (G % 10) = 0) = (v % 10 = 0) := by rw [d6, tp_k0, tp_eq (by omega) (by decide)]
  by_cases c : v / 1000 % 10 = 0
  · rw [if_pos (e3.mpr c)]
    by_cases c2 : v % 10 = 0
    · rw [if_pos (e6.mpr c2)]
      exact h53 true (by rw [decide_eq_true c, decide_eq_true c2]; rfl)
    · rw [if_neg (fun z => c2 (e6.mp z))]
      exact h53 false (by rw [decide_eq_false c2]; rfl)
  · rw [if_neg (fun z => c (e3.mp z))]
    exact h53 false (by rw [decide_eq_false c, Bool.and_false])
end TQA
