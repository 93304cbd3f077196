/-! The class's orders. -/
def tp_o (u : tl_S) (b : Nat) (O : Nat → Nat) : tl_S := (u.1, fun q => if q = b then O else u.2.1 q, u.2.2)
def tp_uo (O : Nat → Nat) (k v : Nat) : Nat → Nat := fun j => if j = k then v else O j
theorem tp_og {u : tl_S} {b : Nat} {O : Nat → Nat} : (tp_o u b O).2.1 b = O := if_pos rfl
theorem tp_ou {u : tl_S} {b : Nat} {O : Nat → Nat} (k v : Nat) : ((tp_o u b O).1, tl_uO (tp_o u b O).2.1 b k v, (tp_o u b O).2.2) = tp_o u b (tp_uo O k v) := by
  unfold tp_o tl_uO tp_uo
  refine Prod.ext rfl (Prod.ext ?_ rfl)
  funext q j
  show (if q = b ∧ j = k then v else (if q = b then O else u.2.1 q) j) = (if q = b then (fun j => if j = k then v else O j) else u.2.1 q) j
  by_cases c : q = b
  · rw [if_pos c, if_pos c]
    by_cases d : j = k
    · rw [if_pos ⟨c, d⟩, if_pos d]
    · rw [if_neg (fun z => d z.2), if_neg d]
  · rw [if_neg (fun z => c z.1), if_neg c, if_neg c]
theorem tp_o_self {u : tl_S} {b : Nat} : tp_o u b (u.2.1 b) = u := by
  unfold tp_o
  refine Prod.ext rfl (Prod.ext ?_ rfl)
  funext q
  show (if q = b then u.2.1 b else u.2.1 q) = u.2.1 q
  split
  · subst_vars; rfl
  · rfl
theorem tp_od_15 {r : tp_R} : tp_up (tp_od 0 r) 15 0 = tp_od 0 (tp_up r 15 0) := by
  funext i
  by_cases c : i = 15
  · subst c; rw [tp_us, tp_od_n (by decide) (by decide), tp_us]
  · rw [tp_un c]
    unfold tp_od
    rw [tp_un (i := 15) (j := 8) (by decide)]
    by_cases d : 80 + 4 * 0 ≤ i ∧ i < 80 + 4 * (tp_cl (r 8) - 1)
    · rw [if_pos d, if_pos d, tp_un (by omega)]
    · rw [if_neg d, if_neg d, tp_uc (by decide), tp_un c]
/-- the references, one gone -/
def tp_rO (O : Nat → Nat) (k i : Nat) : Nat → Nat := fun j => if k ≤ j ∧ j + 1 < i then O (j + 1) else O j
def tp_rP (k n : Nat) : Nat → Nat := fun j => if k ≤ j ∧ j + 1 < n then j + 1 else if j + 1 = n then k else j
section TPJ
variable {a : Nat} {r : tp_R} {u0 u : tl_S}
theorem tc_rem_l {k n ro : Nat} (hk : k < n) (hn : n ≤ 6) {O : Nat → Nat} (hO : ∀ j, j < 6 → a + 5 < O j ∧ O j < a + 12) (h8 : u.1 (a + 4) 1 = nI n) (h15 : u.1 (a + 4) 6 = 0 ∨ u.1 (a + 4) 6 = 1) : ∀ (f i : Nat), k + 1 ≤ i → i ≤ n → n - i < f →
    f3_removeOrder_p23 f (a + 4) (nI k) ro (nI i) (tp_o u (a + 5) (tp_rO O k i)) = some (nI (n - 1), (tl_u (tl_u u.1 (a + 4) 1 (nI (n - 1))) (a + 4) 6 (if k = 0 then 0 else u.1 (a + 4) 6), (tp_o u (a + 5) (tp_uo (tp_rO O k n) (n - 1) ro)).2))
  | 0, _, _, _, h => absurd h (Nat.not_lt_zero _)
  | f + 1, i, h1, h2, h3 => by
    unfold f3_removeOrder_p23
    have ele : (nI n ≤ nI i) = (n ≤ i) := tp_le (by omega) (by omega)
    rw [show (tp_o u (a + 5) (tp_rO O k i)).1 = u.1 from rfl, h8]
    simp only [ele]
    by_cases c : n ≤ i
    · have hi : i = n := by omega
      subst hi
      have em : nI i - 1 = nI (i - 1) := by rw [tp_k1, tp_sb (by omega)]
      rw [if_pos c, tp_L, em]
      have e1 : tl_u u.1 (a + 4) 1 (nI (i - 1)) (a + 4) 1 = nI (i - 1) := by unfold tl_u; rw [if_pos ⟨rfl, rfl⟩]
      have e6 : tl_u u.1 (a + 4) 1 (nI (i - 1)) (a + 4) 6 = u.1 (a + 4) 6 := by unfold tl_u; rw [if_neg (by omega)]
      have e61 : ∀ x, tl_u (tl_u u.1 (a + 4) 1 (nI (i - 1))) (a + 4) 6 x (a + 4) 1 = nI (i - 1) := fun x => by unfold tl_u; rw [if_neg (by omega), if_pos ⟨rfl, rfl⟩]
      dsimp only
      simp only [e1]
      rw [tl_gs (tp_ix (by omega) (by omega)), tp_cn (by omega), tp_L]
      show (if tl_u u.1 (a + 4) 1 (nI (i - 1)) (a + 4) 6 = 0 then _ else _ : Option (Int32 × tl_S)) = _
      rw [e6]
      have ou := tp_ou (u := u) (b := a + 5) (O := tp_rO O k i) (i - 1) ro
      have ou1 : tl_uO (tp_o u (a + 5) (tp_rO O k i)).2.1 (a + 5) (i - 1) ro = (tp_o u (a + 5) (tp_uo (tp_rO O k i) (i - 1) ro)).2.1 := congrArg (fun z : tl_S => z.2.1) ou
      by_cases d : u.1 (a + 4) 6 = 0
      · rw [if_pos d, tp_L]
        show some (tl_u (tl_u u.1 (a + 4) 1 (nI (i - 1))) (a + 4) 6 0 (a + 4) 1, (tl_u (tl_u u.1 (a + 4) 1 (nI (i - 1))) (a + 4) 6 0, tl_uO (tp_o u (a + 5) (tp_rO O k i)).2.1 (a + 5) (i - 1) ro, (tp_o u (a + 5) (tp_rO O k i)).2.2)) = _
        rw [e61, ou1, d, ite_self]; rfl
      · have d1 := h15.resolve_left d
        have ek : (nI k ≤ 0) = (k = 0) := by rw [tp_le0 (by omega)]; exact propext ⟨fun z => by omega, fun z => by omega⟩
        rw [if_neg d]
        simp only [ek]
        by_cases e : k = 0
        · rw [if_pos e, if_pos e, tp_L]
          show some (tl_u (tl_u u.1 (a + 4) 1 (nI (i - 1))) (a + 4) 6 0 (a + 4) 1, (tl_u (tl_u u.1 (a + 4) 1 (nI (i - 1))) (a + 4) 6 0, tl_uO (tp_o u (a + 5) (tp_rO O k i)).2.1 (a + 5) (i - 1) ro, (tp_o u (a + 5) (tp_rO O k i)).2.2)) = _
          rw [e61, ou1]; rfl
        · rw [if_neg e, if_neg e, tp_L]
          show some (tl_u (tl_u u.1 (a + 4) 1 (nI (i - 1))) (a + 4) 6 1 (a + 4) 1, (tl_u (tl_u u.1 (a + 4) 1 (nI (i - 1))) (a + 4) 6 1, tl_uO (tp_o u (a + 5) (tp_rO O k i)).2.1 (a + 5) (i - 1) ro, (tp_o u (a + 5) (tp_rO O k i)).2.2)) = _
          rw [e61, ou1, d1]; rfl
    · have hr : a + 5 < tp_rO O k i i ∧ tp_rO O k i i < a + 12 := by
        unfold tp_rO
        rw [if_neg (by omega)]
        exact hO i (by omega)
      have em1 : nI i - 1 = nI (i - 1) := by rw [tp_k1, tp_sb (by omega)]
      rw [if_neg c, tl_gs (tp_ix (by omega) (by omega)), tp_cn (by omega), em1, tp_cn (by omega)]
      show tl_g ((a + 4) + 1 < (tp_o u (a + 5) (tp_rO O k i)).2.1 (a + 5) i ∧ (tp_o u (a + 5) (tp_rO O k i)).2.1 (a + 5) i < (a + 4) + 1 + 7) _ = _
      rw [tp_og, tl_gs (by omega), tl_gs (tp_ixn (by omega) (by omega)), tp_L, nI_1]
      have e2 : tp_uo (tp_rO O k i) (i - 1) (tp_rO O k i i) = tp_rO O k (i + 1) := by
        funext j
        unfold tp_uo tp_rO
        by_cases q : j = i - 1
        · rw [if_pos q, if_neg (by omega), if_pos (by omega), q, show i - 1 + 1 = i by omega]
        · rw [if_neg q]
          by_cases w : k ≤ j ∧ j + 1 < i
          · rw [if_pos w, if_pos (by omega)]
          · rw [if_neg w, if_neg (by omega)]
      have ou := tp_ou (u := u) (b := a + 5) (O := tp_rO O k i) (i - 1) (tp_rO O k i i)
      rw [e2] at ou
      rw [tp_L, show (u.1, tl_uO (tp_o u (a + 5) (tp_rO O k i)).2.1 (a + 4 + 1) (i - 1) (tp_rO O k i i), (tp_o u (a + 5) (tp_rO O k i)).2.2) = tp_o u (a + 5) (tp_rO O k (i + 1)) from ou]
      exact tc_rem_l hk hn hO h8 h15 f (i + 1) (by omega) (by omega) (by omega)
theorem tc_remove (h : tp_P u0 a r u) (hr : tp_rng r) {k : Nat} (hk : k < tp_cl (r 8)) : tp_T (f3_removeOrder (a + 4) (nI k) u) (fun p => p.1 = r 8 - 1 ∧ tp_P u0 a (tp_dr (nI k) r) p.2) := by
  obtain ⟨n, n2, n1, n3⟩ := tp_xx (tp_r8 hr)
  obtain ⟨⟨H1, ⟨H2, H2i⟩, H3⟩, HF⟩ := id h
  unfold tp_cl at hk
  rw [n3] at hk
  have h8 := tq_g8 h
  have h15 := tq_g15 h
  have h15' : u.1 (a + 4) 6 = 0 ∨ u.1 (a + 4) 6 = 1 := by
    rw [h15]
    obtain ⟨q, q2, q1, -⟩ := tp_xx (tp_r15 hr)
    rw [q1]
    have : q = 0 ∨ q = 1 := by omega
    rcases this with rfl | rfl
    · exact Or.inl rfl
    · exact Or.inr rfl
  unfold f3_removeOrder
  rw [h8, n1, if_neg (by rw [tp_neg (by omega)]; exact id), if_neg (by rw [tp_le (by omega) (by omega)]; omega), tl_gs (tp_ix (by omega) (by omega)), tp_cn (by omega)]
  show tp_T (tl_g ((a + 4) + 1 < u.2.1 (a + 5) k ∧ u.2.1 (a + 5) k < (a + 4) + 1 + 7) _) _
  have hOk := H2 k (by omega)
  rw [tl_gs (by omega), tp_L, nI_1]
  have e0 : tp_o u (a + 5) (tp_rO (u.2.1 (a + 5)) k (k + 1)) = u := by
    have : tp_rO (u.2.1 (a + 5)) k (k + 1) = u.2.1 (a + 5) := by
      funext j
      unfold tp_rO
      rw [if_neg (by omega)]
    rw [this, tp_o_self]
  have L := tc_rem_l (u := u) (a := a) (ro := u.2.1 (a + 5) k) hk n2 H2 (h8.trans n1) h15' tl_F (k + 1) (by omega) (by omega) (by unfold tl_F; omega)
  rw [e0] at L
  rw [show u.2.1 (a + 4 + 1) k = u.2.1 (a + 5) k from rfl, L]
  refine ⟨_, rfl, (by show nI (n - 1) = nI n - 1; rw [tp_k1, tp_sb (by omega)]), ⟨fun i hi => ?_, ⟨fun j hj => ?_, fun i hi j hj e => ?_⟩, fun j hj hj2 => ?_⟩, ?_⟩
  · show tl_u (tl_u u.1 (a + 4) 1 (nI (n - 1))) (a + 4) 6 (if k = 0 then 0 else u.1 (a + 4) 6) (a + tp_of i) (tp_fld i) = tp_dr (nI k) r i
    unfold tp_dr tp_cl
    rw [tp_cn (by omega)]
    have ek : (nI k = 0) = (k = 0) := tp_eq (by omega) (by decide)
    simp only [ek]
    by_cases c15 : i = 15
    · subst c15
      rw [tp_us]
      show tl_u _ (a + 4) 6 _ (a + 4) 6 = _
      unfold tl_u
      rw [if_pos ⟨rfl, rfl⟩, h15]
    · have q15 : ¬ (a + tp_of i = a + 4 ∧ tp_fld i = 6) := fun z => c15 (tp_of_inj i hi 15 (by decide) (by have := z.1; show tp_of i = 4; omega) z.2)
      rw [tp_un c15]
      unfold tl_u
      rw [if_neg q15]
      by_cases c8 : i = 8
      · subst c8
        rw [if_pos ⟨rfl, rfl⟩, tp_od_8, n1, tp_k1, tp_sb (by omega)]
      · have q8 : ¬ (a + tp_of i = a + 4 ∧ tp_fld i = 1) := fun z => c8 (tp_of_inj i hi 8 (by decide) (by have := z.1; show tp_of i = 4; omega) z.2)
        rw [if_neg q8, tp_od_n hi c8]
        exact H1 i hi
  · show a + 5 < (tp_o u (a + 5) (tp_uo (tp_rO (u.2.1 (a + 5)) k n) (n - 1) (u.2.1 (a + 5) k))).2.1 (a + 5) j ∧ (tp_o u (a + 5) (tp_uo (tp_rO (u.2.1 (a + 5)) k n) (n - 1) (u.2.1 (a + 5) k))).2.1 (a + 5) j < a + 12
    rw [tp_og]
    unfold tp_uo tp_rO
    by_cases q : j = n - 1
    · rw [if_pos q]; exact hOk
    · rw [if_neg q]
      by_cases w : k ≤ j ∧ j + 1 < n
      · rw [if_pos w]; exact H2 (j + 1) (by omega)
      · rw [if_neg w]; exact H2 j hj
  · have e : (tp_o u (a + 5) (tp_uo (tp_rO (u.2.1 (a + 5)) k n) (n - 1) (u.2.1 (a + 5) k))).2.1 (a + 5) i = (tp_o u (a + 5) (tp_uo (tp_rO (u.2.1 (a + 5)) k n) (n - 1) (u.2.1 (a + 5) k))).2.1 (a + 5) j := e
    rw [tp_og] at e
    have pp : ∀ z, tp_uo (tp_rO (u.2.1 (a + 5)) k n) (n - 1) (u.2.1 (a + 5) k) z = u.2.1 (a + 5) (tp_rP k n z) := by
      intro z
      unfold tp_uo tp_rO tp_rP
      by_cases q : z = n - 1
      · rw [if_pos q, if_neg (by omega), if_pos (by omega)]
      · rw [if_neg q]
        by_cases w : k ≤ z ∧ z + 1 < n
        · rw [if_pos w, if_pos w]
        · rw [if_neg w, if_neg w, if_neg (by omega)]
    rw [pp, pp] at e
    have hp : ∀ z, z < 6 → tp_rP k n z < 6 := by
      intro z hz
      unfold tp_rP
      split
      · omega
      · split <;> omega
    have e := H2i _ (hp i hi) _ (hp j hj) e
    unfold tp_rP at e
    split at e
    · split at e
      · omega
      · split at e <;> omega
    · split at e
      · split at e
        · omega
        · split at e <;> omega
      · split at e
        · omega
        · split at e <;> omega
  · have c8 : tp_cl (tp_dr (nI k) r 8) = n - 1 := by
      unfold tp_dr tp_cl
      rw [tp_un (by decide), tp_od_8, n1, tp_k1, tp_sb (by omega), tp_cn (by omega)]
    rw [c8] at hj2
    have ho : 0 < tp_cl (r 8) := by unfold tp_cl; omega
    have hn3 : tp_cl (r 8) = n := n3
    have ed : ∀ z, 80 ≤ z → tp_dr (nI k) r z = tp_od k r z := by
      intro z hz
      unfold tp_dr
      rw [tp_un (by omega)]
      unfold tp_cl
      rw [tp_cn (by omega)]
    have g0 := tp_od_k (k := k) (q := j) (j := 0) hr ho (by omega) (by decide)
    have g1 := tp_od_k (k := k) (q := j) (j := 1) hr ho (by omega) (by decide)
    have g2 := tp_od_k (k := k) (q := j) (j := 2) hr ho (by omega) (by decide)
    have g3 := tp_od_k (k := k) (q := j) (j := 3) hr ho (by omega) (by decide)
    rw [show 80 + 0 + 4 * j = 80 + 4 * j by omega] at g0
    rw [show 80 + 1 + 4 * j = 81 + 4 * j by omega] at g1
    rw [show 80 + 2 + 4 * j = 82 + 4 * j by omega] at g2
    rw [show 80 + 3 + 4 * j = 83 + 4 * j by omega] at g3
    rw [ed _ (by omega), ed (81 + 4 * j) (by omega), ed (82 + 4 * j) (by omega), ed (83 + 4 * j) (by omega), g0, g1, g2, g3]
    show tl_u (tl_u u.1 (a + 4) 1 (nI (n - 1))) (a + 4) 6 _ ((tp_o u (a + 5) (tp_uo (tp_rO (u.2.1 (a + 5)) k n) (n - 1) (u.2.1 (a + 5) k))).2.1 (a + 5) j) 0 = _ ∧ tl_u (tl_u u.1 (a + 4) 1 (nI (n - 1))) (a + 4) 6 _ ((tp_o u (a + 5) (tp_uo (tp_rO (u.2.1 (a + 5)) k n) (n - 1) (u.2.1 (a + 5) k))).2.1 (a + 5) j) 1 = _ ∧ (_ → tl_u (tl_u u.1 (a + 4) 1 (nI (n - 1))) (a + 4) 6 _ ((tp_o u (a + 5) (tp_uo (tp_rO (u.2.1 (a + 5)) k n) (n - 1) (u.2.1 (a + 5) k))).2.1 (a + 5) j) 2 = _ ∧ tl_u (tl_u u.1 (a + 4) 1 (nI (n - 1))) (a + 4) 6 _ ((tp_o u (a + 5) (tp_uo (tp_rO (u.2.1 (a + 5)) k n) (n - 1) (u.2.1 (a + 5) k))).2.1 (a + 5) j) 3 = _) ∧ (_ → tl_u (tl_u u.1 (a + 4) 1 (nI (n - 1))) (a + 4) 6 _ ((tp_o u (a + 5) (tp_uo (tp_rO (u.2.1 (a + 5)) k n) (n - 1) (u.2.1 (a + 5) k))).2.1 (a + 5) j) 4 = _)
    rw [tp_og]
    have pp : tp_uo (tp_rO (u.2.1 (a + 5)) k n) (n - 1) (u.2.1 (a + 5) k) j = if k ≤ j then u.2.1 (a + 5) (j + 1) else u.2.1 (a + 5) j := by
      unfold tp_uo tp_rO
      rw [if_neg (by omega)]
      by_cases w : k ≤ j
      · rw [if_pos ⟨w, by omega⟩, if_pos w]
      · rw [if_neg (fun z => w z.1), if_neg w]
    rw [pp]
    have en : ∀ q z x y, q ≠ a + 4 → tl_u (tl_u u.1 (a + 4) 1 x) (a + 4) 6 y q z = u.1 q z := by
      intro q z x y hq
      unfold tl_u
      rw [if_neg (fun w => hq w.1), if_neg (fun w => hq w.1)]
    by_cases w : k ≤ j
    · simp only [if_pos w]
      have hb := H2 (j + 1) (by omega)
      rw [en _ _ _ _ (by omega), en _ _ _ _ (by omega), en _ _ _ _ (by omega), en _ _ _ _ (by omega), en _ _ _ _ (by omega)]
      exact H3 (j + 1) (by omega) (by rw [hn3]; omega)
    · simp only [if_neg w]
      have hb := H2 j (by omega)
      rw [en _ _ _ _ (by omega), en _ _ _ _ (by omega), en _ _ _ _ (by omega), en _ _ _ _ (by omega), en _ _ _ _ (by omega)]
      exact H3 j (by omega) (by rw [hn3]; omega)
  · refine ⟨fun q hq => ⟨?_, ?_⟩, HF.2⟩
    · rw [← (HF.1 q hq).1]
      funext z
      show tl_u (tl_u u.1 (a + 4) 1 (nI (n - 1))) (a + 4) 6 _ q z = u.1 q z
      unfold tl_u
      rw [if_neg (by omega), if_neg (by omega)]
    · rw [← (HF.1 q hq).2]
      show (if q = a + 5 then _ else u.2.1 q) = u.2.1 q
      rw [if_neg (by omega)]
end TPJ
