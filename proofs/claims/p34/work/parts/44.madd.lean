/-! What an hour does to the class's mine. -/
section TPN
variable {α : Type} {a : Nat} {r : tp_R} {u0 u : tl_S} {f : tl_S → Option α} {Q : α → Prop}
theorem tc_addOrder (h : tp_P u0 a r u) (hr : tp_rng r) (hroom : tp_cl (r 8) < 6) {q l g c n w e : Int32} (h0 : q = 0 → w = g ∧ e = c) (h1 : q ≠ 0 → w = n) : tp_T (f3_addOrder (a + 4) q l g c n u) (fun p => p.1 = r 8 + 1 ∧ tp_P u0 a (tp_oo r q l w e) p.2) := by
  obtain ⟨N, n2, n1, n3⟩ := tp_xx (tp_r8 hr)
  have n3' : tp_cl (r 8) = N := n3
  rw [n3'] at hroom
  obtain ⟨⟨H1, ⟨H2, H2i⟩, H3⟩, HF⟩ := id h
  unfold f3_addOrder
  rw [tc_hasRoom h, tp_b2S, tp_if0, tq_g8 h, n1, tp_k6]
  have ed : decide (nI 6 ≤ nI N) = false := decide_eq_false (by rw [tp_le (by omega) (by omega)]; omega)
  rw [ed, if_pos (show (!false) = true from rfl), tl_gs (tp_ix hroom (by omega)), tp_cn (by omega), tl_gs (tq_o h hroom), tp_L, tp_L, tp_L, tp_L, tp_L, tp_L]
  have ho := H2 N hroom
  generalize hoo : u.2.1 ((a + 4) + 1) N = o
  have hoo' : u.2.1 (a + 5) N = o := hoo
  rw [hoo'] at ho
  generalize hV : tl_u (tl_u (tl_u (tl_u (tl_u u.1 o 0 q) o 1 l) o 2 g) o 3 c) o 4 n = V
  have V0 : ∀ p j, p ≠ o → V p j = u.1 p j := by
    intro p j hp
    rw [← hV]
    unfold tl_u
    rw [if_neg (fun z => hp z.1), if_neg (fun z => hp z.1), if_neg (fun z => hp z.1), if_neg (fun z => hp z.1), if_neg (fun z => hp z.1)]
  have V1 : V o 0 = q := by
    rw [← hV]; unfold tl_u
    rw [if_neg (by omega), if_neg (by omega), if_neg (by omega), if_neg (by omega), if_pos ⟨rfl, rfl⟩]
  have V2 : V o 1 = l := by
    rw [← hV]; unfold tl_u
    rw [if_neg (by omega), if_neg (by omega), if_neg (by omega), if_pos ⟨rfl, rfl⟩]
  have V3 : V o 2 = g := by
    rw [← hV]; unfold tl_u
    rw [if_neg (by omega), if_neg (by omega), if_pos ⟨rfl, rfl⟩]
  have V4 : V o 3 = c := by
    rw [← hV]; unfold tl_u
    rw [if_neg (by omega), if_pos ⟨rfl, rfl⟩]
  have V5 : V o 4 = n := by
    rw [← hV]; unfold tl_u
    rw [if_pos ⟨rfl, rfl⟩]
  show tp_T (some (tl_u V (a + 4) 1 (V (a + 4) 1 + 1) (a + 4) 1, ((tl_u V (a + 4) 1 (V (a + 4) 1 + 1), u.2) : tl_S))) _
  have e8 : V (a + 4) 1 + 1 = nI (N + 1) := by rw [V0 _ _ (by omega), tq_g8 h, n1, nI_1]
  rw [e8]
  have e8' : r 8 + 1 = nI (N + 1) := by rw [n1, nI_1]
  generalize hW : tl_u V (a + 4) 1 (nI (N + 1)) = W
  have W0 : ∀ p j, p ≠ a + 4 → W p j = V p j := fun p j hp => by rw [← hW]; unfold tl_u; rw [if_neg (fun z => hp z.1)]
  have W1 : W (a + 4) 1 = nI (N + 1) := by rw [← hW]; unfold tl_u; rw [if_pos ⟨rfl, rfl⟩]
  have W2 : ∀ j, j ≠ 1 → W (a + 4) j = V (a + 4) j := fun j hj => by rw [← hW]; unfold tl_u; rw [if_neg (fun z => hj z.2)]
  refine tp_ret ⟨W1.trans (nI_1 N).symm, ⟨fun i hi => ?_, ⟨H2, H2i⟩, fun k h6 hk => ?_⟩, ⟨fun p hp => ⟨?_, (HF.1 p hp).2⟩, HF.2⟩⟩
  · show W (a + tp_of i) (tp_fld i) = _
    have hi2 := tp_of_o i hi
    unfold tp_oo
    rw [e8']
    by_cases c8 : i = 8
    · subst c8
      rw [tp_us]
      exact W1
    · rw [tp_un c8, tp_un (by omega), tp_un (by omega), tp_un (by omega), tp_un (by omega), ← H1 i hi]
      by_cases d : tp_of i = 4
      · rw [d, W2 _ (fun z => c8 (tp_of_inj i hi 8 (by decide) d z)), V0 _ _ (by omega)]
      · rw [W0 _ _ (by omega), V0 _ _ (by omega)]
  · show W (u.2.1 (a + 5) k) 0 = _ ∧ W (u.2.1 (a + 5) k) 1 = _ ∧ (_ → W (u.2.1 (a + 5) k) 2 = _ ∧ W (u.2.1 (a + 5) k) 3 = _) ∧ (_ → W (u.2.1 (a + 5) k) 4 = _)
    have hok := H2 k h6
    rw [W0 _ _ (by omega), W0 _ _ (by omega), W0 _ _ (by omega), W0 _ _ (by omega), W0 _ _ (by omega)]
    unfold tp_oo at hk ⊢
    rw [e8'] at hk ⊢
    rw [tp_us] at hk
    unfold tp_cl at hk
    rw [tp_cn (by omega)] at hk
    rw [n3']
    rw [tp_un (j := 80 + 4 * k) (by omega), tp_un (j := 81 + 4 * k) (by omega), tp_un (j := 82 + 4 * k) (by omega), tp_un (j := 83 + 4 * k) (by omega)]
    by_cases ck : k = N
    · subst ck
      rw [hoo', V1, V2, V3, V4, V5, tp_us (i := 83 + 4 * k), tp_un (i := 83 + 4 * k) (by omega), tp_un (i := 83 + 4 * k) (by omega), tp_un (i := 83 + 4 * k) (by omega), tp_us (i := 82 + 4 * k), tp_un (i := 82 + 4 * k) (by omega), tp_un (i := 82 + 4 * k) (by omega), tp_us (i := 81 + 4 * k), tp_un (i := 81 + 4 * k) (by omega), tp_us]
      exact ⟨rfl, rfl, fun z => ⟨(h0 z).1.symm, (h0 z).2.symm⟩, fun z => (h1 z).symm⟩
    · have hne : u.2.1 (a + 5) k ≠ o := fun z => ck (H2i k h6 N hroom (z.trans hoo'.symm))
      have en : ∀ j, j < 4 → tp_up (tp_up (tp_up (tp_up r (80 + 4 * N) q) (81 + 4 * N) l) (82 + 4 * N) w) (83 + 4 * N) e (80 + j + 4 * k) = r (80 + j + 4 * k) := fun j hj => by
        rw [tp_un (by omega), tp_un (by omega), tp_un (by omega), tp_un (by omega)]
      have en0 := en 0 (by decide)
      have en1 := en 1 (by decide)
      have en2 := en 2 (by decide)
      have en3 := en 3 (by decide)
      rw [show 80 + 0 + 4 * k = 80 + 4 * k by omega] at en0
      rw [show 80 + 1 + 4 * k = 81 + 4 * k by omega] at en1
      rw [show 80 + 2 + 4 * k = 82 + 4 * k by omega] at en2
      rw [show 80 + 3 + 4 * k = 83 + 4 * k by omega] at en3
      rw [en0, en1, en2, en3, V0 _ _ hne, V0 _ _ hne, V0 _ _ hne, V0 _ _ hne, V0 _ _ hne]
      exact H3 k h6 (by rw [n3']; omega)
  · rw [← (HF.1 p hp).1]
    funext j
    show W p j = u.1 p j
    rw [W0 _ _ (by omega), V0 _ _ (by omega)]
theorem tc_addHang (h : tp_P u0 a r u) (hr : tp_rng r) (hroom : tp_cl (r 8) < 6) {l g c : Int32} : tp_T (f3_addHang (a + 4) l g c u) (fun p => p.1 = r 8 + 1 ∧ tp_P u0 a (tp_oo r 0 l g c) p.2) :=
  tp_b2 (tc_addOrder h hr hroom (w := g) (e := c) (fun _ => ⟨rfl, rfl⟩) (fun z => absurd rfl z)) (fun _ _ q => tp_ret q)
theorem tc_addFill (h : tp_P u0 a r u) (hr : tp_rng r) (hroom : tp_cl (r 8) < 6) {l n : Int32} : tp_T (f3_addFill (a + 4) l n u) (fun p => p.1 = r 8 + 1 ∧ tp_P u0 a (tp_oo r 1 l n (-1)) p.2) :=
  tp_b2 (tc_addOrder h hr hroom (w := n) (e := -1) (fun z => absurd z (by decide)) (fun _ => rfl)) (fun _ _ q => tp_ret q)
theorem tp_dig10 {G : Int32} {i : Nat} (hi : i ≠ 10) (hi1 : i + 1 ≠ 10) : ∀ (n : Nat) (q : tp_R) (y z : Int32), tp_up (tp_dig G i n (tp_up q 10 y)) 10 z = tp_up (tp_dig G i n q) 10 z ∧ tp_dig G i n (tp_up q 10 y) i = tp_dig G i n q i
  | 0, q, y, z => ⟨tp_uu _ _ _ _, tp_un hi⟩
  | n + 1, q, y, z => by
    unfold tp_dig
    rw [tp_un hi, tp_un hi1]
    by_cases c : 60 ≤ q i
    · rw [if_pos c, if_pos c]; exact ⟨tp_uu _ _ _ _, tp_un hi⟩
    · rw [if_neg c, if_neg c]
      by_cases d : q (i + 1) < tp_hd G (q i)
      · rw [if_pos d, if_pos d]; exact ⟨tp_uu _ _ _ _, tp_un hi⟩
      · rw [if_neg d, if_neg d, tp_us, tp_uc (i := 10) (j := i + 1) (Ne.symm hi1), tp_uc (i := 10) (j := i) (Ne.symm hi), tp_uu]
        have A := tp_dig10 (G := G) hi hi1 n (tp_up (tp_up q (i + 1) (q (i + 1) - tp_hd G (q i))) i (q i + 1)) (y + 1) z
        have B := tp_dig10 (G := G) hi hi1 n (tp_up (tp_up q (i + 1) (q (i + 1) - tp_hd G (q i))) i (q i + 1)) (q 10 + 1) z
        exact ⟨A.1.trans B.1.symm, A.2.trans B.2.symm⟩
theorem tp_dig_d {G : Int32} {i : Nat} (hi : i ≠ 10) (hi1 : i + 1 ≠ 10) : ∀ (n : Nat) (q : tp_R), tp_dig G i n q 10 = q 10 + (tp_dig G i n q i - q i)
  | 0, q => by unfold tp_dig; rw [Int32.sub_self, Int32.add_zero]
  | n + 1, q => by
    unfold tp_dig
    split
    · rw [Int32.sub_self, Int32.add_zero]
    · split
      · rw [Int32.sub_self, Int32.add_zero]
      · rw [tp_dig_d hi hi1 n, tp_us, tp_un hi, tp_us]
        generalize tp_dig G i n _ i = X
        rw [Int32.add_assoc]
        congr 1
        rw [Int32.sub_eq_add_neg, Int32.sub_eq_add_neg, Int32.neg_add, Int32.add_comm, Int32.add_assoc, Int32.sub_add_cancel]
theorem tc_strike_l {g : Nat} (hg : g < 3) {x : Int32} : ∀ (f n d : Nat) (q : tp_R) (v : tl_S), tp_P u0 a q v → q (18 + 2 * g) = nI d → d ≤ 60 → 60 - d < f → 60 - d < n →
    tp_T (f1_strike_p15 f ((a + 1) + (11 + g)) (nI g) x v) (fun p => p.1 = tp_dig (nI g) (18 + 2 * g) n q (18 + 2 * g) - x ∧ tp_P u0 a (tp_up (tp_dig (nI g) (18 + 2 * g) n q) 10 (q 10)) p.2)
  | 0, _, _, _, _, _, _, _, h, _ => absurd h (Nat.not_lt_zero _)
  | f + 1, 0, _, _, _, _, _, _, _, h => absurd h (Nat.not_lt_zero _)
  | f + 1, n + 1, d, q, v, h, hd, d6, hf, hn => by
    unfold f1_strike_p15 tp_dig
    rw [tq_gG0 h hg, tq_gG1 h hg]
    by_cases c : 60 ≤ q (18 + 2 * g)
    · rw [if_pos c, if_pos c, tp_ui]
      exact tp_ret ⟨rfl, h⟩
    · rw [if_neg c, if_neg c]
      unfold f9_strokesFor
      rw [tp_b2S, tp_b2S]
      show tp_T (if q (19 + 2 * g) < tp_hd (nI g) (q (18 + 2 * g)) then some (_, v) else _) _
      rw [show 18 + 2 * g + 1 = 19 + 2 * g by omega]
      by_cases c2 : q (19 + 2 * g) < tp_hd (nI g) (q (18 + 2 * g))
      · rw [if_pos c2, if_pos c2, tp_ui, tq_gG0 h hg]
        exact tp_ret ⟨rfl, h⟩
      · rw [if_neg c2, if_neg c2]
        refine tq_pG1 h hg (fun v1 h1 => ?_)
        rw [tq_gG0 h1 hg, tp_un (by omega)]
        refine tq_pG0 h1 hg (fun v2 h2 => ?_)
        rw [tq_gG1 h hg, tq_gG0 h hg] at h2
        have cc : ¬ 60 ≤ d := by
          rw [hd, tp_k60, tp_le (by omega) (by omega)] at c
          exact c
        have h2' : tp_P u0 a (tp_up (tp_up q (19 + 2 * g) (q (19 + 2 * g) - tp_hd (nI g) (q (18 + 2 * g)))) (18 + 2 * g) (q (18 + 2 * g) + 1)) v2 := h2
        refine tp_mono (tc_strike_l hg f n (d + 1) _ v2 h2' (by rw [tp_us, hd, nI_1]) (by omega) (by omega) (by omega)) (fun p hp => ?_)
        have A := tp_dig10 (G := nI g) (i := 18 + 2 * g) (by omega) (by omega) n (tp_up (tp_up q (19 + 2 * g) (q (19 + 2 * g) - tp_hd (nI g) (q (18 + 2 * g)))) (18 + 2 * g) (q (18 + 2 * g) + 1)) (q 10 + 1) (q 10)
        rw [A.1, A.2]
        have e10 : tp_up (tp_up q (19 + 2 * g) (q (19 + 2 * g) - tp_hd (nI g) (q (18 + 2 * g)))) (18 + 2 * g) (q (18 + 2 * g) + 1) 10 = q 10 := by
          rw [tp_un (by omega), tp_un (by omega)]
        rw [e10] at hp
        exact hp
theorem tc_strike {g d : Nat} (h : tp_P u0 a r u) (hg : g < 3) (hd : r (18 + 2 * g) = nI d) (d6 : d ≤ 60) {x : Int32} : tp_T (f1_strike ((a + 1) + (11 + g)) (nI g) x u) (fun p => r 10 + p.1 = tp_dig (nI g) (18 + 2 * g) 61 (tp_up r (19 + 2 * g) (r (19 + 2 * g) + x)) 10 ∧ tp_P u0 a (tp_up (tp_dig (nI g) (18 + 2 * g) 61 (tp_up r (19 + 2 * g) (r (19 + 2 * g) + x))) 10 (r 10)) p.2) := by
  unfold f1_strike
  rw [tp_L, tq_gG0 h hg, tq_gG1 h hg]
  refine tq_pG1 h hg (fun v hv => ?_)
  refine tp_mono (tc_strike_l hg tl_F 61 d _ v hv (by rw [tp_un (by omega)]; exact hd) d6 (by unfold tl_F; omega) (by omega)) (fun p hp => ?_)
  have e10 : tp_up r (19 + 2 * g) (r (19 + 2 * g) + x) 10 = r 10 := tp_un (by omega)
  rw [e10] at hp
  refine ⟨?_, hp.2⟩
  have D := tp_dig_d (G := nI g) (i := 18 + 2 * g) (by omega) (by omega) 61 (tp_up r (19 + 2 * g) (r (19 + 2 * g) + x))
  rw [e10, tp_un (j := 18 + 2 * g) (by omega)] at D
  rw [D, hp.1]
end TPN
