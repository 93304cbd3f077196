/-! What holds in each mine: galleries, miners, orders. -/
def tz_sg (f : Nat → Nat) : Nat → Nat
  | 0 => 0
  | n + 1 => tz_sg f n + f n
theorem tz_sg_add (f g : Nat → Nat) : ∀ n, tz_sg (fun i => f i + g i) n = tz_sg f n + tz_sg g n
  | 0 => rfl
  | n + 1 => by rw [tz_sg, tz_sg, tz_sg, tz_sg_add f g n]; omega
theorem tz_sg_c {f g : Nat → Nat} : ∀ n, (∀ i, i < n → f i = g i) → tz_sg f n = tz_sg g n
  | 0, _ => rfl
  | n + 1, h => by rw [tz_sg, tz_sg, tz_sg_c n (fun i hi => h i (by omega)), h n (by omega)]
theorem tz_sg_0 : ∀ n, tz_sg (fun _ => 0) n = 0
  | 0 => rfl
  | n + 1 => by rw [tz_sg, tz_sg_0 n]
/-- one of the numbers below n, or none -/
theorem tz_sg_one {x : Int32} : ∀ n, n < 1000 → tz_sg (fun g => if decide (x = nI g) = true then 1 else 0) n = if tp_any (fun g => decide (x = nI g)) n = true then 1 else 0
  | 0, _ => rfl
  | n + 1, hn => by
    rw [tz_sg, tz_sg_one n (by omega), tz_any_s]
    by_cases c : x = nI n
    · have : tp_any (fun g => decide (x = nI g)) n = false := by
        rw [tp_any_f]
        intro k hk
        rw [decide_eq_false_iff_not, c, tp_eq (by omega) (by omega)]
        omega
      rw [this, decide_eq_true c]; rfl
    · rw [decide_eq_false c, Bool.or_false, if_neg (show ¬ false = true by decide)]; omega
theorem tz_sg_cnt (f : Nat → Int32) {G : Nat} (hG : G < 1000) : ∀ m, tz_sg (fun g => tp_cnt (fun j => decide (f j = nI g)) m) G = tp_cnt (fun j => tp_any (fun g => decide (f j = nI g)) G) m
  | 0 => tz_sg_0 G
  | m + 1 => by
    rw [tz_cnt_s, ← tz_sg_cnt f hG m, ← tz_sg_one G hG]
    rw [← tz_sg_add]
    rfl
theorem tz_cnt_all {p : Nat → Bool} : ∀ n, (∀ i, i < n → p i = true) → tp_cnt p n = n
  | 0, _ => rfl
  | n + 1, h => by rw [tz_cnt_s, tz_cnt_all n (fun i hi => h i (by omega)), if_pos (h n (by omega))]
theorem tz_cnt_but {p : Nat → Bool} {l : Nat} : ∀ n, l < n → p l = false → (∀ i, i < n → i ≠ l → p i = true) → tp_cnt p n + 1 = n
  | 0, h, _, _ => absurd h (Nat.not_lt_zero _)
  | n + 1, h, hl, ho => by
    rw [tz_cnt_s]
    by_cases c : l = n
    · subst c
      rw [tz_cnt_all l (fun i hi => ho i (by omega) (by omega)), hl]; rfl
    · have := tz_cnt_but n (by omega) hl (fun i hi => ho i (by omega))
      rw [if_pos (ho n (by omega) (by omega))]
      omega
theorem tz_any_one {x : Int32} {g G : Nat} (h : g < G) (e : x = nI g) : tp_any (fun g => decide (x = nI g)) G = true := tp_any_t h (decide_eq_true e)
/-- each miner is in one gallery -/
theorem tz_workers {r : tp_R} (hk : tp_Ok r) : tz_sg (fun g => tp_cnt (tp_isg r g) (tp_cl (r 1))) (tp_cl (r 0)) = tp_cl (r 1) := by
  have b0 := (tp_r0 hk.1).2
  have b1 := (tp_r1 hk.1).2
  show tz_sg (fun g => tp_cnt (fun j => decide (r (24 + 4 * j) = nI g)) (tp_cl (r 1))) (tp_cl (r 0)) = _
  rw [tz_sg_cnt (fun j => r (24 + 4 * j)) (by omega)]
  exact tz_cnt_all _ (fun i hi => tz_any_one (hk.2.1 i hi) (tp_rmg hk.1 (show i < 6 by omega)).1)
/-- each lamp hangs in one gallery, but the one that is carried -/
theorem tz_hung {r : tp_R} (hk : tp_Ok r) (hL : tz_VL r) : nI (tz_sg (fun g => tp_cnt (tp_isl r g) (tp_cl (r 2))) (tp_cl (r 0))) = nI (tp_cl (r 2)) - (if r 13 = -1 then 0 else 1) := by
  have b0 := (tp_r0 hk.1).2
  have b2 := (tp_r2 hk.1).2
  have e : tz_sg (fun g => tp_cnt (tp_isl r g) (tp_cl (r 2))) (tp_cl (r 0)) = tp_cnt (fun j => tp_any (fun g => decide (r (50 + 4 * j) = nI g)) (tp_cl (r 0))) (tp_cl (r 2)) := tz_sg_cnt (fun j => r (50 + 4 * j)) (by omega) _
  rw [e]
  have hin : ∀ i, i < tp_cl (r 2) → r 13 ≠ nI i → tp_any (fun g => decide (r (50 + 4 * i) = nI g)) (tp_cl (r 0)) = true := fun i hi hne => by
    obtain ⟨g, c, e1, e2, -, -⟩ := (hL i hi).2 hne
    exact tz_any_one e2 e1
  by_cases c : r 13 = -1
  · rw [if_pos c, tz_cnt_all _ (fun i hi => hin i hi (by rw [c]; exact fun z => (tp_n1m (n := i) (by omega)).mp z)), Int32.sub_zero]
  · rw [if_neg c]
    obtain ⟨o1, o2, o3, -⟩ := hk.2.2.2.2.1 c
    have o4 := (hk.2.2.1 0 o1).1
    have o4 : tp_cl (r 81) < tp_cl (r 2) := o4
    have o5 := (tp_rol hk.1 (show 0 < 6 by decide)).1
    have o5 : r 81 = nI (tp_cl (r 81)) := o5
    generalize tp_cl (r 81) = l at o4 o5
    have h13 : r 13 = nI l := by rw [← o3]; exact o5
    have hl := (hL l o4).1 h13
    have key := tz_cnt_but (p := fun j => tp_any (fun g => decide (r (50 + 4 * j) = nI g)) (tp_cl (r 0))) (tp_cl (r 2)) o4 (by
      rw [tp_any_f]
      intro k hk2
      rw [decide_eq_false_iff_not, hl.1]
      exact fun z => (tp_n1m (n := k) (by omega)).mp z) (fun i hi hne => hin i hi (by rw [h13]; exact fun z => hne ((nI_eq (by omega) (by omega)).mp z).symm))
    rw [tp_k1, tp_sb (by omega)]
    congr 1
    omega
theorem tz_h284 {a : Nat} {U : tz_U} {T n1 n G : Nat} (hV : tz_V T (U a).1) (hG : tp_cl ((U a).1 0) = G) (hn1 : tp_cl ((U a).1 1) = n1) (hn : tp_cl ((U a).1 2) = n) (x3 x5 x6 x7 x8 : Int32) : ∀ (fu i : Nat), i ≤ G → G < i + fu →
    fL_holds_p284 fu a (nI G) x3 (nI n) x5 x6 x7 x8 (nI (tz_sg (fun g => tp_cnt (tp_isg (U a).1 g) n1) i)) (nI (tz_sg (fun g => tp_cnt (tp_isl (U a).1 g) n) i)) 1 (nI i) U = some (nI (tz_sg (fun g => tp_cnt (tp_isg (U a).1 g) n1) G), nI (tz_sg (fun g => tp_cnt (tp_isl (U a).1 g) n) G), 1, U)
  | 0, _, h1, h2 => absurd h2 (by omega)
  | fu + 1, i, h1, h2 => by
    have ih := tz_h284 hV hG hn1 hn x3 x5 x6 x7 x8 fu (i + 1)
    have hVV := hV
    obtain ⟨⟨hk, -⟩, hVG, -⟩ := hV
    have hr := hk.1
    have b0 := (tp_r0 hr).2
    unfold fL_holds_p284
    by_cases c : G ≤ i
    · rw [tz_il0 (by omega) (by omega) c, show i = G by omega]
    · have hi : i < tp_cl ((U a).1 0) := by omega
      have ih := ih (by omega) (by omega)
      have e1 : nI i + 1 = nI (i + 1) := nI_1 i
      obtain ⟨v1, s, s20, hs, v2⟩ := hVG.2 i hi
      obtain ⟨d, d2, d1, d3⟩ := tp_xx (tp_rga hr (show i < 3 by omega))
      have d3 : tz_d (U a).1 i = d := d3
      rw [d3] at v1 v2
      rw [tz_sg, tz_sg, ← nI_add, ← nI_add] at ih
      rw [tz_il1 (by omega) (by omega) (by omega), if_neg (by decide), gT_0 hr hi, tp_b2S, gT_1 hr hi, tp_b2S, gT_4 hr hi, tp_b2S, tp_L, gT_5 hr hi, tp_b2S, tp_L, hn1, hn, d1]
      have h357 := tz_h357 (g := i) hVV hn d2 (nI G) x3 x5 x6 x7 x8 (nI (tz_sg (fun g => tp_cnt (tp_isg (U a).1 g) n1) i) + nI (tp_cnt (tp_isg (U a).1 i) n1)) (nI (tz_sg (fun g => tp_cnt (tp_isl (U a).1 g) n) i) + nI (tp_cnt (tp_isl (U a).1 i) n)) ((U a).1 (19 + 2 * i)) 62 0 0 (by omega) (by omega)
      rw [if_neg (show ¬ 0 = d + 1 by omega), Nat.zero_min] at h357
      have h357' : fL_holds_p357 62 a (nI G) x3 (nI n) x5 x6 x7 x8 (nI (tz_sg (fun g => tp_cnt (tp_isg (U a).1 g) n1) i) + nI (tp_cnt (tp_isg (U a).1 i) n1)) (nI (tz_sg (fun g => tp_cnt (tp_isl (U a).1 g) n) i) + nI (tp_cnt (tp_isl (U a).1 i) n)) 1 (nI i) (nI d) ((U a).1 (19 + 2 * i)) 0 0 0 U = some (tp_b01 (tp_lit (U a).1 (nI i) (nI d)), nI (tp_cnt (fun c => tp_lit (U a).1 (nI i) (nI c)) d), U) := h357
      have el : nI (tp_litn (U a).1 i) = nI (tp_cnt (fun c => tp_lit (U a).1 (nI i) (nI c)) d) := by unfold tp_litn; rw [show tp_cl ((U a).1 (18 + 2 * i)) = d from d3]
      rw [tl_bs h357']
      dsimp only
      have hb := tz_h_b i d
      rw [gT_2 hr hi, tp_b2S, d1, tz_hd (by omega) d2, if_neg (show ¬ (1 : Int32) = 0 by decide), if_neg (show ¬ nI d ≤ 0 by rw [tp_k0, tp_le (by omega) (by decide)]; omega), if_neg (show ¬ 60 < nI d by rw [tp_k60, tp_lt (by decide) (by omega)]; omega), hs, if_neg (show ¬ nI s < 0 by rw [tp_k0, tp_lt (by omega) (by decide)]; omega), tz_k]
      have kk : ∀ P Q : Option (Int32 × Int32 × Int32 × tz_U), (if nI d = 60 then P else (if nI (tz_h i d) ≤ nI s then Q else P)) = P := fun P Q => by
        by_cases w : nI d = 60
        · rw [if_pos w]
        · rw [if_neg w]
          rw [tp_k60, tp_eq (by omega) (by decide)] at w
          exact tz_il1 (by omega) (by omega) (by omega)
      rw [kk]
      dsimp only
      rw [if_neg (show ¬ nI (tz_h i d) < 3 by rw [tp_k3, tp_lt (by omega) (by decide)]; omega), if_neg (show ¬ 8 < nI (tz_h i d) by rw [tp_k8, tp_lt (by decide) (by omega)]; omega), gT_3 hr hi, tp_b2S, tz_kif, d1]
      have eb : (if tp_b01 (tp_lit (U a).1 (nI i) (nI d)) = 1 then (1 : Int32) else 0) = tp_b01 (tp_lit (U a).1 (nI i) (nI d)) := by
        rcases tp_lit (U a).1 (nI i) (nI d) with _ | _ <;> rfl
      rw [if_pos eb, gL_0 hr hi, tp_b2S, if_pos el, gL_1 hr hi, tp_b2S, if_pos el, tp_L, e1]
      exact ih
theorem tz_h626 {a : Nat} {U : tz_U} {T n1 G : Nat} (hV : tz_V T (U a).1) (hT : T ≤ 1000000) (hG : tp_cl ((U a).1 0) = G) (hn1 : tp_cl ((U a).1 1) = n1) (x4 x5 x6 x7 x9 x10 : Int32) : ∀ (fu i : Nat), i ≤ n1 → n1 < i + fu →
    fL_holds_p626 fu a (nI G) (nI n1) x4 x5 x6 x7 (tz_sum (fun m => (U a).1 (27 + 4 * m)) i) x9 x10 1 (nI i) U = some (tz_sum (fun m => (U a).1 (27 + 4 * m)) n1, 1, U)
  | 0, _, h1, h2 => absurd h2 (by omega)
  | fu + 1, i, h1, h2 => by
    have ih := tz_h626 hV hT hG hn1 x4 x5 x6 x7 x9 x10 fu (i + 1)
    obtain ⟨⟨hk, -⟩, -, t, tT, m3, m1, m9⟩ := hV
    have hr := hk.1
    have b0 := (tp_r0 hr).2
    have b1 := (tp_r1 hr).2
    unfold fL_holds_p626
    by_cases c : n1 ≤ i
    · rw [tz_il0 (by omega) (by omega) c, show i = n1 by omega]
    · have hi : i < tp_cl ((U a).1 1) := by omega
      have ih := ih (by omega) (by omega)
      have e1 : nI i + 1 = nI (i + 1) := nI_1 i
      obtain ⟨p, k, d, p1, p5, e25, e26, kb, e27, db⟩ := m1 i hi
      have kb : k ≤ t := kb
      have db : d ≤ t := db
      have pk : p * k ≤ 5 * 1000000 := Nat.mul_le_mul (by omega) (by omega)
      have hg := hk.2.1 i hi
      obtain ⟨g, g2, g1, g3⟩ := tp_xx (tp_rmg hr (show i < 6 by omega))
      have g3 : tp_cl ((U a).1 (24 + 4 * i)) = g := g3
      have er : nI (p * k) - nI (p * k) / nI p * nI p = 0 := by
        rw [pk_rem (by omega) (by omega) (by omega), Nat.mul_mod_right]; rfl
      have es : tz_sum (fun m => (U a).1 (27 + 4 * m)) i + (U a).1 (27 + 4 * i) = tz_sum (fun m => (U a).1 (27 + 4 * m)) (i + 1) := rfl
      rw [tz_il1 (by omega) (by omega) (by omega), if_neg (by decide), gW_3 hr hi, tp_b2S, tp_L, es, gW_0 hr hi, tp_b2S, g1, tz_il1 (by omega) (by omega) (by omega), gW_2 hr hi, tp_b2S, gW_1 hr hi, tp_b2S, e25, e26, tl_gs (show ¬ nI p = 0 by rw [tp_k0, tp_eq (by omega) (by decide)]; omega), if_pos er, gW_3 hr hi, tp_b2S, gA_3, tp_b2S, e27, m3, if_neg (show ¬ nI t < nI d by rw [tp_lt (by omega) (by omega)]; omega), tp_L, e1]
      exact ih
theorem tz_h722 {a : Nat} {U : tz_U} {T n K : Nat} (hV : tz_V T (U a).1) (hn : tp_cl ((U a).1 2) = n) (hK : tp_cl ((U a).1 8) = K) (x2 x3 x6 x7 x8 x9 x10 : Int32) : ∀ (fu i : Nat), i ≤ K → K < i + fu →
    fL_holds_p722 fu a x2 x3 (nI n) (nI K) x6 x7 x8 x9 x10 1 (nI i) U = some (1, U)
  | 0, _, h1, h2 => absurd h2 (by omega)
  | fu + 1, i, h1, h2 => by
    have ih := tz_h722 hV hn hK x2 x3 x6 x7 x8 x9 x10 fu (i + 1)
    obtain ⟨⟨hk, hL, hO, -⟩, -⟩ := hV
    have hr := hk.1
    have b0 := (tp_r0 hr).2
    have b2 := (tp_r2 hr).2
    have b8 := (tp_r8 hr).2
    unfold fL_holds_p722
    by_cases c : K ≤ i
    · rw [tz_il0 (by omega) (by omega) c]
    · have hi : i < tp_cl ((U a).1 8) := by omega
      have hi6 : i < 6 := by omega
      have ih := ih (by omega) (by omega)
      have e1 : nI i + 1 = nI (i + 1) := nI_1 i
      obtain ⟨o1, o2, o3⟩ := hk.2.2.1 i hi
      obtain ⟨q, q2, q1, q3⟩ := tp_xx (tp_rok hr hi6)
      obtain ⟨l, l2, l1, l3⟩ := tp_xx (tp_rol hr hi6)
      obtain ⟨w, w2, w1, w3⟩ := tp_xx (tp_row hr hi6)
      have l3 : tp_cl ((U a).1 (81 + 4 * i)) = l := l3
      have w3 : tp_cl ((U a).1 (82 + 4 * i)) = w := w3
      obtain ⟨v1, v2⟩ := hO i hi
      rw [w3] at v1 v2
      rw [tz_il1 (by omega) (by omega) (by omega), if_neg (by decide), gO_0 hr hi, tp_b2S, q1, if_neg (show ¬ nI q < 0 by rw [tp_k0, tp_lt (by omega) (by decide)]; omega), if_neg (show ¬ 2 ≤ nI q by rw [tp_k2, tp_le (by decide) (by omega)]; omega), gO_1 hr hi, tp_b2S, l1, tz_il1 (by omega) (by omega) (by omega)]
      by_cases e : nI q = 0
      · obtain ⟨c1, c2⟩ := (tp_roc hr hi6).resolve_left (o2 (q1.trans e)).2
        obtain ⟨g1, g2⟩ := v1 (q1.trans e)
        have g2 : tp_cl ((U a).1 (83 + 4 * i)) < tp_cl ((U a).1 (18 + 2 * w)) := g2
        obtain ⟨d, d2, d1, d3⟩ := tp_xx (tp_rga hr (show w < 3 by omega))
        have d3 : tp_cl ((U a).1 (18 + 2 * w)) = d := d3
        rw [if_pos e, gO_3 hr hi, tp_b2S, gO_2 hr hi, tp_b2S, w1, gT_0 hr g1, tp_b2S, c1, d1, tz_il1 (by omega) (by omega) (by omega), tp_L, e1]
        exact ih
      · have hw := v2 (fun z => e (q1.symm.trans z))
        rw [if_neg e, gO_2 hr hi, tp_b2S, w1, if_neg (show ¬ nI w ≤ 0 by rw [tp_k0, tp_le (by omega) (by decide)]; omega), gO_3 hr hi, tp_b2S, o3 (fun z => e (q1.symm.trans z)), if_pos rfl, tp_L, e1]
        exact ih
theorem tz_dnn_1 : ∀ (n i : Nat) (r : tp_R), n + i ≤ 1000 → tp_dnn n (i + 1) r ≠ 0
  | 0, _, _, _ => by
    show (-1 : Int32) ≠ 0
    decide
  | n + 1, i, r, h => by
    unfold tp_dnn
    split
    · rw [tp_k0, Ne, tp_eq (by omega) (by decide)]; omega
    · exact tz_dnn_1 n (i + 1) _ (by omega)
theorem tz_done_0 (s : tz_S) : tz_done s = 0 ↔ s.1 8 = 0 := by
  unfold tz_done tp_dnn
  have e : tp_up s.1 17 0 8 = s.1 8 := tp_un (by decide)
  rw [e]
  by_cases c : s.1 8 = 0
  · rw [if_pos c]
    exact ⟨fun _ => c, fun _ => rfl⟩
  · rw [if_neg c]
    exact ⟨fun z => absurd z (tz_dnn_1 200 0 _ (by omega)), fun z => absurd z c⟩
theorem tz_gn_0 {r : tp_R} (h : r 8 = 0) : tp_gn 1440 (tp_hal r) = 0 := by
  have h8 : r 8 ≤ 0 := by rw [h]; decide
  have e : tp_hal r = r := by
    unfold tp_hal tp_ha
    rw [if_pos h8]
  rw [e]
  unfold tp_gn
  rw [if_pos h8]
/-- holds answers true -/
theorem tz_holds {a : Nat} {U : tz_U} {T : Nat} (hV : tz_V T (U a).1) (hT : T ≤ 1000000) : fL_holds a U = some (1, U) := by
  have hVV := hV
  obtain ⟨⟨hk, hL, hO, hA, hC, hD⟩, hG, t, tT, m3, m1, m9⟩ := hV
  have hr := hk.1
  obtain ⟨G, G2, G1, G3⟩ := tp_xx (tp_r0 hr)
  obtain ⟨n1, n12, n11, n13⟩ := tp_xx (tp_r1 hr)
  obtain ⟨n, n2, n_1, n3⟩ := tp_xx (tp_r2 hr)
  obtain ⟨K, K2, K1, K3⟩ := tp_xx (tp_r8 hr)
  have G3 : tp_cl ((U a).1 0) = G := G3
  have n13 : tp_cl ((U a).1 1) = n1 := n13
  have n3 : tp_cl ((U a).1 2) = n := n3
  have K3 : tp_cl ((U a).1 8) = K := K3
  have car : (U a).1 13 = -1 ∨ (0 < K ∧ (U a).1 80 = 0 ∧ (U a).1 81 = (U a).1 13 ∧ (U a).1 15 = 0 ∧ tp_cl ((U a).1 13) < n ∧ (U a).1 13 = nI (tp_cl ((U a).1 13))) := by
    by_cases c : (U a).1 13 = -1
    · exact Or.inl c
    · obtain ⟨o1, o2, o3, o4⟩ := hk.2.2.2.2.1 c
      have o5 : tp_cl ((U a).1 81) < tp_cl ((U a).1 2) := (hk.2.2.1 0 o1).1
      rw [o3, n3] at o5
      rw [K3] at o1
      exact Or.inr ⟨o1, o2, o3, o4, o5, ((tp_r13 hr).resolve_left c).1⟩
  unfold fL_holds
  rw [gA_0, tp_b2S, gA_1, tp_b2S, gA_2, tp_b2S, gA_10, tp_b2S, gD_2, tp_b2S, G1, n11, n_1, K1]
  have c13 : ¬ nI n ≤ (U a).1 13 := by
    rcases car with c | ⟨-, -, -, -, c1, c2⟩
    · rw [c, tp_lei, tp_ti (by omega), tp_m1i]; omega
    · rw [c2, tp_le (by omega) (by omega)]; omega
  rw [if_neg (show ¬ 3 < nI G by rw [tp_k3, tp_lt (by decide) (by omega)]; omega), if_neg (show ¬ 6 < nI n1 by rw [tp_k6, tp_lt (by decide) (by omega)]; omega), if_neg (show ¬ 8 < nI n by rw [tp_k8, tp_lt (by decide) (by omega)]; omega), if_neg (show ¬ 6 < nI K by rw [tp_k6, tp_lt (by decide) (by omega)]; omega), if_neg c13]
  unfold fL_holds_p96
  have h101 : fL_holds_p101 9 a (nI G) (nI n1) (nI n) (nI K) ((U a).1 13) 0 0 0 0 1 0 U = some (tp_oil (U a).1 n, 1, U) := tz_h101 hVV n3 (nI G) (nI n1) (nI K) 0 0 0 9 0 (by omega) (by omega)
  have h284 : fL_holds_p284 4 a (nI G) (nI n1) (nI n) (nI K) ((U a).1 13) (tp_oil (U a).1 n) 0 0 0 1 0 U = some (nI (tz_sg (fun g => tp_cnt (tp_isg (U a).1 g) n1) G), nI (tz_sg (fun g => tp_cnt (tp_isl (U a).1 g) n) G), 1, U) := tz_h284 hVV G3 n13 n3 (nI n1) (nI K) ((U a).1 13) (tp_oil (U a).1 n) 0 4 0 (by omega) (by omega)
  rw [tl_bs h101]
  dsimp only
  rw [tl_bs h284]
  dsimp only
  have h626 := tz_h626 hVV hT G3 n13 (nI n) (nI K) ((U a).1 13) (tp_oil (U a).1 n) (nI (tz_sg (fun g => tp_cnt (tp_isg (U a).1 g) n1) G)) (nI (tz_sg (fun g => tp_cnt (tp_isl (U a).1 g) n) G)) 7 0 (by omega) (by omega)
  have h626' : fL_holds_p626 7 a (nI G) (nI n1) (nI n) (nI K) ((U a).1 13) (tp_oil (U a).1 n) 0 (nI (tz_sg (fun g => tp_cnt (tp_isg (U a).1 g) n1) G)) (nI (tz_sg (fun g => tp_cnt (tp_isl (U a).1 g) n) G)) 1 0 U = some (tz_sum (fun m => (U a).1 (27 + 4 * m)) n1, 1, U) := h626
  rw [tl_bs h626']
  dsimp only
  have h722 := tz_h722 hVV n3 K3 (nI G) (nI n1) ((U a).1 13) (tp_oil (U a).1 n) (tz_sum (fun m => (U a).1 (27 + 4 * m)) n1) (nI (tz_sg (fun g => tp_cnt (tp_isg (U a).1 g) n1) G)) (nI (tz_sg (fun g => tp_cnt (tp_isl (U a).1 g) n) G)) 7 0 (by omega) (by omega)
  have h722' : fL_holds_p722 7 a (nI G) (nI n1) (nI n) (nI K) ((U a).1 13) (tp_oil (U a).1 n) (tz_sum (fun m => (U a).1 (27 + 4 * m)) n1) (nI (tz_sg (fun g => tp_cnt (tp_isg (U a).1 g) n1) G)) (nI (tz_sg (fun g => tp_cnt (tp_isl (U a).1 g) n) G)) 1 0 U = some (1, U) := h722
  rw [tl_bs h722']
  dsimp only
  have ew : nI (tz_sg (fun g => tp_cnt (tp_isg (U a).1 g) n1) G) = nI n1 := by
    have := tz_workers hk
    rw [G3, n13] at this
    rw [this]
  have eh := tz_hung hk hL
  rw [G3, n3] at eh
  rw [gA_6, tp_b2S, if_neg (by decide), if_pos ew]
  have p885 : ∀ y : Int32, y = (if (U a).1 13 = -1 then 0 else 1) → fL_holds_p885 a (nI G) (nI K) ((U a).1 13) (tp_oil (U a).1 n) (tz_sum (fun m => (U a).1 (27 + 4 * m)) n1) ((U a).1 14) y (nI n) (nI (tz_sg (fun g => tp_cnt (tp_isl (U a).1 g) n) G)) U = some (1, U) := by
    intro y hy
    have p1111 : fL_holds_p1111 a (nI K) U = some (1, U) := by
      unfold fL_holds_p1111 fL_doneIn
      rw [tp_b2S]
      have d0 := tz_done_0 (U a)
      rw [K1] at d0
      by_cases z : nI K = 0
      · rw [if_pos (d0.mpr z)]
        unfold fL_holds_p1123
        rw [if_pos z]
        unfold fL_holds_p1133
        rw [if_pos rfl]
      · rw [if_neg (fun w => z (d0.mp w))]
        unfold fL_holds_p1123
        rw [if_neg z]
        unfold fL_holds_p1133
        rw [if_pos rfl]
    have p1041 : fL_holds_p1041 a (nI G) (nI K) U = some (1, U) := by
      obtain ⟨g, g2, g1, g3⟩ := tp_xx (tp_r11 hr)
      obtain ⟨c, c2, c1, c3⟩ := tp_xx (tp_r12 hr)
      have g3 : tp_cl ((U a).1 11) = g := g3
      have c3 : tp_cl ((U a).1 12) = c := c3
      obtain ⟨D1, D2⟩ := hD
      rw [g3] at D1 D2
      rw [c3] at D2
      have D2 : c < tp_cl ((U a).1 (18 + 2 * g)) := D2
      obtain ⟨d, d2, d1, d3⟩ := tp_xx (tp_rga hr (show g < 3 by omega))
      have d3 : tp_cl ((U a).1 (18 + 2 * g)) = d := d3
      unfold fL_holds_p1041
      rw [gD_0, tp_b2S, g1, tz_il1 (by omega) (by omega) (by omega), gD_1, tp_b2S, c1, if_neg (show ¬ nI c < 0 by rw [tp_k0, tp_lt (by omega) (by decide)]; omega), gD_1, tp_b2S, gD_0, tp_b2S, g1, gT_0 hr D1, tp_b2S, c1, d1, tz_il1 (by omega) (by omega) (by omega)]
      by_cases z : 0 < nI K
      · rw [if_pos z]; exact p1111
      · rw [if_neg z, gD_3, tp_b2S]
        have k0 : K = 0 := by rw [tp_k0, tp_lt (by decide) (by omega)] at z; omega
        have e8 : (U a).1 8 = 0 := by rw [K1, k0]; rfl
        rw [tz_gn_0 e8, if_pos (show nI 0 = 0 from rfl)]
        exact p1111
    have p1004 : fL_holds_p1004 a (nI G) (nI K) ((U a).1 14) U = some (1, U) := by
      unfold fL_holds_p1004
      by_cases z : (U a).1 14 = 0
      · rw [if_pos z]; exact p1041
      · have z15 : (U a).1 15 ≠ 0 := fun w => z (hk.2.2.2.2.2.2 w)
        obtain ⟨o1, o2⟩ := hk.2.2.2.2.2.1 z15
        have C := hC z15
        obtain ⟨w, w2, w1, w3⟩ := tp_xx (tp_r14 hr)
        obtain ⟨v, v2, v1, v3⟩ := tp_xx (tp_row hr (show 0 < 6 by decide))
        obtain ⟨q, q2, q1, q3⟩ := tp_xx (tp_rok hr (show 0 < 6 by decide))
        have w3 : tp_cl ((U a).1 14) = w := w3
        have v3 : tp_cl ((U a).1 82) = v := v3
        rw [w3, v3] at C
        have q1' : (U a).1 80 = nI q := q1
        have v1' : (U a).1 (82 + 4 * 0) = nI v := v1
        have hq : q = 1 := by
          rw [q1', Ne, tp_k0, tp_eq (by omega) (by decide)] at o2
          omega
        have O0 : fL_call a 7 0 0 0 U = some ((U a).1 (80 + 4 * 0), U) := gO_0 (k := 0) hr o1
        have O2 : fL_call a 7 0 2 0 U = some ((U a).1 (82 + 4 * 0), U) := gO_2 (k := 0) hr o1
        rw [if_neg z, if_neg (show ¬ nI K ≤ 0 by rw [tp_k0, tp_le (by omega) (by decide)]; omega), O0, tp_b2S, q1, hq, if_pos (show nI 1 = 1 from rfl), O2, tp_b2S, v1', w1, if_neg (show ¬ nI v < nI w by rw [tp_lt (by omega) (by omega)]; omega)]
        exact p1041
    unfold fL_holds_p885
    have e11 : tz_sum (fun m => (U a).1 (27 + 4 * m)) n1 = (U a).1 9 := by rw [← n13]; exact m9
    have eA : (U a).1 4 + tp_oil (U a).1 n + (U a).1 14 + (U a).1 5 + (U a).1 6 = (U a).1 7 := by rw [← n3]; exact hA
    rw [hy, if_pos eh, gA_11, tp_b2S, if_pos e11, gA_5, tp_b2S, n3, if_pos rfl, gA_4, tp_b2S, gA_7, tp_b2S, gA_8, tp_b2S, gA_9, tp_b2S, if_pos eA]
    rcases car with c | ⟨k1, k2, k3, k4, -, k5⟩
    · rw [if_pos c]; exact p1004
    · have c : ¬ (U a).1 13 = -1 := by rw [k5]; exact fun z => (tp_m1n (by have := (tp_r13 hr); rcases this with w | w; rw [w]; decide; omega)).mp z
      have o1 : 0 < tp_cl ((U a).1 8) := by rw [K3]; exact k1
      have O0 : fL_call a 7 0 0 0 U = some ((U a).1 (80 + 4 * 0), U) := gO_0 (k := 0) hr o1
      have O1 : fL_call a 7 0 1 0 U = some ((U a).1 (81 + 4 * 0), U) := gO_1 (k := 0) hr o1
      rw [if_neg c, if_neg (show ¬ nI K ≤ 0 by rw [tp_k0, tp_le (by omega) (by decide)]; omega), O0, tp_b2S, if_pos (show (U a).1 (80 + 4 * 0) = 0 from k2), O1, tp_b2S, if_pos (show (U a).1 (81 + 4 * 0) = (U a).1 13 from k3), if_pos (hk.2.2.2.2.2.2 k4)]
      exact p1004
  by_cases z : (U a).1 13 = -1
  · rw [if_pos z]; exact p885 0 (by rw [if_pos z])
  · rw [if_neg z]; exact p885 1 (by rw [if_neg z])
