/-! The class's reading of a text. -/
def tp_Y (u : tl_S) (c b : Nat) (o : tp_R) (p : Nat) (K : tp_R) : tl_S := tp_w (tp_w u b K) c (tp_up o 2 (nI p))
def tp_kp (K : tp_R) (j : Nat) : Option Nat → tp_R
  | none => K
  | some n => tp_up K j (nI n)
section TQB
variable {u : tl_S} {c b p : Nat} {o K : tp_R} {tx : tp_R} {len : Nat}
theorem tp_Yc : (tp_Y u c b o p K).1 c = tp_up o 2 (nI p) := tp_wg
theorem tp_Yx (h : c + 1 ≠ b) : (tp_Y u c b o p K).1 (c + 1) = u.1 (c + 1) := (tp_wgn (by omega)).trans (tp_wgn h)
theorem tp_Yb (h : c ≠ b) : (tp_Y u c b o p K).1 b = K := tp_wcg h
theorem tp_Yp {x : Int32} {n : Nat} (hx : x = nI n) : (tl_u (tp_Y u c b o p K).1 c 2 x, (tp_Y u c b o p K).2) = tp_Y u c b o n K := by
  unfold tp_Y
  rw [tp_wu, tp_uu, hx]
theorem tp_Yk (h : c ≠ b) (k : Nat) (x : Int32) : (tl_u (tp_Y u c b o p K).1 b k x, (tp_Y u c b o p K).2) = tp_Y u c b o p (tp_up K k x) := tp_wcu h
theorem tp_Yb1 (h : c ≠ b) (x A B C D : Int32) : f0_become b x A B C D (tp_Y u c b o p K) = some (tp_Y u c b o p (tp_up (tp_up (tp_up (tp_up (tp_up K 0 x) 1 A) 2 B) 3 C) 4 D)) := by
  unfold f0_become
  rw [tp_Yk h, tp_L, tp_Yk h, tp_L, tp_Yk h, tp_L, tp_Yk h, tp_L, tp_Yk h, tp_L]
theorem tc_putN (h : c ≠ b) {ix : Nat} (hi : ix ≤ 3) {x : Int32} : f0_putNumber b (nI ix) x (tp_Y u c b o p K) = some (tp_Y u c b o p (tp_up K (ix + 1) x)) := by
  unfold f0_putNumber
  have : ix = 0 ∨ ix = 1 ∨ ix = 2 ∨ ix = 3 := by omega
  rcases this with rfl | rfl | rfl | rfl
  · have e : (nI 0).toInt = ((0 : Nat) : Int) := tp_ti (by decide)
    rw [e, if_neg (by decide), if_pos (by decide), tp_Yk h, tp_L]
  · have e : (nI 1).toInt = ((1 : Nat) : Int) := tp_ti (by decide)
    rw [e, if_neg (by decide), if_neg (by decide), if_pos (by decide), tp_Yk h, tp_L]
  · have e : (nI 2).toInt = ((2 : Nat) : Int) := tp_ti (by decide)
    rw [e, if_neg (by decide), if_neg (by decide), if_neg (by decide), tp_Yk h, tp_L]
  · have e : (nI 3).toInt = ((3 : Nat) : Int) := tp_ti (by decide)
    rw [e, if_pos (by decide), tp_Yk h, tp_L]
theorem tc_num (h1 : c ≠ b) (h2 : c + 1 ≠ b) (hlen : len ≤ 120) (ht : ∀ i, i < len → u.1 (c + 1) i = tx i ∧ tp_N 255 (tx i)) (ho : o 1 = nI len) {lo hi ix w : Nat} (hl : lo ≤ 1000) (hh : hi ≤ 1000) (hix : ix ≤ 3) (hw : w ≤ 3) :
    ∀ (k f N i p : Nat), i + k = w → k < f → N * 10 ^ k ≤ 1000 → p ≤ len → f6_readNumber_p29 f c b (nI ix) (nI w) (nI lo) (nI hi) (nI (tp_un10 k)) (nI N) (nI i) (tp_Y u c b o p K) = some (tp_b01 (tp_fg tx len lo hi k (N * 10 ^ k) p).1.isSome, tp_Y u c b o (tp_fg tx len lo hi k (N * 10 ^ k) p).2 (tp_kp K (ix + 1) (tp_fg tx len lo hi k (N * 10 ^ k) p).1))
  | _, 0, _, _, _, _, h, _, _ => absurd h (Nat.not_lt_zero _)
  | 0, f + 1, N, i, p, hi0, _, _, _ => by
    unfold f6_readNumber_p29
    have el : (nI w ≤ nI i) = (w ≤ i) := tp_le (by omega) (by omega)
    rw [if_pos (el.mpr (by omega)), tc_putN h1 hix, tp_bS]
    unfold tp_fg
    rw [Nat.pow_zero, Nat.mul_one]; rfl
  | k + 1, f + 1, N, i, p, hik, hf, hN, hp => by
    have hu : 10 ^ k ≤ 100 := Nat.le_trans (Nat.pow_le_pow_right (by decide) (show k ≤ 2 by omega)) (by decide)
    have hu0 : 0 < 10 ^ k := Nat.pow_pos (by decide)
    unfold f6_readNumber_p29 tp_fg
    have el : (nI w ≤ nI i) = (w ≤ i) := tp_le (by omega) (by omega)
    have e2 : tp_up o 2 (nI p) 2 = nI p := tp_us _ _ _
    have e1 : tp_up o 2 (nI p) 1 = nI len := (tp_un (by decide)).trans ho
    have elt : (nI p < nI len) = (p < len) := tp_lt (by omega) (by omega)
    rw [if_neg (fun z => by have := el.mp z; omega), tp_Yc, e2, e1, if_neg (by rw [tp_neg (by omega)]; exact id)]
    by_cases c1 : p < len
    · obtain ⟨ht1, ch, ch2, ht2⟩ := ht p c1
      have hcl : tp_cl (tx p) = ch := by unfold tp_cl; rw [ht2, tp_cn (by omega)]
      rw [if_pos (elt.mpr c1), if_pos c1, hcl, tl_gs (tp_ix (by omega) (by omega)), tp_cn (by omega), tp_Yx h2, ht1, ht2, tp_L, tp_L, tp_L, tc_within, tp_b2S, tp_if0]
      by_cases c2 : 48 ≤ ch ∧ ch ≤ 57
      · have ed : nI ch - 48 = nI (ch - 48) := tp_sb c2.1
        have ei : tp_iw (nI (ch - 48)) 0 9 = true := tp_iwN (L := 0) (B := 9) rfl rfl (by omega) (by omega) (by decide)
        have hb : (ch - 48) * 10 ^ k ≤ 900 := Nat.le_trans (Nat.mul_le_mul (show ch - 48 ≤ 9 by omega) hu) (by decide)
        have hv : (N * 10 + (ch - 48)) * 10 ^ k = N * 10 ^ (k + 1) + (ch - 48) * 10 ^ k := by
          rw [Nat.add_mul, Nat.mul_assoc, Nat.pow_succ, Nat.mul_comm 10 (10 ^ k)]
        have hun : tp_un10 (k + 1) = 10 ^ k := rfl
        rw [ed, ei, if_pos rfl, if_pos c2, hun, tp_k10, pk_mul, nI_add, pk_mul, hv, nI_add, tp_k1, tp_sb (by omega)]
        generalize hL : N * 10 ^ (k + 1) + (ch - 48) * 10 ^ k = L at hv
        have elh : (nI hi < nI L) = (hi < L) := tp_lt (by omega) (by omega)
        have ell : (nI lo ≤ nI (L + 10 ^ k - 1)) = (lo ≤ L + 10 ^ k - 1) := tp_le (by omega) (by omega)
        by_cases c3 : hi < L
        · rw [if_pos (elh.mpr c3), if_pos (Or.inl c3)]; rfl
        · rw [if_neg (fun z => c3 (elh.mp z))]
          by_cases c4 : L + 10 ^ k ≤ lo
          · rw [if_neg (fun z => by have := ell.mp z; omega), if_pos (Or.inr c4)]; rfl
          · rw [if_pos (ell.mpr (by omega)), if_neg (by omega), tp_L, tp_Yc, e2, tp_Yp (nI_add p 1), tp_L, tp_L, nI_add]
            have e10 : nI (10 ^ k) / nI 10 = nI (tp_un10 k) := by
              rw [← tp_k10, tp_dv10 (by omega)]
              cases k with
              | zero => rfl
              | succ j => rw [Nat.pow_succ, Nat.mul_div_cancel _ (by decide)]; rfl
            rw [e10, ← hv]
            exact tc_num h1 h2 hlen ht ho hl hh hix hw k f (N * 10 + (ch - 48)) (i + 1) (p + 1) (by omega) (by omega) (by omega) (by omega)
      · have ei : tp_iw (nI ch - 48) 0 9 = false := by
          rcases e : tp_iw (nI ch - 48) 0 9 with _ | _
          · rfl
          · obtain ⟨n, n1, n2, n3⟩ := tp_iw_N (L := 0) (B := 9) rfl rfl (by decide) (by decide) e
            have := congrArg Int32.toInt n3
            rw [tp_k48, tp_ss (by omega) (by omega), tp_ti (by omega)] at this
            omega
        rw [ei, if_neg (by decide), if_neg c2]; rfl
    · rw [if_neg (fun z => c1 (elt.mp z)), if_neg c1]; rfl
theorem tc_number (h1 : c ≠ b) (h2 : c + 1 ≠ b) (hlen : len ≤ 120) (ht : ∀ i, i < len → u.1 (c + 1) i = tx i ∧ tp_N 255 (tx i)) (ho : o 1 = nI len) {lo hi ix w : Nat} {IX W L H : Int32} (eI : IX = nI ix) (eW : W = nI w) (eL : L = nI lo) (eH : H = nI hi) (hl : lo ≤ 1000) (hh : hi ≤ 1000) (hix : ix ≤ 3) (hw : w = 1 ∨ w = 2 ∨ w = 3) (hp : p ≤ len) :
    f6_readNumber c b IX W L H (tp_Y u c b o p K) = some (tp_b01 (tp_fg tx len lo hi w 0 p).1.isSome, tp_Y u c b o (tp_fg tx len lo hi w 0 p).2 (tp_kp K (ix + 1) (tp_fg tx len lo hi w 0 p).1)) := by
  subst eI eW eL eH
  unfold f6_readNumber
  rcases hw with rfl | rfl | rfl
  · rw [if_neg (by decide), if_neg (by decide)]
    have := tc_num (K := K) h1 h2 hlen ht ho (w := 1) hl hh hix (by decide) 1 tl_F 0 0 p rfl (show 1 < tl_F by unfold tl_F; omega) (by rw [Nat.zero_mul]; exact Nat.zero_le _) hp
    rw [Nat.zero_mul] at this
    exact this
  · rw [if_neg (by decide), if_pos (by decide)]
    have := tc_num (K := K) h1 h2 hlen ht ho (w := 2) hl hh hix (by decide) 2 tl_F 0 0 p rfl (show 2 < tl_F by unfold tl_F; omega) (by rw [Nat.zero_mul]; exact Nat.zero_le _) hp
    rw [Nat.zero_mul] at this
    exact this
  · rw [if_pos (by decide)]
    have := tc_num (K := K) h1 h2 hlen ht ho (w := 3) hl hh hix (by decide) 3 tl_F 0 0 p rfl (show 3 < tl_F by unfold tl_F; omega) (by rw [Nat.zero_mul]; exact Nat.zero_le _) hp
    rw [Nat.zero_mul] at this
    exact this

theorem tc_rCell (h1 : c ≠ b) (h2 : c + 1 ≠ b) (hlen : len ≤ 120) (ht : ∀ i, i < len → u.1 (c + 1) i = tx i ∧ tp_N 255 (tx i)) (ho : o 1 = nI len) {ix : Nat} {IX : Int32} (eI : IX = nI ix) (hix : ix ≤ 3) (hp : p ≤ len) :
    f6_readCell c b IX (tp_Y u c b o p K) = some (tp_b01 (tp_fg tx len 0 59 2 0 p).1.isSome, tp_Y u c b o (tp_fg tx len 0 59 2 0 p).2 (tp_kp K (ix + 1) (tp_fg tx len 0 59 2 0 p).1)) := by
  unfold f6_readCell
  rw [tc_number h1 h2 hlen ht ho (w := 2) (lo := 0) (hi := 59) (W := 2) (L := 0) (H := 59) eI rfl rfl rfl (by decide) (by decide) hix (by decide) hp, tp_b2S, tp_gB]
theorem tc_rGallery (h1 : c ≠ b) (h2 : c + 1 ≠ b) (hlen : len ≤ 120) (ht : ∀ i, i < len → u.1 (c + 1) i = tx i ∧ tp_N 255 (tx i)) (ho : o 1 = nI len) {ix : Nat} {IX : Int32} (eI : IX = nI ix) (hix : ix ≤ 3) (hp : p ≤ len) :
    f6_readGallery c b IX (tp_Y u c b o p K) = some (tp_b01 (tp_fg tx len 0 2 1 0 p).1.isSome, tp_Y u c b o (tp_fg tx len 0 2 1 0 p).2 (tp_kp K (ix + 1) (tp_fg tx len 0 2 1 0 p).1)) := by
  unfold f6_readGallery
  rw [tc_number h1 h2 hlen ht ho (w := 1) (lo := 0) (hi := 2) (W := 1) (L := 0) (H := 2) eI rfl rfl rfl (by decide) (by decide) hix (by decide) hp, tp_b2S, tp_gB]
theorem tc_rLamp (h1 : c ≠ b) (h2 : c + 1 ≠ b) (hlen : len ≤ 120) (ht : ∀ i, i < len → u.1 (c + 1) i = tx i ∧ tp_N 255 (tx i)) (ho : o 1 = nI len) (hp : p ≤ len) :
    f6_readLamp c b (tp_Y u c b o p K) = some (tp_b01 (tp_fg tx len 0 7 1 0 p).1.isSome, tp_Y u c b o (tp_fg tx len 0 7 1 0 p).2 (tp_kp K 1 (tp_fg tx len 0 7 1 0 p).1)) := by
  unfold f6_readLamp
  rw [tc_number h1 h2 hlen ht ho (w := 1) (lo := 0) (hi := 7) (ix := 0) (IX := 0) (W := 1) (L := 0) (H := 7) rfl rfl rfl rfl (by decide) (by decide) (by decide) (by decide) hp, tp_b2S, tp_gB]
theorem tp_sqs {v w lo hi p : Nat} : tp_sq tx len (some v) w lo hi p = tp_fg tx len lo hi w 0 p := rfl
/-- what a command's reading leaves -/
def tp_CQ (u : tl_S) (c b : Nat) (o : tp_R) (M : Bool × Nat × Int32 × Int32 × Int32 × Int32 × Nat) (q : Int32 × tl_S) : Prop :=
  q.1 = tp_b01 M.1 ∧ ∃ K, q.2 = tp_Y u c b o M.2.2.2.2.2.2 K ∧ K 0 = nI M.2.1 ∧ (M.1 = true → K 1 = M.2.2.1 ∧ K 2 = M.2.2.2.1 ∧ K 3 = M.2.2.2.2.1 ∧ K 4 = M.2.2.2.2.2.1)
theorem tp_CQn {M : Bool × Nat × Int32 × Int32 × Int32 × Int32 × Nat} {Q n : Nat} (h : M.1 = false) (hQ : M.2.1 = Q) (hn : M.2.2.2.2.2.2 = n) (hK : K 0 = nI Q) : tp_CQ u c b o M (0, tp_Y u c b o n K) := by
  subst hQ hn
  exact ⟨by rw [h]; rfl, K, rfl, hK, fun z => by rw [h] at z; cases z⟩
theorem tp_CQy {M : Bool × Nat × Int32 × Int32 × Int32 × Int32 × Nat} {Q n : Nat} {A B C D : Int32} (h : M = (true, Q, A, B, C, D, n)) (h0 : K 0 = nI Q) (hA : K 1 = A) (hB : K 2 = B) (hC : K 3 = C) (hD : K 4 = D) : tp_CQ u c b o M (1, tp_Y u c b o n K) := by
  subst h
  exact ⟨rfl, K, rfl, h0, fun _ => ⟨hA, hB, hC, hD⟩⟩
def tp_K0 (K : tp_R) (Q : Nat) : Prop := K 0 = nI Q ∧ K 1 = 0 ∧ K 2 = 0 ∧ K 3 = 0 ∧ K 4 = 0

theorem tc_numbers1 (h1 : c ≠ b) (h2 : c + 1 ≠ b) (hlen : len ≤ 120) (ht : ∀ i, i < len → u.1 (c + 1) i = tx i ∧ tp_N 255 (tx i)) (ho : o 1 = nI len) (hp : p ≤ len) (hK : tp_K0 K 1) : tp_T (f6_readNumbers c b (tp_Y u c b o p K)) (tp_CQ u c b o (tp_cmd tx len 103 p)) := by
  obtain ⟨k0, k1, k2, k3, k4⟩ := hK
  have e : (nI 1).toInt = ((1 : Nat) : Int) := tp_ti (by decide)
  unfold f6_readNumbers tp_cmd
  rw [if_pos (show 103 = 103 from rfl)]
  rw [tp_Yb h1, k0, e, if_neg (by decide), if_pos (by decide)]
  rw [tc_number h1 h2 hlen ht ho (w := 2) (lo := 1) (hi := 60) (ix := 0) (IX := 0) (W := 2) (L := 1) (H := 60) rfl rfl rfl rfl (by decide) (by decide) (by decide) (by decide) hp, tp_b2S, tp_gB]
  try rw [tp_sqs]
  have f0 := tp_fg_f (tx := tx) (lo := 1) (hi := 60) 2 0 p hp
  generalize tp_fg tx len 1 60 2 0 p = R0 at f0
  obtain ⟨s0, p0⟩ := R0
  have f0 : p ≤ p0 ∧ p0 ≤ len := f0
  rcases s0 with _ | n0
  · exact tp_ret (tp_CQn (Q := 1) (n := p0) (K := K) rfl rfl rfl (by exact k0))
  · exact tp_ret (tp_CQy (Q := 1) (n := p0) (K := (tp_up K 1 (nI n0))) (A := (nI n0)) (B := 0) (C := 0) (D := 0) rfl (by rw [tp_un (by decide), k0]) (by rw [tp_us]) (by rw [tp_un (by decide), k2]) (by rw [tp_un (by decide), k3]) (by rw [tp_un (by decide), k4]))
theorem tc_numbers2 (h1 : c ≠ b) (h2 : c + 1 ≠ b) (hlen : len ≤ 120) (ht : ∀ i, i < len → u.1 (c + 1) i = tx i ∧ tp_N 255 (tx i)) (ho : o 1 = nI len) (hp : p ≤ len) (hK : tp_K0 K 2) : tp_T (f6_readNumbers c b (tp_Y u c b o p K)) (tp_CQ u c b o (tp_cmd tx len 109 p)) := by
  obtain ⟨k0, k1, k2, k3, k4⟩ := hK
  have e : (nI 2).toInt = ((2 : Nat) : Int) := tp_ti (by decide)
  unfold f6_readNumbers tp_cmd
  rw [if_neg (show ¬ 109 = 103 by decide), if_pos (show 109 = 109 from rfl)]
  rw [tp_Yb h1, k0, e, if_neg (by decide), if_neg (by decide), if_pos (by decide)]
  rw [tc_rGallery h1 h2 hlen ht ho (ix := 0) (IX := 0) rfl (by decide) hp, tp_b2S, tp_if0]
  try rw [tp_sqs]
  have f0 := tp_fg_f (tx := tx) (lo := 0) (hi := 2) 1 0 p hp
  generalize tp_fg tx len 0 2 1 0 p = R0 at f0
  obtain ⟨s0, p0⟩ := R0
  have f0 : p ≤ p0 ∧ p0 ≤ len := f0
  rcases s0 with _ | n0
  · refine tp_ifn (show ¬ (none : Option Nat).isSome = true by decide) ?_
    exact tp_ret (tp_CQn (Q := 2) (n := p0) (K := K) rfl rfl rfl (by exact k0))
  · refine tp_ifp (show (some n0).isSome = true from rfl) ?_
    show tp_T (tl_b2 _ _) _
    dsimp only [tp_sqs, tp_kp]
    rw [tc_number h1 h2 hlen ht ho (w := 1) (lo := 1) (hi := 5) (ix := 1) (IX := 1) (W := 1) (L := 1) (H := 5) rfl rfl rfl rfl (by decide) (by decide) (by decide) (by decide) f0.2, tp_b2S, tp_if0]
    have f1 := tp_fg_f (tx := tx) (lo := 1) (hi := 5) 1 0 p0 f0.2
    generalize tp_fg tx len 1 5 1 0 p0 = R1 at f1
    obtain ⟨s1, p1⟩ := R1
    have f1 : p0 ≤ p1 ∧ p1 ≤ len := f1
    rcases s1 with _ | n1
    · refine tp_ifn (show ¬ (none : Option Nat).isSome = true by decide) ?_
      exact tp_ret (tp_CQn (Q := 2) (n := p1) (K := (tp_up K 1 (nI n0))) rfl rfl rfl (by rw [tp_un (by decide), k0]))
    · refine tp_ifp (show (some n1).isSome = true from rfl) ?_
      exact tp_ret (tp_CQy (Q := 2) (n := p1) (K := (tp_up (tp_up K 1 (nI n0)) 2 (nI n1))) (A := (nI n0)) (B := (nI n1)) (C := 0) (D := 0) rfl (by rw [tp_un (by decide), tp_un (by decide), k0]) (by rw [tp_un (by decide), tp_us]) (by rw [tp_us]) (by rw [tp_un (by decide), tp_un (by decide), k3]) (by rw [tp_un (by decide), tp_un (by decide), k4]))
theorem tc_numbers4 (h1 : c ≠ b) (h2 : c + 1 ≠ b) (hlen : len ≤ 120) (ht : ∀ i, i < len → u.1 (c + 1) i = tx i ∧ tp_N 255 (tx i)) (ho : o 1 = nI len) (hp : p ≤ len) (hK : tp_K0 K 4) : tp_T (f6_readNumbers c b (tp_Y u c b o p K)) (tp_CQ u c b o (tp_cmd tx len 108 p)) := by
  obtain ⟨k0, k1, k2, k3, k4⟩ := hK
  have e : (nI 4).toInt = ((4 : Nat) : Int) := tp_ti (by decide)
  unfold f6_readNumbers tp_cmd
  rw [if_neg (show ¬ 108 = 103 by decide), if_neg (show ¬ 108 = 109 by decide), if_pos (show 108 = 108 from rfl)]
  rw [tp_Yb h1, k0, e, if_neg (by decide), if_neg (by decide), if_neg (by decide), if_neg (by decide), if_pos (by decide)]
  rw [tc_rGallery h1 h2 hlen ht ho (ix := 0) (IX := 0) rfl (by decide) hp, tp_b2S, tp_if0]
  try rw [tp_sqs]
  have f0 := tp_fg_f (tx := tx) (lo := 0) (hi := 2) 1 0 p hp
  generalize tp_fg tx len 0 2 1 0 p = R0 at f0
  obtain ⟨s0, p0⟩ := R0
  have f0 : p ≤ p0 ∧ p0 ≤ len := f0
  rcases s0 with _ | n0
  · refine tp_ifn (show ¬ (none : Option Nat).isSome = true by decide) ?_
    exact tp_ret (tp_CQn (Q := 4) (n := p0) (K := K) rfl rfl rfl (by exact k0))
  · refine tp_ifp (show (some n0).isSome = true from rfl) ?_
    show tp_T (tl_b2 _ _) _
    dsimp only [tp_sqs, tp_kp]
    rw [tc_rCell h1 h2 hlen ht ho (ix := 1) (IX := 1) rfl (by decide) f0.2, tp_b2S, tp_if0]
    have f1 := tp_fg_f (tx := tx) (lo := 0) (hi := 59) 2 0 p0 f0.2
    generalize tp_fg tx len 0 59 2 0 p0 = R1 at f1
    obtain ⟨s1, p1⟩ := R1
    have f1 : p0 ≤ p1 ∧ p1 ≤ len := f1
    rcases s1 with _ | n1
    · refine tp_ifn (show ¬ (none : Option Nat).isSome = true by decide) ?_
      exact tp_ret (tp_CQn (Q := 4) (n := p1) (K := (tp_up K 1 (nI n0))) rfl rfl rfl (by rw [tp_un (by decide), k0]))
    · refine tp_ifp (show (some n1).isSome = true from rfl) ?_
      show tp_T (tl_b2 _ _) _
      dsimp only [tp_sqs, tp_kp]
      rw [tc_number h1 h2 hlen ht ho (w := 1) (lo := 1) (hi := 9) (ix := 2) (IX := 2) (W := 1) (L := 1) (H := 9) rfl rfl rfl rfl (by decide) (by decide) (by decide) (by decide) f1.2, tp_b2S, tp_if0]
      have f2 := tp_fg_f (tx := tx) (lo := 1) (hi := 9) 1 0 p1 f1.2
      generalize tp_fg tx len 1 9 1 0 p1 = R2 at f2
      obtain ⟨s2, p2⟩ := R2
      have f2 : p1 ≤ p2 ∧ p2 ≤ len := f2
      rcases s2 with _ | n2
      · refine tp_ifn (show ¬ (none : Option Nat).isSome = true by decide) ?_
        exact tp_ret (tp_CQn (Q := 4) (n := p2) (K := (tp_up (tp_up K 1 (nI n0)) 2 (nI n1))) rfl rfl rfl (by rw [tp_un (by decide), tp_un (by decide), k0]))
      · refine tp_ifp (show (some n2).isSome = true from rfl) ?_
        show tp_T (tl_b2 _ _) _
        dsimp only [tp_sqs, tp_kp]
        rw [tc_number h1 h2 hlen ht ho (w := 2) (lo := 0) (hi := 99) (ix := 3) (IX := 3) (W := 2) (L := 0) (H := 99) rfl rfl rfl rfl (by decide) (by decide) (by decide) (by decide) f2.2, tp_b2S, tp_if0]
        have f3 := tp_fg_f (tx := tx) (lo := 0) (hi := 99) 2 0 p2 f2.2
        generalize tp_fg tx len 0 99 2 0 p2 = R3 at f3
        obtain ⟨s3, p3⟩ := R3
        have f3 : p2 ≤ p3 ∧ p3 ≤ len := f3
        rcases s3 with _ | n3
        · refine tp_ifn (show ¬ (none : Option Nat).isSome = true by decide) ?_
          exact tp_ret (tp_CQn (Q := 4) (n := p3) (K := (tp_up (tp_up (tp_up K 1 (nI n0)) 2 (nI n1)) 3 (nI n2))) rfl rfl rfl (by rw [tp_un (by decide), tp_un (by decide), tp_un (by decide), k0]))
        · refine tp_ifp (show (some n3).isSome = true from rfl) ?_
          exact tp_ret (tp_CQy (Q := 4) (n := p3) (K := (tp_up (tp_up (tp_up (tp_up K 1 (nI n0)) 2 (nI n1)) 3 (nI n2)) 4 (nI n3))) (A := (nI n0)) (B := (nI n1)) (C := (nI n2)) (D := (nI n3)) rfl (by rw [tp_un (by decide), tp_un (by decide), tp_un (by decide), tp_un (by decide), k0]) (by rw [tp_un (by decide), tp_un (by decide), tp_un (by decide), tp_us]) (by rw [tp_un (by decide), tp_un (by decide), tp_us]) (by rw [tp_un (by decide), tp_us]) (by rw [tp_us]))
theorem tc_numbers5 (h1 : c ≠ b) (h2 : c + 1 ≠ b) (hlen : len ≤ 120) (ht : ∀ i, i < len → u.1 (c + 1) i = tx i ∧ tp_N 255 (tx i)) (ho : o 1 = nI len) (hp : p ≤ len) (hK : tp_K0 K 5) : tp_T (f6_readNumbers c b (tp_Y u c b o p K)) (tp_CQ u c b o (tp_cmd tx len 115 p)) := by
  obtain ⟨k0, k1, k2, k3, k4⟩ := hK
  have e : (nI 5).toInt = ((5 : Nat) : Int) := tp_ti (by decide)
  unfold f6_readNumbers tp_cmd
  rw [if_neg (show ¬ 115 = 103 by decide), if_neg (show ¬ 115 = 109 by decide), if_neg (show ¬ 115 = 108 by decide), if_pos (show 115 = 115 from rfl)]
  rw [tp_Yb h1, k0, e, if_neg (by decide), if_neg (by decide), if_neg (by decide), if_neg (by decide), if_neg (by decide), if_pos (by decide)]
  rw [tc_number h1 h2 hlen ht ho (w := 3) (lo := 0) (hi := 999) (ix := 0) (IX := 0) (W := 3) (L := 0) (H := 999) rfl rfl rfl rfl (by decide) (by decide) (by decide) (by decide) hp, tp_b2S, tp_gB]
  try rw [tp_sqs]
  have f0 := tp_fg_f (tx := tx) (lo := 0) (hi := 999) 3 0 p hp
  generalize tp_fg tx len 0 999 3 0 p = R0 at f0
  obtain ⟨s0, p0⟩ := R0
  have f0 : p ≤ p0 ∧ p0 ≤ len := f0
  rcases s0 with _ | n0
  · exact tp_ret (tp_CQn (Q := 5) (n := p0) (K := K) rfl rfl rfl (by exact k0))
  · exact tp_ret (tp_CQy (Q := 5) (n := p0) (K := (tp_up K 1 (nI n0))) (A := (nI n0)) (B := 0) (C := 0) (D := 0) rfl (by rw [tp_un (by decide), k0]) (by rw [tp_us]) (by rw [tp_un (by decide), k2]) (by rw [tp_un (by decide), k3]) (by rw [tp_un (by decide), k4]))
theorem tc_numbers6 (h1 : c ≠ b) (h2 : c + 1 ≠ b) (hlen : len ≤ 120) (ht : ∀ i, i < len → u.1 (c + 1) i = tx i ∧ tp_N 255 (tx i)) (ho : o 1 = nI len) (hp : p ≤ len) (hK : tp_K0 K 6) : tp_T (f6_readNumbers c b (tp_Y u c b o p K)) (tp_CQ u c b o (tp_cmd tx len 104 p)) := by
  obtain ⟨k0, k1, k2, k3, k4⟩ := hK
  have e : (nI 6).toInt = ((6 : Nat) : Int) := tp_ti (by decide)
  unfold f6_readNumbers tp_cmd
  rw [if_neg (show ¬ 104 = 103 by decide), if_neg (show ¬ 104 = 109 by decide), if_neg (show ¬ 104 = 108 by decide), if_neg (show ¬ 104 = 115 by decide), if_pos (show 104 = 104 from rfl)]
  rw [tp_Yb h1, k0, e, if_neg (by decide), if_neg (by decide), if_neg (by decide), if_neg (by decide), if_neg (by decide), if_neg (by decide), if_pos (by decide)]
  rw [tc_rLamp h1 h2 hlen ht ho hp, tp_b2S, tp_if0]
  try rw [tp_sqs]
  have f0 := tp_fg_f (tx := tx) (lo := 0) (hi := 7) 1 0 p hp
  generalize tp_fg tx len 0 7 1 0 p = R0 at f0
  obtain ⟨s0, p0⟩ := R0
  have f0 : p ≤ p0 ∧ p0 ≤ len := f0
  rcases s0 with _ | n0
  · refine tp_ifn (show ¬ (none : Option Nat).isSome = true by decide) ?_
    exact tp_ret (tp_CQn (Q := 6) (n := p0) (K := K) rfl rfl rfl (by exact k0))
  · refine tp_ifp (show (some n0).isSome = true from rfl) ?_
    show tp_T (tl_b2 _ _) _
    dsimp only [tp_sqs, tp_kp]
    rw [tc_rGallery h1 h2 hlen ht ho (ix := 1) (IX := 1) rfl (by decide) f0.2, tp_b2S, tp_if0]
    have f1 := tp_fg_f (tx := tx) (lo := 0) (hi := 2) 1 0 p0 f0.2
    generalize tp_fg tx len 0 2 1 0 p0 = R1 at f1
    obtain ⟨s1, p1⟩ := R1
    have f1 : p0 ≤ p1 ∧ p1 ≤ len := f1
    rcases s1 with _ | n1
    · refine tp_ifn (show ¬ (none : Option Nat).isSome = true by decide) ?_
      exact tp_ret (tp_CQn (Q := 6) (n := p1) (K := (tp_up K 1 (nI n0))) rfl rfl rfl (by rw [tp_un (by decide), k0]))
    · refine tp_ifp (show (some n1).isSome = true from rfl) ?_
      show tp_T (tl_b2 _ _) _
      dsimp only [tp_sqs, tp_kp]
      rw [tc_rCell h1 h2 hlen ht ho (ix := 2) (IX := 2) rfl (by decide) f1.2, tp_b2S, tp_if0]
      have f2 := tp_fg_f (tx := tx) (lo := 0) (hi := 59) 2 0 p1 f1.2
      generalize tp_fg tx len 0 59 2 0 p1 = R2 at f2
      obtain ⟨s2, p2⟩ := R2
      have f2 : p1 ≤ p2 ∧ p2 ≤ len := f2
      rcases s2 with _ | n2
      · refine tp_ifn (show ¬ (none : Option Nat).isSome = true by decide) ?_
        exact tp_ret (tp_CQn (Q := 6) (n := p2) (K := (tp_up (tp_up K 1 (nI n0)) 2 (nI n1))) rfl rfl rfl (by rw [tp_un (by decide), tp_un (by decide), k0]))
      · refine tp_ifp (show (some n2).isSome = true from rfl) ?_
        exact tp_ret (tp_CQy (Q := 6) (n := p2) (K := (tp_up (tp_up (tp_up K 1 (nI n0)) 2 (nI n1)) 3 (nI n2))) (A := (nI n0)) (B := (nI n1)) (C := (nI n2)) (D := 0) rfl (by rw [tp_un (by decide), tp_un (by decide), tp_un (by decide), k0]) (by rw [tp_un (by decide), tp_un (by decide), tp_us]) (by rw [tp_un (by decide), tp_us]) (by rw [tp_us]) (by rw [tp_un (by decide), tp_un (by decide), tp_un (by decide), k4]))
theorem tc_numbers7 (h1 : c ≠ b) (h2 : c + 1 ≠ b) (hlen : len ≤ 120) (ht : ∀ i, i < len → u.1 (c + 1) i = tx i ∧ tp_N 255 (tx i)) (ho : o 1 = nI len) (hp : p ≤ len) (hK : tp_K0 K 7) : tp_T (f6_readNumbers c b (tp_Y u c b o p K)) (tp_CQ u c b o (tp_cmd tx len 102 p)) := by
  obtain ⟨k0, k1, k2, k3, k4⟩ := hK
  have e : (nI 7).toInt = ((7 : Nat) : Int) := tp_ti (by decide)
  unfold f6_readNumbers tp_cmd
  rw [if_neg (show ¬ 102 = 103 by decide), if_neg (show ¬ 102 = 109 by decide), if_neg (show ¬ 102 = 108 by decide), if_neg (show ¬ 102 = 115 by decide), if_neg (show ¬ 102 = 104 by decide), if_pos (show 102 = 102 from rfl)]
  rw [tp_Yb h1, k0, e, if_neg (by decide), if_neg (by decide), if_neg (by decide), if_neg (by decide), if_neg (by decide), if_neg (by decide), if_neg (by decide), if_pos (by decide)]
  rw [tc_rLamp h1 h2 hlen ht ho hp, tp_b2S, tp_if0]
  try rw [tp_sqs]
  have f0 := tp_fg_f (tx := tx) (lo := 0) (hi := 7) 1 0 p hp
  generalize tp_fg tx len 0 7 1 0 p = R0 at f0
  obtain ⟨s0, p0⟩ := R0
  have f0 : p ≤ p0 ∧ p0 ≤ len := f0
  rcases s0 with _ | n0
  · refine tp_ifn (show ¬ (none : Option Nat).isSome = true by decide) ?_
    exact tp_ret (tp_CQn (Q := 7) (n := p0) (K := K) rfl rfl rfl (by exact k0))
  · refine tp_ifp (show (some n0).isSome = true from rfl) ?_
    show tp_T (tl_b2 _ _) _
    dsimp only [tp_sqs, tp_kp]
    rw [tc_number h1 h2 hlen ht ho (w := 2) (lo := 1) (hi := 99) (ix := 1) (IX := 1) (W := 2) (L := 1) (H := 99) rfl rfl rfl rfl (by decide) (by decide) (by decide) (by decide) f0.2, tp_b2S, tp_if0]
    have f1 := tp_fg_f (tx := tx) (lo := 1) (hi := 99) 2 0 p0 f0.2
    generalize tp_fg tx len 1 99 2 0 p0 = R1 at f1
    obtain ⟨s1, p1⟩ := R1
    have f1 : p0 ≤ p1 ∧ p1 ≤ len := f1
    rcases s1 with _ | n1
    · refine tp_ifn (show ¬ (none : Option Nat).isSome = true by decide) ?_
      exact tp_ret (tp_CQn (Q := 7) (n := p1) (K := (tp_up K 1 (nI n0))) rfl rfl rfl (by rw [tp_un (by decide), k0]))
    · refine tp_ifp (show (some n1).isSome = true from rfl) ?_
      exact tp_ret (tp_CQy (Q := 7) (n := p1) (K := (tp_up (tp_up K 1 (nI n0)) 2 (nI n1))) (A := (nI n0)) (B := (nI n1)) (C := 0) (D := 0) rfl (by rw [tp_un (by decide), tp_un (by decide), k0]) (by rw [tp_un (by decide), tp_us]) (by rw [tp_us]) (by rw [tp_un (by decide), tp_un (by decide), k3]) (by rw [tp_un (by decide), tp_un (by decide), k4]))
theorem tc_numbers9 (h1 : c ≠ b) (h2 : c + 1 ≠ b) (hlen : len ≤ 120) (ht : ∀ i, i < len → u.1 (c + 1) i = tx i ∧ tp_N 255 (tx i)) (ho : o 1 = nI len) (hp : p ≤ len) (hK : tp_K0 K 9) : tp_T (f6_readNumbers c b (tp_Y u c b o p K)) (tp_CQ u c b o (tp_cmd tx len 97 p)) := by
  obtain ⟨k0, k1, k2, k3, k4⟩ := hK
  have e : (nI 9).toInt = ((9 : Nat) : Int) := tp_ti (by decide)
  unfold f6_readNumbers tp_cmd
  rw [if_neg (show ¬ 97 = 103 by decide), if_neg (show ¬ 97 = 109 by decide), if_neg (show ¬ 97 = 108 by decide), if_neg (show ¬ 97 = 115 by decide), if_neg (show ¬ 97 = 104 by decide), if_neg (show ¬ 97 = 102 by decide), if_pos (show 97 = 97 from rfl)]
  rw [tp_Yb h1, k0, e, if_neg (by decide), if_neg (by decide), if_neg (by decide), if_neg (by decide), if_neg (by decide), if_neg (by decide), if_neg (by decide), if_neg (by decide), if_neg (by decide)]
  rw [tp_Yk h1, tp_L]
  rw [tc_number h1 h2 hlen ht ho (w := 1) (lo := 0) (hi := 1) (ix := 1) (IX := 1) (W := 1) (L := 0) (H := 1) rfl rfl rfl rfl (by decide) (by decide) (by decide) (by decide) hp, tp_b2S, tp_gB]
  try rw [tp_sqs]
  have f0 := tp_fg_f (tx := tx) (lo := 0) (hi := 1) 1 0 p hp
  generalize tp_fg tx len 0 1 1 0 p = R0 at f0
  obtain ⟨s0, p0⟩ := R0
  have f0 : p ≤ p0 ∧ p0 ≤ len := f0
  rcases s0 with _ | n0
  · exact tp_ret (tp_CQn (Q := 9) (n := p0) (K := (tp_up K 1 1)) rfl rfl rfl (by rw [tp_un (by decide), k0]))
  · exact tp_ret (tp_CQy (Q := 9) (n := p0) (K := (tp_up (tp_up K 1 1) 2 (nI n0))) (A := 1) (B := (nI n0)) (C := 0) (D := 0) rfl (by rw [tp_un (by decide), tp_un (by decide), k0]) (by rw [tp_un (by decide), tp_us]) (by rw [tp_us]) (by rw [tp_un (by decide), tp_un (by decide), k3]) (by rw [tp_un (by decide), tp_un (by decide), k4]))
theorem tc_numbers10 (h1 : c ≠ b) (h2 : c + 1 ≠ b) (hlen : len ≤ 120) (ht : ∀ i, i < len → u.1 (c + 1) i = tx i ∧ tp_N 255 (tx i)) (ho : o 1 = nI len) (hp : p ≤ len) (hK : tp_K0 K 10) : tp_T (f6_readNumbers c b (tp_Y u c b o p K)) (tp_CQ u c b o (tp_cmd tx len 116 p)) := by
  obtain ⟨k0, k1, k2, k3, k4⟩ := hK
  have e : (nI 10).toInt = ((10 : Nat) : Int) := tp_ti (by decide)
  unfold f6_readNumbers tp_cmd
  rw [if_neg (show ¬ 116 = 103 by decide), if_neg (show ¬ 116 = 109 by decide), if_neg (show ¬ 116 = 108 by decide), if_neg (show ¬ 116 = 115 by decide), if_neg (show ¬ 116 = 104 by decide), if_neg (show ¬ 116 = 102 by decide), if_neg (show ¬ 116 = 97 by decide), if_pos (show 116 = 116 from rfl)]
  rw [tp_Yb h1, k0, e, if_pos (by decide)]
  rw [tc_number h1 h2 hlen ht ho (w := 2) (lo := 1) (hi := 60) (ix := 0) (IX := 0) (W := 2) (L := 1) (H := 60) rfl rfl rfl rfl (by decide) (by decide) (by decide) (by decide) hp, tp_b2S, tp_gB]
  try rw [tp_sqs]
  have f0 := tp_fg_f (tx := tx) (lo := 1) (hi := 60) 2 0 p hp
  generalize tp_fg tx len 1 60 2 0 p = R0 at f0
  obtain ⟨s0, p0⟩ := R0
  have f0 : p ≤ p0 ∧ p0 ≤ len := f0
  rcases s0 with _ | n0
  · exact tp_ret (tp_CQn (Q := 10) (n := p0) (K := K) rfl rfl rfl (by exact k0))
  · exact tp_ret (tp_CQy (Q := 10) (n := p0) (K := (tp_up K 1 (nI n0))) (A := (nI n0)) (B := 0) (C := 0) (D := 0) rfl (by rw [tp_un (by decide), k0]) (by rw [tp_us]) (by rw [tp_un (by decide), k2]) (by rw [tp_un (by decide), k3]) (by rw [tp_un (by decide), k4]))
end TQB
