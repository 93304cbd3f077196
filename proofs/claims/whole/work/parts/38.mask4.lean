/-! The reference's answers: scripts, simulations, slots. -/
def tp_rsk (n : Int32) (s : Int64) : Prop := ∃ N S, 1 ≤ N ∧ N ≤ 3 ∧ n = nI N ∧ s = lN S ∧ S < 1000000 ^ N
theorem tp_p6 : (1000000 : Nat) ^ 1 = 1000000 ∧ (1000000 : Nat) ^ 2 = 1000000000000 ∧ (1000000 : Nat) ^ 3 = 1000000000000000000 := ⟨rfl, rfl, rfl⟩
theorem tp_pw_le {j : Nat} (h : j ≤ 3) : 1000000 ^ j ≤ 1000000000000000000 ∧ 0 < 1000000 ^ j := by
  have : j = 0 ∨ j = 1 ∨ j = 2 ∨ j = 3 := by omega
  rcases this with rfl | rfl | rfl | rfl <;> decide
section TQE
variable {m len : Nat} {tx now : tp_R} {hn : Nat} {hist : Nat → tp_R} {sl : Nat → Bool} {kp : Nat → tp_R} {u : tl_S}
theorem tr_script {N S : Nat} (hN : N ≤ 3) (hS : S < 1000000000000000000) : ∀ (j f k : Nat) {t : tp_R}, tp_Ok t → k + j = N → j < f → ∃ t' : tp_R, tp_Ok t' ∧ f10_runScript_p86 f m (nI N) (lN S) (lN (1000000 ^ j)) (nI k) (tp_w u (m + 3) t) = some (tp_srn S j k t, tp_w u (m + 3) t')
  | _, 0, _, _, _, _, h => absurd h (Nat.not_lt_zero _)
  | 0, f + 1, k, t, h, hk, _ => by
    refine ⟨t, h, ?_⟩
    unfold f10_runScript_p86
    rw [if_pos (by rw [tp_le (by omega) (by omega)]; omega)]; rfl
  | j + 1, f + 1, k, t, h, hk, hf => by
    obtain ⟨p1, p2⟩ := tp_pw_le (j := j) (by omega)
    have e1 : lN (1000000 ^ (j + 1)) / 1000000 = lN (1000000 ^ j) := by
      have := (tp_pw_le (j := j + 1) (by omega)).1
      rw [show (1000000 : Int64) = lN 1000000 from rfl, pk_lDiv (by omega) (by decide) (by decide), Nat.pow_succ, Nat.mul_div_cancel _ (by decide)]
    have e2 : ¬ lN (1000000 ^ j) = 0 := by
      rw [show (0 : Int64) = lN 0 from rfl, pk_lEQ (by omega) (by decide)]
      omega
    have hG : S / 1000000 ^ j % 1000000 < 1000000 := Nat.mod_lt _ (by decide)
    have e3 : ((((lN S / lN (1000000 ^ j)) - (lN S / lN (1000000 ^ j)) / 1000000 * 1000000) : Int64).toInt32) = nI (S / 1000000 ^ j % 1000000) := by
      have hd : S / 1000000 ^ j ≤ S := Nat.div_le_self _ _
      rw [pk_lDiv (by omega) p2 (by omega), show (1000000 : Int64) = lN 1000000 from rfl, pk_lRem (by omega) (by decide) (by decide), lN_i]
    unfold f10_runScript_p86 tp_srn
    rw [if_neg (by rw [tp_le (by omega) (by omega)]; omega), e1, tp_L, tl_gs e2, e3, tp_L, tp_dv100000 (by omega), tp_rn100000, tr_command h (by omega) (by omega), tp_b2S, tp_if0]
    have K := tp_Ok_scr (k := S / 1000000 ^ j % 1000000 / 100000) (v := S / 1000000 ^ j % 1000000 % 100000) h
    rcases e : (tp_scr (S / 1000000 ^ j % 1000000 / 100000) (S / 1000000 ^ j % 1000000 % 100000) t).1 with _ | _
    · rw [if_neg (by decide), if_neg (by decide)]
      exact ⟨_, K, rfl⟩
    · rw [if_pos rfl, if_pos rfl, tp_L, nI_1]
      exact tr_script hN hS j f (k + 1) K (by omega) (by omega)
theorem tm_rs_no (h : tp_MI m len tx now hn hist sl kp u) {n : Int32} {s : Int64} {A : Nat} (hA1 : 0 < A) (hA2 : A ≤ 1000000000000000000) (hb : tp_iw n 1 3 = true → ¬ (¬ s < 0 ∧ s < lN A)) {x : Int32} :
    tp_T (f10_runScript_p32 m n s (lN A) u) (tp_QQ m u 1 x len tx now hn hist sl kp) := by
  unfold f10_runScript_p32
  rw [tp_in_l (y := 1) (z := 3) (Y := 1) (Z := 3) (by decide) (by decide), tp_b2S, tp_if0]
  rcases e : tp_iw n 1 3 with _ | _
  · rw [if_neg (by decide)]
    exact tm_no (c := 1) rfl (by decide) (by decide) h (fun v => tp_QQn (by decide))
  · have hb := hb e
    have e0 : f10_in s 0 (lN A - 1) u = some (0, u) := by
      unfold f10_in
      simp only [tp_cmp_lt, tp_cmp_gt]
      by_cases c : s < 0
      · rw [if_pos c]
      · rw [if_neg c]
        obtain ⟨S, hS, rfl⟩ := pk_lOf c
        have c2 : ¬ lN S < lN A := fun z => hb ⟨c, z⟩
        rw [pk_lLT (by omega) (by omega)] at c2
        rw [if_pos (by rw [show (1 : Int64) = lN 1 from rfl, lN_sub (by omega), pk_lLT (by omega) (by omega)]; omega)]
    rw [if_pos rfl, e0, tp_b2S, if_pos rfl]
    exact tm_no (c := 1) rfl (by decide) (by decide) h (fun v => tp_QQn (by decide))
theorem tm_rs_yes (h : tp_MI m len tx now hn hist sl kp u) (hs : tp_SO len tx now hn hist sl kp) {N S : Nat} (h1 : 1 ≤ N) (h3 : N ≤ 3) (hS : S < 1000000 ^ N) :
    tp_T (f10_runScript_p32 m (nI N) (lN S) (lN (1000000 ^ N)) u) (tp_QQ m u 0 (tp_srn S N 0 now) len tx now hn hist sl kp) := by
  obtain ⟨p1, p2⟩ := tp_pw_le h3
  unfold f10_runScript_p32
  rw [tp_in_l (y := 1) (z := 3) (Y := 1) (Z := 3) (by decide) (by decide), tp_b2S, tp_if0, tp_iwN (l := 1) (h := 3) (L := 1) (B := 3) rfl rfl h1 h3 (by decide), if_pos rfl]
  have e0 : f10_in (lN S) 0 (lN (1000000 ^ N) - 1) u = some (1, u) := by
    unfold f10_in
    simp only [tp_cmp_lt, tp_cmp_gt]
    rw [if_neg (by rw [show (0 : Int64) = lN 0 from rfl, pk_lLT (by omega) (by decide)]; omega), if_neg (by rw [show (1 : Int64) = lN 1 from rfl, lN_sub (by omega), pk_lLT (by omega) (by omega)]; omega)]
  rw [e0, tp_b2S, tp_ite1]
  refine tm_yes h (fun v v0 vF vM => ?_)
  obtain ⟨t', e1, e2⟩ := tr_script (u := v) (m := m) (N := N) (S := S) h3 (by omega) N tl_F 0 hs.2.2.1 (by omega) (by unfold tl_F; omega)
  rw [tm_cpt vM hs, tp_bS, show (0 : Int32) = nI 0 from rfl, e2]
  refine ⟨_, rfl, tp_QQy rfl ?_ (tp_FM_w vF (by omega) (by omega)) (tp_MI_t vM (tp_rng_z e1.1))⟩
  rw [tp_wgn (by omega)]; exact v0
theorem tm_p6_s {f : Nat} {n : Int32} {s A : Int64} {k : Nat} : f10_runScript_p6 (f + 1) m n s A (nI k) u = if n ≤ nI k then f10_runScript_p32 m n s A u else if 3 ≤ nI k then f10_runScript_p32 m n s A u else f10_runScript_p6 f m n s (A * 1000000) (nI (k + 1)) u := by
  show (if n ≤ nI k then _ else if 3 ≤ nI k then _ else _ : Option (Int32 × tl_S)) = _
  rw [tp_L, tp_L, nI_1]
theorem tm_runScript (h : tp_MI m len tx now hn hist sl kp u) (hs : tp_SO len tx now hn hist sl kp) {n : Int32} {s : Int64} :
    tp_T (f10_runScript m n s u) (fun p => (∃ N S, 1 ≤ N ∧ N ≤ 3 ∧ n = nI N ∧ s = lN S ∧ S < 1000000 ^ N ∧ tp_QQ m u 0 (tp_srn S N 0 now) len tx now hn hist sl kp p) ∨ (¬ tp_rsk n s ∧ tp_QQ m u 1 0 len tx now hn hist sl kp p)) := by
  unfold f10_runScript
  rw [show tl_F = 1996 + 1 + 1 + 1 + 1 from rfl, show (0 : Int32) = nI 0 from rfl, tm_p6_s]
  have fin : ∀ N : Nat, 1 ≤ N → N ≤ 3 → n = nI N → tp_T (f10_runScript_p32 m n s (lN (1000000 ^ N)) u) (fun p => (∃ N S, 1 ≤ N ∧ N ≤ 3 ∧ n = nI N ∧ s = lN S ∧ S < 1000000 ^ N ∧ tp_QQ m u 0 (tp_srn S N 0 now) len tx now hn hist sl kp p) ∨ (¬ tp_rsk n s ∧ tp_QQ m u 1 0 len tx now hn hist sl kp p)) := by
    intro N h1 h3 e
    obtain ⟨p1, p2⟩ := tp_pw_le h3
    by_cases c : ¬ s < 0 ∧ s < lN (1000000 ^ N)
    · obtain ⟨S, hS, rfl⟩ := pk_lOf c.1
      have c2 := c.2
      rw [pk_lLT (by omega) (by omega)] at c2
      rw [e]
      exact tp_mono (tm_rs_yes h hs h1 h3 c2) (fun p q => Or.inl ⟨N, S, h1, h3, rfl, rfl, c2, q⟩)
    · refine tp_mono (tm_rs_no (x := 0) h p2 p1 (fun _ => c)) (fun p q => Or.inr ⟨?_, q⟩)
      rintro ⟨N2, S, a1, a2, a3, a4, a5⟩
      have : N = N2 := (tp_eq (by omega) (by omega)).mp (e.symm.trans a3)
      subst this
      subst a4
      refine c ⟨?_, ?_⟩
      · rw [show (0 : Int64) = lN 0 from rfl, pk_lLT (by omega) (by decide)]; omega
      · rw [pk_lLT (by omega) (by omega)]; exact a5
  have bad : ∀ A : Nat, 0 < A → A ≤ 1000000000000000000 → (∀ N, 1 ≤ N → N ≤ 3 → ¬ n = nI N) → tp_T (f10_runScript_p32 m n s (lN A) u) (fun p => (∃ N S, 1 ≤ N ∧ N ≤ 3 ∧ n = nI N ∧ s = lN S ∧ S < 1000000 ^ N ∧ tp_QQ m u 0 (tp_srn S N 0 now) len tx now hn hist sl kp p) ∨ (¬ tp_rsk n s ∧ tp_QQ m u 1 0 len tx now hn hist sl kp p)) := by
    intro A hA1 hA2 hno
    refine tp_mono (tm_rs_no (x := 0) h hA1 hA2 (fun z => ?_)) (fun p q => Or.inr ⟨fun ⟨N, S, a1, a2, a3, _, _⟩ => hno N a1 a2 a3, q⟩)
    obtain ⟨k, k1, k2, k3⟩ := tp_iw_N (L := 1) (B := 3) rfl rfl (by decide) (by decide) z
    exact absurd k3 (hno k k1 k2)
  by_cases c0 : n ≤ nI 0
  · rw [if_pos c0]
    refine bad 1 (by decide) (by decide) (fun N a1 a2 e => ?_)
    rw [e, tp_le (by omega) (by decide)] at c0
    omega
  · obtain ⟨k, hk, rfl⟩ := nI_of (x := n) (by intro z; apply c0; rw [tp_lei]; rw [tp_lti] at z; have : (nI 0).toInt = 0 := rfl; have h0 : (0 : Int32).toInt = 0 := rfl; omega)
    rw [tp_le (by omega) (by decide)] at c0
    rw [if_neg (by rw [tp_le (by omega) (by decide)]; omega), if_neg (by decide), tm_p6_s]
    by_cases c1 : k = 1
    · subst c1
      rw [if_pos (by decide)]
      exact fin 1 (by decide) (by decide) rfl
    · rw [if_neg (by rw [tp_le (by omega) (by decide)]; omega), if_neg (by decide), tm_p6_s]
      by_cases c2 : k = 2
      · subst c2
        rw [if_pos (by decide)]
        exact fin 2 (by decide) (by decide) rfl
      · rw [if_neg (by rw [tp_le (by omega) (by decide)]; omega), if_neg (by decide), tm_p6_s]
        by_cases c3 : k = 3
        · subst c3
          rw [if_pos (by decide)]
          exact fin 3 (by decide) (by decide) rfl
        · rw [if_neg (by rw [tp_le (by omega) (by decide)]; omega), if_pos (by decide)]
          exact bad 1000000000000000000 (by decide) (by decide) (fun N a1 a2 e => by have := (tp_eq (by omega) (by omega)).mp e; omega)
theorem tr_sim {M : Nat} (hM : M ≤ 60) (hs : tp_SO len tx now hn hist sl kp) (hu : tp_MI m len tx now hn hist sl kp u) : ∀ (j f i : Nat) {x : Int64} {t : tp_R}, tp_Ok t → i + j = M → j < f → f10_simulate_p45 f m (nI M) x (nI i) (tp_w u (m + 3) t) = some (tp_sq2 (tp_sm j x t) now, tp_w u (m + 3) (tp_sm j x t))
  | _, 0, _, _, _, _, _, h => absurd h (Nat.not_lt_zero _)
  | 0, f + 1, i, x, t, h, hi, _ => by
    unfold f10_simulate_p45 tp_sq2 tp_sm
    have e2 : (tp_w u (m + 3) t).1 (m + 2) = now := (tp_wgn (by omega)).trans hu.2.2.1
    rw [if_pos (by rw [tp_le (by omega) (by omega)]; omega), tp_wg, e2, tp_L]
    by_cases c : t 9 - now 9 ≤ 999
    · rw [if_pos c, if_pos c]
    · rw [if_neg c, if_neg c]
  | j + 1, f + 1, i, x, t, h, hi, hf => by
    unfold f10_simulate_p45 tp_sm
    obtain ⟨R, hR, eR⟩ := tp_sR_N (tp_sx x)
    rw [if_neg (by rw [tp_le (by omega) (by omega)]; omega), tp_L]
    show tl_let (tp_sR (tp_sx x)) _ = _
    have hcl : tp_cl (nI R) = R := tp_cn (by omega)
    rw [eR, hcl, tp_L, tp_dv16 (by omega), tp_L, tp_rn16, tp_L]
    have K := tp_Ok_turn (k := R % 16) (v := R / 16) h
    have ih := tr_sim hM hs hu j f (i + 1) (x := tp_sx x) K (by omega) (by omega)
    have l5 : ((5 : Int32) ≤ nI (R % 16)) = (5 ≤ R % 16) := tp_le (by decide) (by omega)
    have l10 : ((10 : Int32) ≤ nI (R % 16)) = (10 ≤ R % 16) := tp_le (by decide) (by omega)
    simp only [l5, l10]
    by_cases c5 : 5 ≤ R % 16
    · rw [if_pos c5]
      by_cases c10 : 10 ≤ R % 16
      · have hr : tp_rf 10 (nI (1 + R / 16 % 12)) 0 0 0 t = 0 := tp_rf10.mpr (tp_iwN (L := 1) (B := 60) rfl rfl (by omega) (by omega) (by decide))
        rw [tp_turnX c10, tp_tt_p hr, tp_pf10 (by omega)] at ih
        rw [tp_turnX c10, tp_tt_p hr, tp_pf10 (by omega)]
        rw [if_pos c10, tp_dv12 (by omega), tp_rn12, tp_1p, tr_hours h (by omega), tp_b2S, tp_L, nI_1]
        exact ih
      · rw [if_neg c10, tr_turnO h ⟨c5, by omega⟩ (by omega), tp_bS, tp_L, nI_1]
        exact ih
    · rw [if_neg c5, tr_turnT h (by omega) (by omega), tp_bS, tp_L, nI_1]
      exact ih
theorem tm_simulate (h : tp_MI m len tx now hn hist sl kp u) (hs : tp_SO len tx now hn hist sl kp) {x : Int64} {n : Int32} :
    tp_T (f10_simulate m x n u) (fun p => if tp_iw n 1 60 = true then tp_QQ m u 0 (tp_sq2 (tp_sm (tp_cl n) x now) now) len tx now hn hist sl kp p else tp_QQ m u 1 0 len tx now hn hist sl kp p) := by
  unfold f10_simulate
  rw [tp_in_l (y := 1) (z := 60) (Y := 1) (Z := 60) (by decide) (by decide), tp_b2S, tp_if0]
  rcases e : tp_iw n 1 60 with _ | _
  · simp only [Bool.false_eq_true, if_false]
    unfold f10_simulate_p18
    exact tm_no (c := 1) rfl (by decide) (by decide) h (fun v => tp_QQn (by decide))
  · simp only [if_true]
    obtain ⟨k, -, k2, rfl⟩ := tp_iw_N (L := 1) (B := 60) rfl rfl (by decide) (by decide) e
    unfold f10_simulate_p18
    refine tm_yes h (fun v v0 vF vM => ?_)
    have hcl : tp_cl (nI k) = k := tp_cn (by omega)
    rw [tm_cpt vM hs, tp_bS, show (0 : Int32) = nI 0 from rfl, tr_sim k2 hs vM k tl_F 0 hs.2.2.1 (by omega) (by unfold tl_F; omega), hcl]
    refine ⟨_, rfl, tp_QQy rfl ?_ (tp_FM_w vF (by omega) (by omega)) (tp_MI_t vM (tp_rng_z (tp_Ok_sm k x hs.2.2.1).1))⟩
    rw [tp_wgn (by omega)]; exact v0
def tp_sl2 (sl : Nat → Bool) (s : Nat) : Nat → Bool := fun i => if i = s then true else sl i
def tp_kp2 (kp : Nat → tp_R) (s : Nat) (now : tp_R) : Nat → tp_R := fun i => if i = s then now else kp i
theorem tm_save (h : tp_MI m len tx now hn hist sl kp u) (hs : tp_SO len tx now hn hist sl kp) {s : Int32} :
    tp_T (f10_save m s u) (fun p => if tp_iw s 0 1 = true then tp_QQ m u 0 (now 3) len tx now hn hist (tp_sl2 sl (tp_cl s)) (tp_kp2 kp (tp_cl s) now) p else tp_QQ m u 1 0 len tx now hn hist sl kp p) := by
  unfold f10_save
  rw [tp_in_l (y := 0) (z := 1) (Y := 0) (Z := 1) (by decide) (by decide), tp_b2S, tp_if0]
  rcases e : tp_iw s 0 1 with _ | _
  · simp only [Bool.false_eq_true, if_false]
    unfold f10_save_p16
    exact tm_no (c := 1) rfl (by decide) (by decide) h (fun v => tp_QQn (by decide))
  · simp only [if_true]
    obtain ⟨k, -, k2, rfl⟩ := tp_iw_N (L := 0) (B := 1) rfl rfl (by decide) (by decide) e
    unfold f10_save_p16
    refine tm_yes h (fun v v0 vF vM => ?_)
    have hcl : tp_cl (nI k) = k := tp_cn (by omega)
    obtain ⟨a1, a2, a3, a4, a5, a6, a7, a8⟩ := vM
    rw [hcl, tp_k104, pk_mul, tr_copy (x := 0) (y := nI (104 * k)) (s := 0) (d := 104 * k) rfl rfl (by omega) (by omega) (by omega) (by decide) (by decide), a3, tp_bS, tl_gs (tp_ix (n := k) (by omega) (by omega)), tp_cn (by omega), tp_tw, tp_L]
    have e6 : (tp_w v (m + 5) (tp_cp 0 (104 * k) 104 now (v.1 (m + 5)))).1 (m + 6) = v.1 (m + 6) := tp_wgn (by omega)
    rw [e6]
    refine ⟨_, rfl, tp_QQy ?_ ?_ ?_ ⟨?_, ?_, ?_, ?_, ?_, ?_, ?_, ?_⟩⟩
    · rw [tp_wgn (by omega), tp_wgn (by omega), a3]
    · rw [tp_wgn (by omega), tp_wgn (by omega)]; exact v0
    · exact tp_FM_w (tp_FM_w vF (by omega) (by omega)) (by omega) (by omega)
    · rw [tp_wgn (by omega), tp_wgn (by omega)]; exact a1
    · rw [tp_wgn (by omega), tp_wgn (by omega)]; exact a2
    · rw [tp_wgn (by omega), tp_wgn (by omega)]; exact a3
    · rw [tp_wgn (by omega), tp_wgn (by omega)]; exact a4
    · rw [tp_wgn (by omega), tp_wgn (by omega)]; exact a5
    · rw [tp_wgn (by omega), tp_wgn (by omega)]; exact a6
    · intro z hz
      rw [tp_wg]
      unfold tp_up tp_sl2
      by_cases q : z = k
      · rw [if_pos q, if_pos q]; rfl
      · rw [if_neg q, if_neg q]; exact a7 z hz
    · intro z hz hz2 j hj
      rw [tp_wgn (by omega), tp_wg]
      unfold tp_sl2 at hz2
      unfold tp_cp tp_kp2
      by_cases q : z = k
      · subst q
        rw [if_pos rfl, if_pos (by omega), show 0 + (104 * z + j - 104 * z) = j by omega]
      · rw [if_neg q] at hz2
        rw [if_neg q, if_neg (by omega)]
        exact a8 z hz hz2 j hj
theorem tm_restore (h : tp_MI m len tx now hn hist sl kp u) (hs : tp_SO len tx now hn hist sl kp) {s : Int32} :
    tp_T (f10_restore m s u) (fun p => if tp_iw s 0 1 = true then (if sl (tp_cl s) = true then tp_QQ m u 0 (kp (tp_cl s) 3) len tx (kp (tp_cl s)) 0 hist sl kp p else tp_QQ m u 2 0 len tx now hn hist sl kp p) else tp_QQ m u 1 0 len tx now hn hist sl kp p) := by
  unfold f10_restore
  rw [tp_in_l (y := 0) (z := 1) (Y := 0) (Z := 1) (by decide) (by decide), tp_b2S, tp_if0]
  rcases e : tp_iw s 0 1 with _ | _
  · simp only [Bool.false_eq_true, if_false]
    unfold f10_restore_p29
    exact tm_no (c := 1) rfl (by decide) (by decide) h (fun v => tp_QQn (by decide))
  · simp only [if_true]
    obtain ⟨k, -, k2, rfl⟩ := tp_iw_N (L := 0) (B := 1) rfl rfl (by decide) (by decide) e
    have hcl : tp_cl (nI k) = k := tp_cn (by omega)
    rw [hcl, tl_gs (tp_ix (n := k) (by omega) (by omega)), tp_cn (by omega), h.2.2.2.2.2.2.1 k (by omega), tp_if0]
    rcases e2 : sl k with _ | _
    · simp only [Bool.false_eq_true, if_false]
      unfold f10_restore_p29
      exact tm_no (c := 2) rfl (by decide) (by decide) h (fun v => tp_QQn (by decide))
    · simp only [if_true]
      unfold f10_restore_p29
      refine tm_yes h (fun v v0 vF vM => ?_)
      obtain ⟨a1, a2, a3, a4, a5, a6, a7, a8⟩ := vM
      have er : tp_cp (104 * k) 0 104 (v.1 (m + 5)) now = kp k := by
        funext j
        unfold tp_cp
        by_cases q : j < 104
        · rw [if_pos (by omega), show 104 * k + (j - 0) = 104 * k + j by omega]
          exact a8 k (by omega) e2 j q
        · rw [if_neg (by omega), tp_rng_z hs.2.2.1.1 j (by omega), tp_rng_z (hs.2.2.2.2.2 k (by omega) e2).1 j (by omega)]
      rw [tp_k104, pk_mul, tr_copy (x := nI (104 * k)) (y := 0) (s := 104 * k) (d := 0) rfl rfl (by omega) (by omega) (by omega) (by decide) (by decide), a3, er, tp_bS, tp_tw, tp_L]
      have em : (tp_w v (m + 2) (kp k)).1 m = v.1 m := tp_wgn (by omega)
      rw [em]
      refine ⟨_, rfl, tp_QQy ?_ ?_ ?_ ⟨?_, ?_, ?_, ?_, ?_, ?_, ?_, ?_⟩⟩
      · rw [tp_wgn (by omega), tp_wg]
      · rw [tp_wg, tp_un (by decide)]; exact v0
      · exact tp_FM_w (tp_FM_w vF (by omega) (by omega)) (Nat.le_refl m) (by omega)
      · rw [tp_wg, tp_un (by decide)]; exact a1
      · rw [tp_wgn (by omega), tp_wgn (by omega)]; exact a2
      · rw [tp_wgn (by omega), tp_wg]
      · rw [tp_wgn (by omega), tp_wgn (by omega)]; exact a4
      · rw [tp_wg, tp_us]; rfl
      · intro i hi; exact absurd hi (Nat.not_lt_zero i)
      · rw [tp_wgn (by omega), tp_wgn (by omega)]; exact a7
      · rw [tp_wgn (by omega), tp_wgn (by omega)]; exact a8
end TQE
