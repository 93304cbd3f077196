/-! What the class's mine does at a command. -/
def tp_Cm (b q : Nat) (A B C D : Int32) (u : tl_S) : Prop := u.1 b 0 = nI q ∧ u.1 b 1 = A ∧ u.1 b 2 = B ∧ u.1 b 3 = C ∧ u.1 b 4 = D
theorem tc_ref {X Y Z : Int32} {w : tl_S} (e i p : Bool) {t : Nat} (hX : X = tp_b01 e) (hY : Y = tp_b01 i) (hZ : Z = tp_b01 p) (ht : tp_ro e i p = t) : tl_b2 (f9_refusalOf X Y Z w) (fun x10 u9 => some (x10, u9)) = some (nI t, w) := by
  rw [hX, hY, hZ, tc_refusal, ht, tp_b2S]
theorem tc_refB {α : Type} {c : Prop} [Decidable c] {x y z : α} (h1 : c → x = z) (h2 : ¬ c → y = z) : (if c then x else y) = z := by
  split
  · exact h1 ‹_›
  · exact h2 ‹_›
section TPA
variable {a b : Nat} {r : tp_R} {u0 u : tl_S} {A B C D : Int32}

theorem tc_refusal1 (h : tp_P u0 a r u) (hr : tp_rng r) (hc : tp_Cm b 1 A B C D u) : f5_refusal a b u = some (nI (tp_rf 1 A B C D r), u) := by
  obtain ⟨c0, c1, c2, c3, c4⟩ := hc
  have e : (nI 1).toInt = ((1 : Nat) : Int) := tp_ti (by decide)
  unfold f5_refusal
  rw [c0, e]
  rw [if_neg (by decide), if_pos (by decide)]
  rw [tc_within, tp_b2S, c1, tq_g0 h]
  refine tc_refB (fun c => ?_) (fun c => ?_)
  · exact tc_ref true (tp_iw A 1 60) false rfl rfl rfl (by unfold tp_rf; rw [if_pos rfl, decide_eq_true c]; rfl)
  · exact tc_ref true (tp_iw A 1 60) true rfl rfl rfl (by unfold tp_rf; rw [if_pos rfl, decide_eq_false c]; rfl)
theorem tc_refusal2 (h : tp_P u0 a r u) (hr : tp_rng r) (hc : tp_Cm b 2 A B C D u) : f5_refusal a b u = some (nI (tp_rf 2 A B C D r), u) := by
  obtain ⟨c0, c1, c2, c3, c4⟩ := hc
  have e : (nI 2).toInt = ((2 : Nat) : Int) := tp_ti (by decide)
  unfold f5_refusal
  rw [c0, e]
  rw [if_neg (by decide), if_neg (by decide), if_pos (by decide)]
  rw [tc_hasGallery h, tp_b2S, tc_within, tp_b2S, c1, c2, tq_g1 h]
  refine tc_refB (fun c => ?_) (fun c => ?_)
  · exact tc_ref (tp_ig r A) (tp_iw B 1 5) false rfl rfl rfl (by unfold tp_rf; rw [if_neg (by decide), if_pos rfl, decide_eq_true c]; rfl)
  · exact tc_ref (tp_ig r A) (tp_iw B 1 5) true rfl rfl rfl (by unfold tp_rf; rw [if_neg (by decide), if_pos rfl, decide_eq_false c]; rfl)
theorem tc_refusal3 (h : tp_P u0 a r u) (hr : tp_rng r) (hc : tp_Cm b 3 A B C D u) : f5_refusal a b u = some (nI (tp_rf 3 A B C D r), u) := by
  obtain ⟨c0, c1, c2, c3, c4⟩ := hc
  have e : (nI 3).toInt = ((3 : Nat) : Int) := tp_ti (by decide)
  unfold f5_refusal
  rw [c0, e]
  rw [if_neg (by decide), if_neg (by decide), if_neg (by decide), if_pos (by decide)]
  have hf : tp_rf 3 A B C D r = tp_ro (tp_im r A && tp_ig r B) true true := by unfold tp_rf; rw [if_neg (by decide), if_neg (by decide), if_pos rfl]
  rw [tc_hasMiner h, tp_b2S, tp_if0, c1, c2]
  refine tc_refB (fun c => ?_) (fun c => ?_)
  · rw [tc_hasGallery h, tp_b2S, tp_if0]
    refine tc_refB (fun d => ?_) (fun d => ?_)
    · exact tc_ref true true true rfl rfl rfl (by rw [hf, c, d]; rfl)
    · exact tc_ref false true true rfl rfl rfl (by rw [hf, Bool.eq_false_iff.mpr d, Bool.and_false])
  · exact tc_ref false true true rfl rfl rfl (by rw [hf, Bool.eq_false_iff.mpr c, Bool.false_and])
theorem tc_refusal4 (h : tp_P u0 a r u) (hr : tp_rng r) (hc : tp_Cm b 4 A B C D u) : f5_refusal a b u = some (nI (tp_rf 4 A B C D r), u) := by
  obtain ⟨c0, c1, c2, c3, c4⟩ := hc
  have e : (nI 4).toInt = ((4 : Nat) : Int) := tp_ti (by decide)
  unfold f5_refusal
  rw [c0, e]
  rw [if_neg (by decide), if_neg (by decide), if_neg (by decide), if_neg (by decide), if_pos (by decide)]
  have hf : tp_rf 4 A B C D r = tp_ro (tp_ic r A B) (tp_iw C 1 9 && tp_iw D 0 99) (!decide (8 ≤ r 2)) := by unfold tp_rf; rw [if_neg (by decide), if_neg (by decide), if_neg (by decide), if_pos rfl]
  rw [tc_hasCell h hr, tp_b2S, tc_within, tp_b2S, tp_if0, c1, c2, c3, c4, tq_g2 h]
  refine tc_refB (fun c => ?_) (fun c => ?_)
  · rw [tc_within, tp_b2S, tp_if0, tq_g2 h]
    refine tc_refB (fun d => ?_) (fun d => ?_)
    · refine tc_refB (fun x => ?_) (fun x => ?_)
      · exact tc_ref (tp_ic r A B) true false rfl rfl rfl (by rw [hf, c, d, decide_eq_true x]; rfl)
      · exact tc_ref (tp_ic r A B) true true rfl rfl rfl (by rw [hf, c, d, decide_eq_false x]; rfl)
    · refine tc_refB (fun x => ?_) (fun x => ?_)
      · exact tc_ref (tp_ic r A B) false false rfl rfl rfl (by rw [hf, c, Bool.eq_false_iff.mpr d, decide_eq_true x]; rfl)
      · exact tc_ref (tp_ic r A B) false true rfl rfl rfl (by rw [hf, c, Bool.eq_false_iff.mpr d, decide_eq_false x]; rfl)
  · refine tc_refB (fun x => ?_) (fun x => ?_)
    · exact tc_ref (tp_ic r A B) false false rfl rfl rfl (by rw [hf, Bool.eq_false_iff.mpr c, decide_eq_true x]; rfl)
    · exact tc_ref (tp_ic r A B) false true rfl rfl rfl (by rw [hf, Bool.eq_false_iff.mpr c, decide_eq_false x]; rfl)
theorem tc_refusal5 (h : tp_P u0 a r u) (hr : tp_rng r) (hc : tp_Cm b 5 A B C D u) : f5_refusal a b u = some (nI (tp_rf 5 A B C D r), u) := by
  obtain ⟨c0, c1, c2, c3, c4⟩ := hc
  have e : (nI 5).toInt = ((5 : Nat) : Int) := tp_ti (by decide)
  unfold f5_refusal
  rw [c0, e]
  rw [if_neg (by decide), if_neg (by decide), if_neg (by decide), if_neg (by decide), if_neg (by decide), if_pos (by decide)]
  have hf : tp_rf 5 A B C D r = tp_ro true (tp_iw A 0 999) (!decide (9999 - r 4 < A)) := by unfold tp_rf; rw [if_neg (by decide), if_neg (by decide), if_neg (by decide), if_neg (by decide), if_pos rfl]
  rw [tc_within, tp_b2S, c1, tq_g4 h]
  refine tc_refB (fun c => ?_) (fun c => ?_)
  · exact tc_ref true (tp_iw A 0 999) false rfl rfl rfl (by rw [hf, decide_eq_true c]; rfl)
  · exact tc_ref true (tp_iw A 0 999) true rfl rfl rfl (by rw [hf, decide_eq_false c]; rfl)
theorem tc_refusal6 (h : tp_P u0 a r u) (hr : tp_rng r) (hc : tp_Cm b 6 A B C D u) : f5_refusal a b u = some (nI (tp_rf 6 A B C D r), u) := by
  obtain ⟨c0, c1, c2, c3, c4⟩ := hc
  have e : (nI 6).toInt = ((6 : Nat) : Int) := tp_ti (by decide)
  unfold f5_refusal
  rw [c0, e]
  rw [if_neg (by decide), if_neg (by decide), if_neg (by decide), if_neg (by decide), if_neg (by decide), if_neg (by decide), if_pos (by decide)]
  have hf : tp_rf 6 A B C D r = tp_ro (tp_il r A && tp_ic r B C) true (!decide (6 ≤ r 8)) := by unfold tp_rf; rw [if_neg (by decide), if_neg (by decide), if_neg (by decide), if_neg (by decide), if_neg (by decide), if_pos rfl]
  rw [tc_hasLamp h, tp_b2S, tp_if0, c1, c2, c3]
  refine tc_refB (fun c => ?_) (fun c => ?_)
  · rw [tc_hasCell h hr, tp_b2S, tp_if0]
    refine tc_refB (fun d => ?_) (fun d => ?_)
    · rw [tc_hasRoom h, tp_b2S]
      exact tc_ref true true (!decide (6 ≤ r 8)) rfl rfl rfl (by rw [hf, c, d]; rfl)
    · rw [tc_hasRoom h, tp_b2S]
      exact tc_ref false true (!decide (6 ≤ r 8)) rfl rfl rfl (by rw [hf, Bool.eq_false_iff.mpr d, Bool.and_false])
  · rw [tc_hasRoom h, tp_b2S]
    exact tc_ref false true (!decide (6 ≤ r 8)) rfl rfl rfl (by rw [hf, Bool.eq_false_iff.mpr c, Bool.false_and])
theorem tc_refusal7 (h : tp_P u0 a r u) (hr : tp_rng r) (hc : tp_Cm b 7 A B C D u) : f5_refusal a b u = some (nI (tp_rf 7 A B C D r), u) := by
  obtain ⟨c0, c1, c2, c3, c4⟩ := hc
  have e : (nI 7).toInt = ((7 : Nat) : Int) := tp_ti (by decide)
  unfold f5_refusal
  rw [c0, e]
  rw [if_neg (by decide), if_neg (by decide), if_neg (by decide), if_neg (by decide), if_neg (by decide), if_neg (by decide), if_neg (by decide), if_pos (by decide)]
  have hf : tp_rf 7 A B C D r = tp_ro (tp_il r A) (tp_iw B 1 99) (!decide (6 ≤ r 8)) := by unfold tp_rf; rw [if_neg (by decide), if_neg (by decide), if_neg (by decide), if_neg (by decide), if_neg (by decide), if_neg (by decide), if_pos rfl]
  rw [tc_hasLamp h, tp_b2S, tc_within, tp_b2S, tc_hasRoom h, tp_b2S, c1, c2]
  exact tc_ref _ _ _ rfl rfl rfl hf.symm
theorem tc_refusal8 (h : tp_P u0 a r u) (hr : tp_rng r) (hc : tp_Cm b 8 A B C D u) : f5_refusal a b u = some (nI (tp_rf 8 A B C D r), u) := by
  obtain ⟨c0, c1, c2, c3, c4⟩ := hc
  have e : (nI 8).toInt = ((8 : Nat) : Int) := tp_ti (by decide)
  unfold f5_refusal
  rw [c0, e]
  rw [if_neg (by decide), if_neg (by decide), if_neg (by decide), if_neg (by decide), if_neg (by decide), if_neg (by decide), if_neg (by decide), if_neg (by decide), if_pos (by decide)]
  have hf : tp_rf 8 A B C D r = tp_ro (tp_io r A) true (!decide (A = 0) || tp_fh r) := by unfold tp_rf; rw [if_neg (by decide), if_neg (by decide), if_neg (by decide), if_neg (by decide), if_neg (by decide), if_neg (by decide), if_neg (by decide), if_pos rfl]
  rw [tc_hasOrder h, tp_b2S, c1]
  refine tc_refB (fun c => ?_) (fun c => ?_)
  · rw [tc_handsFree h, tp_b2S, tp_if0]
    refine tc_refB (fun d => ?_) (fun d => ?_)
    · exact tc_ref (tp_io r A) true true rfl rfl rfl (by rw [hf, d, Bool.or_true])
    · exact tc_ref (tp_io r A) true false rfl rfl rfl (by rw [hf, Bool.eq_false_iff.mpr d, decide_eq_true c]; rfl)
  · exact tc_ref (tp_io r A) true true rfl rfl rfl (by rw [hf, decide_eq_false c]; rfl)
theorem tc_refusal9 (h : tp_P u0 a r u) (hr : tp_rng r) (hc : tp_Cm b 9 A B C D u) : f5_refusal a b u = some (nI (tp_rf 9 A B C D r), u) := by
  obtain ⟨c0, c1, c2, c3, c4⟩ := hc
  have e : (nI 9).toInt = ((9 : Nat) : Int) := tp_ti (by decide)
  unfold f5_refusal
  rw [c0, e]
  rw [if_neg (by decide), if_neg (by decide), if_neg (by decide), if_neg (by decide), if_neg (by decide), if_neg (by decide), if_neg (by decide), if_neg (by decide), if_neg (by decide)]
  have hf : tp_rf 9 A B C D r = tp_ro true (tp_is A B) true := by unfold tp_rf; rw [if_neg (by decide), if_neg (by decide), if_neg (by decide), if_neg (by decide), if_neg (by decide), if_neg (by decide), if_neg (by decide), if_neg (by decide), if_pos rfl]
  rw [tc_isSetting, tp_b2S, c1, c2]
  exact tc_ref true _ true rfl rfl rfl hf.symm
theorem tc_refusal10 (h : tp_P u0 a r u) (hr : tp_rng r) (hc : tp_Cm b 10 A B C D u) : f5_refusal a b u = some (nI (tp_rf 10 A B C D r), u) := by
  obtain ⟨c0, c1, c2, c3, c4⟩ := hc
  have e : (nI 10).toInt = ((10 : Nat) : Int) := tp_ti (by decide)
  unfold f5_refusal
  rw [c0, e]
  rw [if_pos (by decide)]
  have hf : tp_rf 10 A B C D r = tp_ro true (tp_iw A 1 60) true := by unfold tp_rf; rw [if_neg (by decide), if_neg (by decide), if_neg (by decide), if_neg (by decide), if_neg (by decide), if_neg (by decide), if_neg (by decide), if_neg (by decide), if_neg (by decide)]
  rw [tc_within, tp_b2S, c1]
  exact tc_ref true _ true rfl rfl rfl hf.symm
theorem tc_refuse {q : Nat} (h : tp_P u0 a r u) (hr : tp_rng r) (h1 : 1 ≤ q) (h2 : q ≤ 10) (hc : tp_Cm b q A B C D u) : f5_refusal a b u = some (nI (tp_rf q A B C D r), u) := by
  have : q = 1 ∨ q = 2 ∨ q = 3 ∨ q = 4 ∨ q = 5 ∨ q = 6 ∨ q = 7 ∨ q = 8 ∨ q = 9 ∨ q = 10 := by omega
  rcases this with rfl | rfl | rfl | rfl | rfl | rfl | rfl | rfl | rfl | rfl
  · exact tc_refusal1 h hr hc
  · exact tc_refusal2 h hr hc
  · exact tc_refusal3 h hr hc
  · exact tc_refusal4 h hr hc
  · exact tc_refusal5 h hr hc
  · exact tc_refusal6 h hr hc
  · exact tc_refusal7 h hr hc
  · exact tc_refusal8 h hr hc
  · exact tc_refusal9 h hr hc
  · exact tc_refusal10 h hr hc
theorem tc_addGallery (h : tp_P u0 a r u) (hr : tp_rng r) (c : tp_cl (r 0) < 3) : tp_T (f5_addGallery a A u) (fun p => p.1 = r 0 ∧ tp_P u0 a (tp_ga A r) p.2) := by
  obtain ⟨n, n2, n1, n3⟩ := tp_xx (tp_r0 hr)
  unfold tp_cl at c
  rw [n3] at c
  have c' : r 0 < 3 := by rw [n1, tp_k3, tp_lt (by omega) (by decide)]; exact c
  unfold f5_addGallery
  rw [tq_g0 h, if_pos c', n1, tl_gs (tp_ix c (by omega)), tp_cn (by omega)]
  refine tq_pG0 h c (fun v1 h1 => ?_)
  refine tq_pG1 h1 c (fun v2 h2 => ?_)
  refine tq_p0 h2 (fun v3 h3 => ?_)
  rw [tq_g0 h2, tp_un (by omega), tp_un (by omega)] at h3
  rw [tq_g0 h3, tp_us, n1, Int32.add_sub_cancel]
  refine tp_ret ⟨rfl, tp_P_eq h3 ?_⟩
  unfold tp_ga tp_cl
  rw [n3]
theorem tc_addMiner (h : tp_P u0 a r u) (hr : tp_rng r) (c : tp_cl (r 1) < 6) : tp_T (f5_addMiner a A B u) (fun p => p.1 = r 1 ∧ tp_P u0 a (tp_mi A B r) p.2) := by
  obtain ⟨n, n2, n1, n3⟩ := tp_xx (tp_r1 hr)
  unfold tp_cl at c
  rw [n3] at c
  have c' : r 1 < 6 := by rw [n1, tp_k6, tp_lt (by omega) (by decide)]; exact c
  unfold f5_addMiner
  rw [tq_g1 h, if_pos c', n1, tl_gs (tp_ix c (by omega)), tp_cn (by omega)]
  refine tq_pM0 h c (fun v1 h1 => ?_)
  refine tq_pM1 h1 c (fun v2 h2 => ?_)
  refine tq_pM2 h2 c (fun v3 h3 => ?_)
  refine tq_pM3 h3 c (fun v4 h4 => ?_)
  refine tq_p1 h4 (fun v5 h5 => ?_)
  rw [tq_g1 h4, tp_un (by omega), tp_un (by omega), tp_un (by omega), tp_un (by omega)] at h5
  rw [tq_g1 h5, tp_us, n1, Int32.add_sub_cancel]
  refine tp_ret ⟨rfl, tp_P_eq h5 ?_⟩
  unfold tp_mi tp_cl
  rw [n3]
theorem tc_addLamp (h : tp_P u0 a r u) (hr : tp_rng r) (c : tp_cl (r 2) < 8) : tp_T (f5_addLamp a A B C D u) (fun p => p.1 = r 2 ∧ tp_P u0 a (tp_la A B C D r) p.2) := by
  obtain ⟨n, n2, n1, n3⟩ := tp_xx (tp_r2 hr)
  unfold tp_cl at c
  rw [n3] at c
  have c' : r 2 < 8 := by rw [n1, tp_k8, tp_lt (by omega) (by decide)]; exact c
  unfold f5_addLamp
  rw [tq_g2 h, if_pos c', n1, tl_gs (tp_ix c (by omega)), tp_cn (by omega)]
  refine tq_pL2 h c (fun v1 h1 => ?_)
  refine tq_pL3 h1 c (fun v2 h2 => ?_)
  refine tq_pL0 h2 c (fun v3 h3 => ?_)
  refine tq_pL1 h3 c (fun v4 h4 => ?_)
  refine tq_p7 h4 (fun v5 h5 => ?_)
  rw [tq_g7 h4, tp_un (by omega), tp_un (by omega), tp_un (by omega), tp_un (by omega)] at h5
  refine tq_p2 h5 (fun v6 h6 => ?_)
  rw [tq_g2 h5, tp_un (by omega), tp_un (by omega), tp_un (by omega), tp_un (by omega), tp_un (by omega)] at h6
  rw [tq_g2 h6, tp_us, n1, Int32.add_sub_cancel]
  refine tp_ret ⟨rfl, tp_P_eq h6 ?_⟩
  unfold tp_la tp_cl
  rw [n3, n1]
  rw [tp_uc (r := tp_up (tp_up r (50 + 4 * n) A) (51 + 4 * n) B) (i := 48 + 4 * n) (j := 49 + 4 * n) (by omega)]
  rw [tp_uc (r := tp_up r (50 + 4 * n) A) (i := 51 + 4 * n) (j := 49 + 4 * n) (by omega), tp_uc (r := r) (i := 50 + 4 * n) (j := 49 + 4 * n) (by omega)]
  rw [tp_uc (i := 51 + 4 * n) (j := 48 + 4 * n) (by omega), tp_uc (i := 50 + 4 * n) (j := 48 + 4 * n) (by omega), tp_uc (i := 49 + 4 * n) (j := 48 + 4 * n) (by omega)]
theorem tc_bringOil (h : tp_P u0 a r u) : tp_T (f5_bringOil a A u) (fun p => p.1 = r 4 + A ∧ tp_P u0 a (tp_so A r) p.2) := by
  unfold f5_bringOil
  refine tq_p4 h (fun v1 h1 => ?_)
  rw [tq_g4 h] at h1
  refine tq_p7 h1 (fun v2 h2 => ?_)
  rw [tq_g7 h1, tp_un (by omega)] at h2
  rw [tq_g4 h2, tp_un (by omega), tp_us]
  exact tp_ret ⟨rfl, h2⟩
theorem tc_setting (h : tp_P u0 a r u) : tp_T (f5_changeSetting a A B u) (fun p => p.1 = (if A = 0 then r 16 else r 17) ∧ tp_P u0 a (tp_sg A B r) p.2) := by
  unfold f5_changeSetting tp_sg
  by_cases c : A = 0
  · rw [if_pos c, if_pos c, if_pos c, tp_L, if_pos c, tq_g16 h]
    exact tq_p16 h (fun v1 h1 => tp_ret ⟨rfl, h1⟩)
  · rw [if_neg c, if_neg c, if_neg c, tp_L, if_neg c, tq_g17 h]
    exact tq_p17 h (fun v1 h1 => tp_ret ⟨rfl, h1⟩)
theorem tc_send (h : tp_P u0 a r u) (hr : tp_rng r) (c : tp_im r A = true) : tp_T (f5_sendMiner a A B u) (fun p => p.1 = r (24 + 4 * tp_cl A) ∧ tp_P u0 a (tp_up r (24 + 4 * tp_cl A) B) p.2) := by
  obtain ⟨n, n1, rfl⟩ := (tp_im_N hr).mp c
  have b1 := (tp_r1 hr).2
  have hn : n < 6 := by omega
  have hcl : tp_cl (nI n) = n := tp_cn (by omega)
  unfold f5_sendMiner
  rw [tc_hasMiner h, tp_b2S, tp_if0, if_pos c, tl_gs (tp_ix hn (by omega)), tp_L, tl_gs (tp_ix hn (by omega)), tp_cn (by omega), tq_gM0 h hn, hcl]
  exact tq_pM0 h hn (fun v1 h1 => tp_ret ⟨rfl, h1⟩)

theorem tc_perform1 (h : tp_P u0 a r u) (hk : tp_Ok r) (hc : tp_Cm b 1 A B C D u) (hf : tp_rf 1 A B C D r = 0) : tp_T (f5_perform a b u) (fun p => p.1 = tp_pa 1 A B r ∧ tp_P u0 a (tp_pf 1 A B C D r) p.2) := by
  obtain ⟨c0, c1, c2, c3, c4⟩ := hc
  have e : (nI 1).toInt = ((1 : Nat) : Int) := tp_ti (by decide)
  have ep : tp_pf 1 A B C D r = tp_ga A r := by unfold tp_pf; rw [if_pos rfl]
  have ea : tp_pa 1 A B r = r 0 := by unfold tp_pa; rw [if_pos rfl]
  unfold f5_perform
  rw [c0, e, ep, ea]
  rw [if_neg (by decide), if_pos (by decide)]
  rw [c1]
  exact tp_b2 (tc_addGallery h hk.1 ((tp_ge_N (tp_r0 hk.1).1 (by have := (tp_r0 hk.1).2; omega) tp_k3 (by decide)).mp (tp_rf1.mp hf).2)) (fun _ _ q => tp_ret q)
theorem tc_perform2 (h : tp_P u0 a r u) (hk : tp_Ok r) (hc : tp_Cm b 2 A B C D u) (hf : tp_rf 2 A B C D r = 0) : tp_T (f5_perform a b u) (fun p => p.1 = tp_pa 2 A B r ∧ tp_P u0 a (tp_pf 2 A B C D r) p.2) := by
  obtain ⟨c0, c1, c2, c3, c4⟩ := hc
  have e : (nI 2).toInt = ((2 : Nat) : Int) := tp_ti (by decide)
  have ep : tp_pf 2 A B C D r = tp_mi A B r := by unfold tp_pf; rw [if_neg (by decide), if_pos rfl]
  have ea : tp_pa 2 A B r = r 1 := by unfold tp_pa; rw [if_neg (by decide), if_pos rfl]
  unfold f5_perform
  rw [c0, e, ep, ea]
  rw [if_neg (by decide), if_neg (by decide), if_pos (by decide)]
  rw [c1, c2]
  exact tp_b2 (tc_addMiner h hk.1 ((tp_ge_N (tp_r1 hk.1).1 (by have := (tp_r1 hk.1).2; omega) tp_k6 (by decide)).mp (tp_rf2.mp hf).2.2)) (fun _ _ q => tp_ret q)
theorem tc_perform3 (h : tp_P u0 a r u) (hk : tp_Ok r) (hc : tp_Cm b 3 A B C D u) (hf : tp_rf 3 A B C D r = 0) : tp_T (f5_perform a b u) (fun p => p.1 = tp_pa 3 A B r ∧ tp_P u0 a (tp_pf 3 A B C D r) p.2) := by
  obtain ⟨c0, c1, c2, c3, c4⟩ := hc
  have e : (nI 3).toInt = ((3 : Nat) : Int) := tp_ti (by decide)
  have ep : tp_pf 3 A B C D r = tp_up r (24 + 4 * tp_cl A) B := by unfold tp_pf; rw [if_neg (by decide), if_neg (by decide), if_pos rfl]
  have ea : tp_pa 3 A B r = r (24 + 4 * tp_cl A) := by unfold tp_pa; rw [if_neg (by decide), if_neg (by decide), if_pos rfl]
  unfold f5_perform
  rw [c0, e, ep, ea]
  rw [if_neg (by decide), if_neg (by decide), if_neg (by decide), if_pos (by decide)]
  rw [c1, c2]
  have := tp_rf3.mp hf
  rw [Bool.and_eq_true] at this
  exact tp_b2 (tc_send h hk.1 this.1) (fun _ _ q => tp_ret q)
theorem tc_perform4 (h : tp_P u0 a r u) (hk : tp_Ok r) (hc : tp_Cm b 4 A B C D u) (hf : tp_rf 4 A B C D r = 0) : tp_T (f5_perform a b u) (fun p => p.1 = tp_pa 4 A B r ∧ tp_P u0 a (tp_pf 4 A B C D r) p.2) := by
  obtain ⟨c0, c1, c2, c3, c4⟩ := hc
  have e : (nI 4).toInt = ((4 : Nat) : Int) := tp_ti (by decide)
  have ep : tp_pf 4 A B C D r = tp_la A B C D r := by unfold tp_pf; rw [if_neg (by decide), if_neg (by decide), if_neg (by decide), if_pos rfl]
  have ea : tp_pa 4 A B r = r 2 := by unfold tp_pa; rw [if_neg (by decide), if_neg (by decide), if_neg (by decide), if_pos rfl]
  unfold f5_perform
  rw [c0, e, ep, ea]
  rw [if_neg (by decide), if_neg (by decide), if_neg (by decide), if_neg (by decide), if_pos (by decide)]
  rw [c1, c2, c3, c4]
  exact tp_b2 (tc_addLamp h hk.1 ((tp_ge_N (tp_r2 hk.1).1 (by have := (tp_r2 hk.1).2; omega) tp_k8 (by decide)).mp (tp_rf4.mp hf).2.2)) (fun _ _ q => tp_ret q)
theorem tc_perform5 (h : tp_P u0 a r u) (hk : tp_Ok r) (hc : tp_Cm b 5 A B C D u) (hf : tp_rf 5 A B C D r = 0) : tp_T (f5_perform a b u) (fun p => p.1 = tp_pa 5 A B r ∧ tp_P u0 a (tp_pf 5 A B C D r) p.2) := by
  obtain ⟨c0, c1, c2, c3, c4⟩ := hc
  have e : (nI 5).toInt = ((5 : Nat) : Int) := tp_ti (by decide)
  have ep : tp_pf 5 A B C D r = tp_so A r := by unfold tp_pf; rw [if_neg (by decide), if_neg (by decide), if_neg (by decide), if_neg (by decide), if_pos rfl]
  have ea : tp_pa 5 A B r = r 4 + A := by unfold tp_pa; rw [if_neg (by decide), if_neg (by decide), if_neg (by decide), if_neg (by decide), if_pos rfl]
  unfold f5_perform
  rw [c0, e, ep, ea]
  rw [if_neg (by decide), if_neg (by decide), if_neg (by decide), if_neg (by decide), if_neg (by decide), if_pos (by decide)]
  rw [c1]
  exact tp_b2 (tc_bringOil h) (fun _ _ q => tp_ret q)
theorem tc_perform6 (h : tp_P u0 a r u) (hk : tp_Ok r) (hc : tp_Cm b 6 A B C D u) (hf : tp_rf 6 A B C D r = 0) : tp_T (f5_perform a b u) (fun p => p.1 = tp_pa 6 A B r ∧ tp_P u0 a (tp_pf 6 A B C D r) p.2) := by
  obtain ⟨c0, c1, c2, c3, c4⟩ := hc
  have e : (nI 6).toInt = ((6 : Nat) : Int) := tp_ti (by decide)
  have ep : tp_pf 6 A B C D r = tp_oo r 0 A B C := by unfold tp_pf; rw [if_neg (by decide), if_neg (by decide), if_neg (by decide), if_neg (by decide), if_neg (by decide), if_pos rfl]
  have ea : tp_pa 6 A B r = r 8 + 1 := by unfold tp_pa; rw [if_neg (by decide), if_neg (by decide), if_neg (by decide), if_neg (by decide), if_neg (by decide), if_pos rfl]
  unfold f5_perform
  rw [c0, e, ep, ea]
  rw [if_neg (by decide), if_neg (by decide), if_neg (by decide), if_neg (by decide), if_neg (by decide), if_neg (by decide), if_pos (by decide)]
  rw [c1, c2, c3]
  have := tp_rf6.mp hf
  rw [Bool.and_eq_true, Bool.and_eq_true] at this
  exact tp_b2 (tc_addHang h hk.1 ((tp_ge_N (tp_r8 hk.1).1 (by have := (tp_r8 hk.1).2; omega) tp_k6 (by decide)).mp this.2)) (fun _ _ q => tp_ret q)
theorem tc_perform7 (h : tp_P u0 a r u) (hk : tp_Ok r) (hc : tp_Cm b 7 A B C D u) (hf : tp_rf 7 A B C D r = 0) : tp_T (f5_perform a b u) (fun p => p.1 = tp_pa 7 A B r ∧ tp_P u0 a (tp_pf 7 A B C D r) p.2) := by
  obtain ⟨c0, c1, c2, c3, c4⟩ := hc
  have e : (nI 7).toInt = ((7 : Nat) : Int) := tp_ti (by decide)
  have ep : tp_pf 7 A B C D r = tp_oo r 1 A B (-1) := by unfold tp_pf; rw [if_neg (by decide), if_neg (by decide), if_neg (by decide), if_neg (by decide), if_neg (by decide), if_neg (by decide), if_pos rfl]
  have ea : tp_pa 7 A B r = r 8 + 1 := by unfold tp_pa; rw [if_neg (by decide), if_neg (by decide), if_neg (by decide), if_neg (by decide), if_neg (by decide), if_neg (by decide), if_pos rfl]
  unfold f5_perform
  rw [c0, e, ep, ea]
  rw [if_neg (by decide), if_neg (by decide), if_neg (by decide), if_neg (by decide), if_neg (by decide), if_neg (by decide), if_neg (by decide), if_pos (by decide)]
  rw [c1, c2]
  have := tp_rf7.mp hf
  rw [Bool.and_eq_true, Bool.and_eq_true] at this
  exact tp_b2 (tc_addFill h hk.1 ((tp_ge_N (tp_r8 hk.1).1 (by have := (tp_r8 hk.1).2; omega) tp_k6 (by decide)).mp this.2)) (fun _ _ q => tp_ret q)
theorem tc_perform8 (h : tp_P u0 a r u) (hk : tp_Ok r) (hc : tp_Cm b 8 A B C D u) (hf : tp_rf 8 A B C D r = 0) : tp_T (f5_perform a b u) (fun p => p.1 = tp_pa 8 A B r ∧ tp_P u0 a (tp_pf 8 A B C D r) p.2) := by
  obtain ⟨c0, c1, c2, c3, c4⟩ := hc
  have e : (nI 8).toInt = ((8 : Nat) : Int) := tp_ti (by decide)
  have ep : tp_pf 8 A B C D r = tp_dr A r := by unfold tp_pf; rw [if_neg (by decide), if_neg (by decide), if_neg (by decide), if_neg (by decide), if_neg (by decide), if_neg (by decide), if_neg (by decide), if_pos rfl]
  have ea : tp_pa 8 A B r = r 8 - 1 := by unfold tp_pa; rw [if_neg (by decide), if_neg (by decide), if_neg (by decide), if_neg (by decide), if_neg (by decide), if_neg (by decide), if_neg (by decide), if_pos rfl]
  unfold f5_perform
  rw [c0, e, ep, ea]
  rw [if_neg (by decide), if_neg (by decide), if_neg (by decide), if_neg (by decide), if_neg (by decide), if_neg (by decide), if_neg (by decide), if_neg (by decide), if_pos (by decide)]
  rw [c1]
  have hf' : tp_ro (tp_io r A) true (!decide (A = 0) || tp_fh r) = 0 := by
    unfold tp_rf at hf
    rw [if_neg (by decide), if_neg (by decide), if_neg (by decide), if_neg (by decide), if_neg (by decide), if_neg (by decide), if_neg (by decide), if_pos rfl] at hf
    exact hf
  obtain ⟨n, n1, rfl⟩ := (tp_io_N hk.1).mp (tp_ro0.mp hf').1
  exact tp_b2 (tc_remove h hk.1 n1) (fun _ _ q => tp_ret q)
theorem tc_perform9 (h : tp_P u0 a r u) (hk : tp_Ok r) (hc : tp_Cm b 9 A B C D u) (hf : tp_rf 9 A B C D r = 0) : tp_T (f5_perform a b u) (fun p => p.1 = tp_pa 9 A B r ∧ tp_P u0 a (tp_pf 9 A B C D r) p.2) := by
  obtain ⟨c0, c1, c2, c3, c4⟩ := hc
  have e : (nI 9).toInt = ((9 : Nat) : Int) := tp_ti (by decide)
  have ep : tp_pf 9 A B C D r = tp_sg A B r := by unfold tp_pf; rw [if_neg (by decide), if_neg (by decide), if_neg (by decide), if_neg (by decide), if_neg (by decide), if_neg (by decide), if_neg (by decide), if_neg (by decide), if_pos rfl]
  have ea : tp_pa 9 A B r = if A = 0 then r 16 else r 17 := by unfold tp_pa; rw [if_neg (by decide), if_neg (by decide), if_neg (by decide), if_neg (by decide), if_neg (by decide), if_neg (by decide), if_neg (by decide), if_neg (by decide), if_pos rfl]
  unfold f5_perform
  rw [c0, e, ep, ea]
  rw [if_neg (by decide), if_neg (by decide), if_neg (by decide), if_neg (by decide), if_neg (by decide), if_neg (by decide), if_neg (by decide), if_neg (by decide), if_neg (by decide)]
  rw [c1, c2]
  exact tp_b2 (tc_setting h) (fun _ _ q => tp_ret q)
theorem tc_perform10 (h : tp_P u0 a r u) (hk : tp_Ok r) (hc : tp_Cm b 10 A B C D u) (hf : tp_rf 10 A B C D r = 0) : tp_T (f5_perform a b u) (fun p => p.1 = tp_pa 10 A B r ∧ tp_P u0 a (tp_pf 10 A B C D r) p.2) := by
  obtain ⟨c0, c1, c2, c3, c4⟩ := hc
  have e : (nI 10).toInt = ((10 : Nat) : Int) := tp_ti (by decide)
  have ep : tp_pf 10 A B C D r = tp_hrs (tp_cl A) r := by unfold tp_pf; rw [if_neg (by decide), if_neg (by decide), if_neg (by decide), if_neg (by decide), if_neg (by decide), if_neg (by decide), if_neg (by decide), if_neg (by decide), if_neg (by decide)]
  have ea : tp_pa 10 A B r = tp_hrs (tp_cl A) r 10 - r 10 := by unfold tp_pa; rw [if_neg (by decide), if_neg (by decide), if_neg (by decide), if_neg (by decide), if_neg (by decide), if_neg (by decide), if_neg (by decide), if_neg (by decide), if_neg (by decide)]
  unfold f5_perform
  rw [c0, e, ep, ea]
  rw [if_pos (by decide)]
  rw [c1]
  obtain ⟨n, n1, n2, rfl⟩ := tp_iw_N (L := 1) (B := 60) rfl rfl (by decide) (by decide) (tp_rf10.mp hf)
  have hcl : tp_cl (nI n) = n := tp_cn (by omega)
  rw [hcl]
  exact tp_b2 (tc_hours h hk (by omega)) (fun _ _ q => tp_ret q)
theorem tc_perform {q : Nat} (h : tp_P u0 a r u) (hk : tp_Ok r) (h1 : 1 ≤ q) (h2 : q ≤ 10) (hc : tp_Cm b q A B C D u) (hf : tp_rf q A B C D r = 0) : tp_T (f5_perform a b u) (fun p => p.1 = tp_pa q A B r ∧ tp_P u0 a (tp_pf q A B C D r) p.2) := by
  have : q = 1 ∨ q = 2 ∨ q = 3 ∨ q = 4 ∨ q = 5 ∨ q = 6 ∨ q = 7 ∨ q = 8 ∨ q = 9 ∨ q = 10 := by omega
  rcases this with rfl | rfl | rfl | rfl | rfl | rfl | rfl | rfl | rfl | rfl
  · exact tc_perform1 h hk hc hf
  · exact tc_perform2 h hk hc hf
  · exact tc_perform3 h hk hc hf
  · exact tc_perform4 h hk hc hf
  · exact tc_perform5 h hk hc hf
  · exact tc_perform6 h hk hc hf
  · exact tc_perform7 h hk hc hf
  · exact tc_perform8 h hk hc hf
  · exact tc_perform9 h hk hc hf
  · exact tc_perform10 h hk hc hf
theorem tp_rf_le (q : Nat) (A B C D : Int32) (r : tp_R) : tp_rf q A B C D r ≤ 3 := by
  have : ∀ e i p : Bool, tp_ro e i p ≤ 3 := by decide
  unfold tp_rf
  repeat' split
  all_goals exact this _ _ _
theorem tc_attempt {q : Nat} (h : tp_P u0 a r u) (hk : tp_Ok r) (h1 : 1 ≤ q) (h2 : q ≤ 10) (hc : tp_Cm b q A B C D u) : tp_T (f5_attempt a b u) (fun p => p.1 = tp_b01 (decide (tp_rf q A B C D r = 0)) ∧ tp_P u0 a (tp_tt q A B C D r) p.2) := by
  have le := tp_rf_le q A B C D r
  unfold f5_attempt
  rw [tc_refuse h hk.1 h1 h2 hc, tp_b2S]
  have ee : (nI (tp_rf q A B C D r) = 0) = (tp_rf q A B C D r = 0) := by rw [tp_k0, tp_eq (by omega) (by decide)]
  by_cases c : tp_rf q A B C D r = 0
  · rw [if_pos (ee.mpr c), decide_eq_true c]
    refine tp_b2 (tc_perform h hk h1 h2 hc c) (fun x v hv => tp_ret ⟨rfl, ?_⟩)
    rw [tp_tt_p c]
    exact hv.2
  · rw [if_neg (fun z => c (ee.mp z)), decide_eq_false c]
    refine tp_ret ⟨rfl, ?_⟩
    rw [tp_tt_n c]
    exact h
def tp_ps (q : Nat) (A B : Int32) (r : tp_R) : Bool :=
  if q = 11 then tp_ig r A && (tp_lit r A (r (18 + 2 * tp_cl A)) == decide (B = 1))
  else if q = 12 then tp_ig r A && !decide (r (18 + 2 * tp_cl A) < B)
  else if q = 13 then tp_il r A && !decide (r (49 + 4 * tp_cl A) < B)
  else !decide (A < r 8)
theorem tc_passes {q : Nat} (h : tp_P u0 a r u) (hr : tp_rng r) (h1 : 11 ≤ q) (h2 : q ≤ 14) (hc : tp_Cm b q A B C D u) : f5_passes a b u = some (tp_b01 (tp_ps q A B r), u) := by
  obtain ⟨c0, c1, c2, c3, c4⟩ := hc
  have b0 := (tp_r0 hr).2
  have b2 := (tp_r2 hr).2
  unfold f5_passes tp_ps
  rw [c0, c1]
  have : q = 11 ∨ q = 12 ∨ q = 13 ∨ q = 14 := by omega
  rcases this with rfl | rfl | rfl | rfl
  · have e : (nI 11).toInt = ((11 : Nat) : Int) := tp_ti (by decide)
    rw [e, if_neg (by decide), if_pos (by decide), if_pos rfl, tc_hasGallery h, tp_b2S, tp_if0]
    rcases eg : tp_ig r A with _ | _
    · rw [if_neg (by decide)]; rfl
    · obtain ⟨n, n1, rfl⟩ := (tp_ig_N hr).mp eg
      have hn : n < 3 := by omega
      have hcl : tp_cl (nI n) = n := tp_cn (by omega)
      rw [if_pos rfl, c1, tl_gs (tp_ix hn (by omega)), tp_cn (by omega), tq_gG0 h hn, tc_isLit h hr, tp_b2S, hcl, Bool.true_and, c2, tp_if1, tp_if0]
      by_cases d : B = 1
      · rw [if_pos d, decide_eq_true d]
        cases tp_lit r (nI n) (r (18 + 2 * n)) <;> rfl
      · rw [if_neg d, decide_eq_false d]
        cases tp_lit r (nI n) (r (18 + 2 * n)) <;> rfl
  · have e : (nI 12).toInt = ((12 : Nat) : Int) := tp_ti (by decide)
    rw [e, if_neg (by decide), if_neg (by decide), if_pos (by decide), if_neg (by decide), if_pos rfl, tc_hasGallery h, tp_b2S, tp_if0]
    rcases eg : tp_ig r A with _ | _
    · rw [if_neg (by decide)]; rfl
    · obtain ⟨n, n1, rfl⟩ := (tp_ig_N hr).mp eg
      have hn : n < 3 := by omega
      have hcl : tp_cl (nI n) = n := tp_cn (by omega)
      rw [if_pos rfl, c1, tl_gs (tp_ix hn (by omega)), tp_cn (by omega), tq_gG0 h hn, c2, hcl, Bool.true_and]
      by_cases d : r (18 + 2 * n) < B
      · rw [if_pos d, decide_eq_true d]; rfl
      · rw [if_neg d, decide_eq_false d]; rfl
  · have e : (nI 13).toInt = ((13 : Nat) : Int) := tp_ti (by decide)
    rw [e, if_neg (by decide), if_neg (by decide), if_neg (by decide), if_neg (by decide), if_neg (by decide), if_pos rfl, tc_hasLamp h, tp_b2S, tp_if0]
    rcases eg : tp_il r A with _ | _
    · rw [if_neg (by decide)]; rfl
    · obtain ⟨n, n1, rfl⟩ := (tp_il_N hr).mp eg
      have hn : n < 8 := by omega
      have hcl : tp_cl (nI n) = n := tp_cn (by omega)
      rw [if_pos rfl, c1, tl_gs (tp_ix hn (by omega)), tp_cn (by omega), tq_gL1 h hn, c2, hcl, Bool.true_and]
      by_cases d : r (49 + 4 * n) < B
      · rw [if_pos d, decide_eq_true d]; rfl
      · rw [if_neg d, decide_eq_false d]; rfl
  · have e : (nI 14).toInt = ((14 : Nat) : Int) := tp_ti (by decide)
    rw [e, if_pos (by decide), tq_g8 h, if_neg (show ¬ 14 = 11 by decide), if_neg (show ¬ 14 = 12 by decide), if_neg (show ¬ 14 = 13 by decide)]
    by_cases d : A < r 8
    · rw [if_pos d, decide_eq_true d]; rfl
    · rw [if_neg d, decide_eq_false d]; rfl
end TPA
