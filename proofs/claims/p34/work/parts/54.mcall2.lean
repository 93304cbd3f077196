/-! The class's calls: what would be, scripts, slots. -/
section TQF
variable {z len : Nat} {tx now now2 : tp_R} {hn : Nat} {hist : Nat → tp_R} {sl : Nat → Bool} {kp : Nat → tp_R} {u v w : tl_S} {r : tp_R}
def tp_LS2 (z q : Nat) : Prop := q = z + 3 ∨ (z + 62 ≤ q ∧ q < z + 91)
/-- the copy holds r -/
def tp_LI (z : Nat) (u : tl_S) (r : tp_R) (v : tl_S) : Prop := tp_FR (tp_LS2 z) u v ∧ tp_Mn (z + 62) r v
theorem tp_LI_CI (h : tp_CI z len tx now hn hist sl kp u) (hv : tp_LI z u r v) : tp_CI z len tx now hn hist sl kp v := tp_CI_cp h hv.1 (fun _ q => q) hv.2.2.1
theorem tp_LI_FR (hv : tp_LI z u r v) : tp_FR (tp_ZS z) u v := tp_FR_m hv.1 (by unfold tp_LS2 tp_ZS; intro q; omega)
theorem tp_LI_P {q : tp_R} (hv : tp_LI z u r v) (hw : tp_P v (z + 62) q w) : tp_LI z u q w := ⟨tp_FR_tr hv.1 (tp_FR_m (tp_FR_A hw.2) (by unfold tp_LS2; intro q; omega)), hw.1⟩
theorem tp_LI_B (hv : tp_LI z u r v) (hw : tp_FB (z + 3) v w) : tp_LI z u r w := by
  have F := tp_FR_B hw
  exact ⟨tp_FR_tr hv.1 (tp_FR_m F (by unfold tp_LS2; intro q; omega)), tp_Mn_FR hv.2 F (by intro q; omega)⟩
theorem tp_LI_CA {x y : Int32} (h : tp_CI z len tx now hn hist sl kp u) (hv : tp_LI z u r v) (e : y = x) : tp_CA z u 0 x len tx now hn hist sl kp (0, y, v) := ⟨rfl, fun _ => e, tp_LI_FR hv, tp_LI_CI h hv⟩
theorem tc_cpy (h : tp_CI z len tx now hn hist sl kp u) (hs : tp_SO len tx now hn hist sl kp) : tp_T (f5_copyFrom (z + 62) (z + 4) u) (tp_LI z u now) :=
  tp_mono (tc_copy h.1.2.2.2.2.1 h.1.2.2.1 hs.2.2.1.1 (by omega)) (fun v hv => ⟨tp_FR_m (tp_FR_A hv.2) (by unfold tp_LS2; intro q; omega), hv.1⟩)
theorem tc_lad (h : tp_CI z len tx now hn hist sl kp u) (hs : tp_SO len tx now hn hist sl kp) {w : Int32} : tp_T (f9_lad z w u) (fun p => if tp_iw w 0 3 = true then tp_CA z u 0 (tp_dq now (tp_cl w)) len tx now hn hist sl kp p else tp_CA z u 2 0 len tx now hn hist sl kp p) := by
  have hP := tp_P_rf h.1.2.2.1
  unfold f9_lad
  rw [tc_within, tp_b2S]
  refine tc_dem true (tp_iw w 0 3) true rfl rfl rfl (fun _ e _ => ?_) (fun hne => ?_)
  · obtain ⟨n, n0, n1, rfl⟩ := tp_iw_N (L := 0) (B := 3) rfl rfl (by decide) (by decide) e
    have hcl : tp_cl (nI n) = n := tp_cn (by omega)
    have e1 : (nI n).toInt = (n : Int) := tp_ti (by omega)
    have fin : ∀ {x : Int32}, x = tp_dq now n → tp_T (some ((0 : Nat), x, u)) (fun p => if tp_iw (nI n) 0 3 = true then tp_CA z u 0 (tp_dq now (tp_cl (nI n))) len tx now hn hist sl kp p else tp_CA z u 2 0 len tx now hn hist sl kp p) := by
      intro x hx
      refine tp_ret ?_
      show (if tp_iw (nI n) 0 3 = true then _ else _ : Prop)
      rw [if_pos e, hcl]
      exact tp_CAs h hx
    rw [e1]
    have : n = 0 ∨ n = 1 ∨ n = 2 ∨ n = 3 := by omega
    rcases this with rfl | rfl | rfl | rfl
    · rw [if_neg (by decide), if_pos (by decide)]
      exact fin (show _ = now 11 from tq_g11 hP)
    · rw [if_neg (by decide), if_neg (by decide), if_pos (by decide)]
      exact fin (show _ = now 12 from tq_g12 hP)
    · rw [if_neg (by decide), if_neg (by decide), if_neg (by decide)]
      exact fin (show _ = now 13 from tq_g13 hP)
    · rw [if_pos (by decide)]
      refine tp_b (tc_cpy h hs) (fun v hv => ?_)
      refine tp_b2 (tc_works (m := 1440) (tp_P_rf hv.2) hs.2.2.1 (by decide)) (fun x w hw => ?_)
      refine tp_ret ?_
      show (if tp_iw (nI 3) 0 3 = true then _ else _ : Prop)
      rw [if_pos e, hcl]
      exact tp_LI_CA h (tp_LI_P hv hw.2) hw.1
  · rcases e : tp_iw w 0 3 with _ | _
    · exact tp_CAn (t := 2) h (by decide)
    · rw [e] at hne; exact absurd rfl hne
theorem tp_hrs1 (r : tp_R) : tp_hrs 1 r = tp_hour r := tp_hrs_s 0 r
theorem tc_dark_l {g : Nat} (hg : g < 3) : ∀ (f n i : Nat) (r : tp_R) (v : tl_S), tp_LI z u r v → tp_Ok r → i + n = 201 → n < f → tp_T (f9_darkIn_p26 f z (nI g) (nI i) v) (fun p => p.1 = 0 ∧ p.2.1 = tp_dkn g n i r ∧ ∃ q, tp_LI z u q p.2.2)
  | 0, _, _, _, _, _, _, _, h => absurd h (Nat.not_lt_zero _)
  | f + 1, n, i, r, v, h, hk, hi, hf => by
    unfold f9_darkIn_p26
    have el : (200 < nI i) = (200 < i) := by rw [tp_k200, tp_lt (by decide) (by omega)]
    rcases n with _ | n
    · rw [if_pos (el.mpr (by omega))]
      exact tp_ret ⟨rfl, rfl, r, h⟩
    · have hP := tp_P_rf h.2
      rw [if_neg (fun z => by have := el.mp z; omega), tl_gs (tp_ix hg (by omega)), tp_cn (by omega), tq_gG0 hP hg, tc_isLit hP hk.1, tp_b2S, tp_if0]
      unfold tp_dkn
      rcases e : tp_lit r (nI g) (r (18 + 2 * g)) with _ | _
      · rw [if_neg (by decide), if_neg (by decide)]
        exact tp_ret ⟨rfl, rfl, r, h⟩
      · rw [if_pos rfl, if_pos rfl]
        refine tp_b2 (tc_hours (n := 1) hP hk (by decide)) (fun x w hw => ?_)
        have hw2 : tp_P v (z + 62) (tp_hrs 1 r) w := hw.2
        rw [tp_hrs1] at hw2
        rw [tp_L, nI_1]
        exact tc_dark_l hg f n (i + 1) (tp_hour r) w (tp_LI_P h hw2) (tp_Ok_hour hk) (by omega) (by omega)
theorem tc_darkIn (h : tp_CI z len tx now hn hist sl kp u) (hs : tp_SO len tx now hn hist sl kp) {g : Int32} : tp_T (f9_darkIn z g u) (fun p => if tp_ig now g = true then tp_CA z u 0 (tp_dkn (tp_cl g) 201 0 now) len tx now hn hist sl kp p else tp_CA z u 1 0 len tx now hn hist sl kp p) := by
  have hP := tp_P_rf h.1.2.2.1
  unfold f9_darkIn
  rw [tc_hasGallery hP, tp_b2S]
  refine tc_dem (tp_ig now g) true true rfl rfl rfl (fun e _ _ => ?_) (fun hne => ?_)
  · obtain ⟨n, n1, rfl⟩ := (tp_ig_N hs.2.2.1.1).mp e
    have b0 := (tp_r0 hs.2.2.1.1).2
    have hcl : tp_cl (nI n) = n := tp_cn (by omega)
    refine tp_b (tc_cpy h hs) (fun v hv => ?_)
    refine tp_mono (tc_dark_l (g := n) (by omega) tl_F 201 0 now v hv hs.2.2.1 (by omega) (by unfold tl_F; omega)) (fun p hp => ?_)
    obtain ⟨p1, p2, q, p3⟩ := hp
    rw [if_pos e, hcl]
    exact ⟨p1, fun _ => p2, tp_LI_FR p3, tp_LI_CI h p3⟩
  · rcases e : tp_ig now g with _ | _
    · exact tp_CAn (t := 1) h (by decide)
    · rw [e] at hne; exact absurd rfl hne
theorem tc_depthIn (h : tp_CI z len tx now hn hist sl kp u) (hs : tp_SO len tx now hn hist sl kp) {g n : Int32} : tp_T (f9_depthIn z g n u) (fun p => if tp_ig now g = true then (if tp_iw n 1 200 = true then tp_CA z u 0 (tp_hrs (tp_cl n) now (18 + 2 * tp_cl g)) len tx now hn hist sl kp p else tp_CA z u 2 0 len tx now hn hist sl kp p) else tp_CA z u 1 0 len tx now hn hist sl kp p) := by
  have hP := tp_P_rf h.1.2.2.1
  unfold f9_depthIn
  rw [tc_hasGallery hP, tp_b2S, tc_within, tp_b2S]
  refine tc_dem (tp_ig now g) (tp_iw n 1 200) true rfl rfl rfl (fun e e2 _ => ?_) (fun hne => ?_)
  · obtain ⟨g, g1, rfl⟩ := (tp_ig_N hs.2.2.1.1).mp e
    obtain ⟨n, n0, n1, rfl⟩ := tp_iw_N (L := 1) (B := 200) rfl rfl (by decide) (by decide) e2
    have b0 := (tp_r0 hs.2.2.1.1).2
    have hg : g < 3 := by omega
    have hcg : tp_cl (nI g) = g := tp_cn (by omega)
    have hcl : tp_cl (nI n) = n := tp_cn (by omega)
    refine tp_b (tc_cpy h hs) (fun v hv => ?_)
    refine tp_b2 (tc_hours (n := n) (tp_P_rf hv.2) hs.2.2.1 (by omega)) (fun x w hw => ?_)
    rw [tl_gs (tp_ix hg (by omega)), tp_cn (by omega)]
    refine tp_ret ?_
    show (if tp_ig now (nI g) = true then (if tp_iw (nI n) 1 200 = true then _ else _) else _ : Prop)
    rw [if_pos e, if_pos e2, hcl, hcg]
    exact tp_LI_CA h (tp_LI_P hv hw.2) (tq_gG0 hw.2 hg)
  · rcases e : tp_ig now g with _ | _
    · exact tp_CAn (t := 1) h (by decide)
    · show (if tp_iw n 1 200 = true then _ else _ : Prop)
      rcases e2 : tp_iw n 1 200 with _ | _
      · exact tp_CAn (t := 2) h (by decide)
      · rw [e, e2] at hne; exact absurd rfl hne
theorem tc_done_l : ∀ (f n i : Nat) (r : tp_R) (v : tl_S), tp_LI z u r v → tp_Ok r → i + n = 201 → n < f → tp_T (f9_doneIn_p21 f z (nI i) v) (fun p => p.1 = tp_dnn n i r ∧ ∃ q, tp_LI z u q p.2)
  | 0, _, _, _, _, _, _, _, h => absurd h (Nat.not_lt_zero _)
  | f + 1, n, i, r, v, h, hk, hi, hf => by
    unfold f9_doneIn_p21
    have el : (200 < nI i) = (200 < i) := by rw [tp_k200, tp_lt (by decide) (by omega)]
    rcases n with _ | n
    · rw [if_pos (el.mpr (by omega))]
      exact tp_ret ⟨rfl, r, h⟩
    · have hP := tp_P_rf h.2
      rw [if_neg (fun z => by have := el.mp z; omega), tq_g8 hP]
      unfold tp_dnn
      by_cases c : r 8 = 0
      · rw [if_pos c, if_pos c]
        exact tp_ret ⟨rfl, r, h⟩
      · rw [if_neg c, if_neg c]
        refine tp_b2 (tc_hours (n := 1) hP hk (by decide)) (fun x w hw => ?_)
        have hw2 : tp_P v (z + 62) (tp_hrs 1 r) w := hw.2
        rw [tp_hrs1] at hw2
        rw [tp_L, nI_1]
        exact tc_done_l f n (i + 1) (tp_hour r) w (tp_LI_P h hw2) (tp_Ok_hour hk) (by omega) (by omega)
theorem tc_doneIn (h : tp_CI z len tx now hn hist sl kp u) (hs : tp_SO len tx now hn hist sl kp) : tp_T (f9_doneIn z u) (fun p => tp_CA z u 0 (tp_dnn 201 0 (tp_up now 17 0)) len tx now hn hist sl kp (0, p.1, p.2)) := by
  unfold f9_doneIn
  refine tp_b (tc_cpy h hs) (fun v hv => ?_)
  refine tq_p17 (tp_P_rf hv.2) (fun w hw => ?_)
  refine tp_mono (tc_done_l tl_F 201 0 _ w (tp_LI_P hv hw) (tp_Ok_up hs.2.2.1 (tp_inN (n := 0) rfl rfl (by decide)) (by unfold tp_fr; omega)) (by omega) (by unfold tl_F; omega)) (fun p hp => ?_)
  obtain ⟨p1, q, p3⟩ := hp
  exact tp_LI_CA h p3 p1
theorem tc_best_l (h : tp_CI z len tx now hn hist sl kp u) (hs : tp_SO len tx now hn hist sl kp) {l g n d : Nat} (hl : l < tp_cl (now 2)) (hg : g < tp_cl (now 0)) (hn1 : n ≤ 100) (h8 : tp_cl (now 8) < 6) (hd : tp_cl (now (18 + 2 * g)) = d) : ∀ (f c : Nat) (v : tl_S), (∃ q, tp_LI z u q v) ∨ v = u → c ≤ d → d - c < f →
    tp_T (f9_bestCell_p56 f z (nI l) (nI g) (nI n) (tp_bc now l g n c).1 (tp_bc now l g n c).2 (nI c) v) (tp_CA z u 0 (tp_bc now l g n d).1 len tx now hn hist sl kp)
  | 0, _, _, _, _, h => absurd h (Nat.not_lt_zero _)
  | f + 1, c, v, hv, hc, hf => by
    have hO := hs.2.2.1
    have b0 := (tp_r0 hO.1).2
    have b2 := (tp_r2 hO.1).2
    have hg3 : g < 3 := by omega
    obtain ⟨d', d2, d1, d3⟩ := tp_xx (tp_rga hO.1 hg3)
    have hdd : d' = d := d3.symm.trans hd
    subst hdd
    have CV : tp_CI z len tx now hn hist sl kp v := by
      rcases hv with ⟨q, hv⟩ | hv
      · exact tp_LI_CI h hv
      · rw [hv]; exact h
    have FV : tp_FR (tp_LS2 z) u v := by
      rcases hv with ⟨q, hv⟩ | hv
      · exact hv.1
      · rw [hv]; exact tp_FR_rf u
    have hP := tp_P_rf CV.1.2.2.1
    unfold f9_bestCell_p56
    have el : (nI d' ≤ nI c) = (d' ≤ c) := tp_le (by omega) (by omega)
    rw [tl_gs (tp_ix hg3 (by omega)), tp_cn (by omega), tq_gG0 hP hg3, d1]
    by_cases e : d' ≤ c
    · rw [if_pos (el.mpr e), show c = d' by omega]
      exact tp_ret ⟨rfl, fun _ => rfl, tp_FR_m FV (by unfold tp_LS2 tp_ZS; intro q; omega), CV⟩
    · rw [if_neg (fun z => e (el.mp z))]
      refine tp_b (tc_cpy CV hs) (fun w hw => ?_)
      have hw' : tp_LI z u now w := ⟨tp_FR_tr FV hw.1, hw.2⟩
      refine tp_b2 (tc_addHang (tp_P_rf hw.2) hO.1 h8) (fun x y hy => ?_)
      have K : tp_Ok (tp_oo now 0 (nI l) (nI g) (nI c)) := tp_Ok_oo hO h8 rfl hl (Or.inl ⟨rfl, g, c, rfl, by omega, rfl, by omega⟩)
      have hy2 : tp_LI z u _ y := tp_LI_P hw' hy.2
      refine tp_b2 (tc_hours (n := n) (tp_P_rf hy2.2) K (by omega)) (fun x2 y2 hy3 => ?_)
      have ex : x2 = tp_bd now l g n c := hy3.1
      have hy4 := tp_LI_P hy2 hy3.2
      have eb : tp_bc now l g n (c + 1) = if tp_bd now l g n c < (tp_bc now l g n c).2 then tp_bc now l g n c else (nI c, tp_bd now l g n c) := rfl
      have ih := tc_best_l h hs hl hg hn1 h8 hd f (c + 1) y2 (Or.inl ⟨_, hy4⟩) (by omega) (by omega)
      rw [eb] at ih
      rw [ex]
      by_cases cc : tp_bd now l g n c < (tp_bc now l g n c).2
      · rw [if_pos cc] at ih
        rw [if_pos cc, tp_L, nI_1]
        exact ih
      · rw [if_neg cc] at ih
        rw [if_neg cc, tp_L, nI_1]
        exact ih
theorem tc_bestCell (h : tp_CI z len tx now hn hist sl kp u) (hs : tp_SO len tx now hn hist sl kp) {l g n : Int32} : tp_T (f9_bestCell z l g n u) (fun p => tp_CA z u (tp_ro (tp_il now l && tp_ig now g) (tp_iw n 1 100) (!decide (6 ≤ now 8))) (tp_bc now (tp_cl l) (tp_cl g) (tp_cl n) (tp_cl (now (18 + 2 * tp_cl g)))).1 len tx now hn hist sl kp p) := by
  have hO := hs.2.2.1
  have hP := tp_P_rf h.1.2.2.1
  have key : ∀ b : Bool, b = (tp_il now l && tp_ig now g) → tp_T (f9_bestCell_p27 z l g n (tp_b01 b) u) (fun p => tp_CA z u (tp_ro (tp_il now l && tp_ig now g) (tp_iw n 1 100) (!decide (6 ≤ now 8))) (tp_bc now (tp_cl l) (tp_cl g) (tp_cl n) (tp_cl (now (18 + 2 * tp_cl g)))).1 len tx now hn hist sl kp p) := by
    intro b hb
    unfold f9_bestCell_p27
    have er := tc_hasRoom hP
    rw [tc_within, tp_b2S, er, tp_b2S]
    refine tc_dem b (tp_iw n 1 100) (!decide (6 ≤ now 8)) rfl rfl rfl (fun e1 e2 e3 => ?_) (fun hne => ?_)
    · rw [e1] at hb
      have hb2 := hb.symm
      rw [Bool.and_eq_true] at hb2
      obtain ⟨L, l1, rfl⟩ := (tp_il_N hO.1).mp hb2.1
      obtain ⟨G, g1, rfl⟩ := (tp_ig_N hO.1).mp hb2.2
      obtain ⟨N, n0, n1, rfl⟩ := tp_iw_N (L := 1) (B := 100) rfl rfl (by decide) (by decide) e2
      have b2 := (tp_r2 hO.1).2
      have b0 := (tp_r0 hO.1).2
      have h8 := (tp_ge_N (tp_r8 hO.1).1 (by have := (tp_r8 hO.1).2; omega) tp_k6 (by decide)).mp e3
      have c1 : tp_cl (nI L) = L := tp_cn (by omega)
      have c2 : tp_cl (nI G) = G := tp_cn (by omega)
      have c3 : tp_cl (nI N) = N := tp_cn (by omega)
      have et : tp_ro (tp_il now (nI L) && tp_ig now (nI G)) (tp_iw (nI N) 1 100) (!decide (6 ≤ now 8)) = 0 := by rw [← hb, e2, e3]; rfl
      rw [et, c1, c2, c3]
      have bd := (tp_rga hO.1 (show G < 3 by omega)).2
      exact tc_best_l h hs l1 g1 n1 h8 rfl tl_F 0 u (Or.inr rfl) (Nat.zero_le _) (by unfold tl_F; omega)
    · rw [hb] at hne ⊢
      exact ⟨rfl, fun z => absurd z hne, tp_FR_rf u, h⟩
  unfold f9_bestCell
  rw [tc_hasLamp hP, tp_b2S, tp_if0]
  rcases e1 : tp_il now l with _ | _
  · rw [e1] at key
    rw [if_neg (by decide)]
    unfold f9_bestCell_p26
    exact key false (by rw [Bool.false_and])
  · rw [e1] at key
    rw [if_pos rfl, tc_hasGallery hP, tp_b2S, tp_if0]
    rcases e2 : tp_ig now g with _ | _
    · rw [e2] at key
      rw [if_neg (by decide)]
      unfold f9_bestCell_p26
      exact key false rfl
    · rw [e2] at key
      rw [if_pos rfl]
      exact key true rfl
theorem tp_cmp_ge (a b : Int64) : (0 ≤ lg_cmp a b) = ¬ (a < b) := by
  rw [← tp_cmp_lt, tp_lei, tp_lti]
  have h0 : (0 : Int32).toInt = 0 := rfl
  exact propext ⟨fun z => by omega, fun z => by omega⟩
theorem tc_numbersOf {j : Nat} (hj : j ≤ 3) {w : tl_S} : f9_numbersOf (nI j) w = some (lN (1000000 ^ j), w) := by
  have : j = 0 ∨ j = 1 ∨ j = 2 ∨ j = 3 := by omega
  rcases this with rfl | rfl | rfl | rfl <;> rfl
theorem tc_script_l {N SS : Nat} (hN : N ≤ 3) (hS : SS < 1000000000000000000) : ∀ (j f k : Nat) (t : tp_R) (v : tl_S), tp_LI z u t v → tp_Ok t → k + j = N → j < f → tp_T (f9_runScript_p48 f z (nI N) (lN SS) (nI k) v) (fun p => p.1 = 0 ∧ p.2.1 = tp_srn SS j k t ∧ ∃ q, tp_LI z u q p.2.2)
  | _, 0, _, _, _, _, _, _, h => absurd h (Nat.not_lt_zero _)
  | 0, f + 1, k, t, v, h, hk, hkN, _ => by
    unfold f9_runScript_p48
    rw [if_pos (by rw [tp_le (by omega) (by omega)]; omega)]
    exact tp_ret ⟨rfl, rfl, t, h⟩
  | j + 1, f + 1, k, t, v, h, hk, hkN, hf => by
    obtain ⟨p1, p2⟩ := tp_pw_le (j := j) (by omega)
    have e2 : ¬ lN (1000000 ^ j) = 0 := by
      rw [show (0 : Int64) = lN 0 from rfl, pk_lEQ (by omega) (by decide)]
      omega
    have hG : SS / 1000000 ^ j % 1000000 < 1000000 := Nat.mod_lt _ (by decide)
    have e3 : ((((lN SS / lN (1000000 ^ j)) - (lN SS / lN (1000000 ^ j)) / 1000000 * 1000000) : Int64).toInt32) = nI (SS / 1000000 ^ j % 1000000) := by
      have hd : SS / 1000000 ^ j ≤ SS := Nat.div_le_self _ _
      rw [pk_lDiv (by omega) p2 (by omega), show (1000000 : Int64) = lN 1000000 from rfl, pk_lRem (by omega) (by decide) (by decide), lN_i]
    have ej : nI N - 1 - nI k = nI j := by rw [tp_k1, tp_sb (by omega), tp_sb (by omega)]; congr 1; omega
    unfold f9_runScript_p48
    rw [if_neg (by rw [tp_le (by omega) (by omega)]; omega), ej, tc_numbersOf (by omega), tp_b2S, tl_gs e2, e3, tp_L]
    unfold tp_srn
    refine tp_b2 (tc_group (b := z + 3) (u := v) hG) (fun x w hw => ?_)
    obtain ⟨hF, hw⟩ := hw
    have hF : tp_FB (z + 3) v w := hF
    have hL := tp_LI_B h hF
    generalize SS / 1000000 ^ j % 1000000 / 100000 = K at hw
    generalize SS / 1000000 ^ j % 1000000 % 100000 = V at hw
    have stop : (tp_scr K V t).1 = false → ∀ w, (∃ q, tp_LI z u q w) → tp_T (some ((0 : Nat), nI k, w)) (fun p => p.1 = 0 ∧ p.2.1 = (if (tp_scr K V t).1 = true then tp_srn SS j (k + 1) (tp_scr K V t).2 else nI k) ∧ ∃ q, tp_LI z u q p.2.2) := by
      intro e w hq
      rw [e]
      exact tp_ret ⟨rfl, rfl, hq⟩
    rcases hw with ⟨hx, hsc⟩ | ⟨hx, Q, A, B, C, D, hC, hQ⟩
    · have hx : x = 0 := hx
      rw [hx, if_pos rfl]
      exact stop (hsc t) w ⟨t, hL⟩
    · have hx : x = 1 := hx
      have hC : tp_Cm (z + 3) Q A B C D w := hC
      rw [hx, if_neg (by decide)]
      unfold f0_isTest
      have e11 : ∀ {Q : Nat}, Q ≤ 14 → (nI Q < 11) = (Q < 11) := fun h => by rw [tp_k11, tp_lt (by omega) (by decide)]
      rw [hC.1]
      rcases hQ with ⟨q1, q2, q3⟩ | ⟨q1, q2, q3⟩
      · have et := q3 t
        rw [if_pos ((e11 (by omega)).mpr (by omega)), tp_b2S, if_pos rfl]
        refine tp_b2 (tc_attempt (tp_P_rf hL.2) hk q1 q2 hC) (fun y w2 hw2 => ?_)
        obtain ⟨hy, hw2⟩ := hw2
        have hy : y = _ := hy
        have hL2 := tp_LI_P hL hw2
        rw [hy, tp_if0]
        by_cases c : tp_rf Q A B C D t = 0
        · have e4 : tp_scr K V t = (true, tp_pf Q A B C D t) := by rw [et, tp_tr_p rfl c]
          rw [tp_tt_p c] at hL2
          rw [decide_eq_true c, if_pos rfl, tp_L, nI_1, e4]
          exact tc_script_l hN hS j f (k + 1) _ w2 hL2 (tp_Ok_pf hk c) (by omega) (by omega)
        · have e4 : tp_scr K V t = (false, t) := by rw [et, tp_tr_n (Or.inr c)]
          rw [decide_eq_false c, if_neg (by decide)]
          exact stop (by rw [e4]) w2 ⟨_, hL2⟩
      · have et := q3 t
        rw [if_neg (fun z => by have := (e11 (by omega)).mp z; omega), tp_b2S, if_neg (by decide), tc_passes (tp_P_rf hL.2) hk.1 q1 q2 hC, tp_b2S, tp_if0]
        rcases e5 : tp_ps Q A B t with _ | _
        · rw [if_neg (by decide)]
          exact stop (by rw [et, e5]) w ⟨t, hL⟩
        · rw [if_pos rfl, tp_L, nI_1, et, e5]
          exact tc_script_l hN hS j f (k + 1) t w hL hk (by omega) (by omega)
theorem tc_runScript (h : tp_CI z len tx now hn hist sl kp u) (hs : tp_SO len tx now hn hist sl kp) {n : Int32} {s : Int64} : tp_T (f9_runScript z n s u) (fun p => (∃ N S, 1 ≤ N ∧ N ≤ 3 ∧ n = nI N ∧ s = lN S ∧ S < 1000000 ^ N ∧ tp_CA z u 0 (tp_srn S N 0 now) len tx now hn hist sl kp p) ∨ (¬ tp_rsk n s ∧ tp_CA z u 2 0 len tx now hn hist sl kp p)) := by
  have bad : ¬ tp_rsk n s → tp_T (f9_runScript_p29 z n s 1 u) (fun p => (∃ N S, 1 ≤ N ∧ N ≤ 3 ∧ n = nI N ∧ s = lN S ∧ S < 1000000 ^ N ∧ tp_CA z u 0 (tp_srn S N 0 now) len tx now hn hist sl kp p) ∨ (¬ tp_rsk n s ∧ tp_CA z u 2 0 len tx now hn hist sl kp p)) := by
    intro e
    unfold f9_runScript_p29
    exact tc_dem true false true rfl rfl rfl (fun _ q => absurd q (by decide)) (fun _ => Or.inr ⟨e, tp_CAn (t := 2) h (by decide)⟩)
  unfold f9_runScript
  rw [tc_within, tp_b2S, tp_if0]
  rcases e : tp_iw n 1 3 with _ | _
  · rw [if_neg (by decide)]
    refine bad (fun q => ?_)
    obtain ⟨N, S, a1, a2, a3, -, -⟩ := q
    rw [a3, tp_iwN (l := 1) (h := 3) (L := 1) (B := 3) rfl rfl a1 a2 (by decide)] at e
    cases e
  · obtain ⟨N, h1, h3, rfl⟩ := tp_iw_N (L := 1) (B := 3) rfl rfl (by decide) (by decide) e
    obtain ⟨p1, p2⟩ := tp_pw_le h3
    rw [if_pos rfl, tc_numbersOf h3, tp_b2S]
    simp only [tp_cmp_lt, tp_cmp_ge]
    by_cases c1 : s < 0
    · rw [if_pos c1]
      refine bad (fun q => ?_)
      obtain ⟨N, S, a1, a2, a3, a4, a5⟩ := q
      have := (tp_pw_le (j := N) a2).1
      rw [a4, show (0 : Int64) = lN 0 from rfl, pk_lLT (by omega) (by decide)] at c1
      omega
    · rw [if_neg c1]
      obtain ⟨S, hS, rfl⟩ := pk_lOf c1
      have el : (lN S < lN (1000000 ^ N)) = (S < 1000000 ^ N) := propext (pk_lLT (by omega) (by omega))
      by_cases c2 : lN S < lN (1000000 ^ N)
      · rw [if_neg (fun z => z c2)]
        refine tc_dem true true true rfl rfl rfl (fun _ _ _ => ?_) (fun q => absurd rfl q)
        refine tp_b (tc_cpy h hs) (fun v hv => ?_)
        have hS2 := el.mp c2
        refine tp_mono (tc_script_l (N := N) (SS := S) h3 (by omega) N tl_F 0 now v hv hs.2.2.1 (by omega) (by unfold tl_F; omega)) (fun p hp => ?_)
        obtain ⟨p1, p2, q, p3⟩ := hp
        exact Or.inl ⟨N, S, h1, h3, rfl, rfl, hS2, p1, fun _ => p2, tp_LI_FR p3, tp_LI_CI h p3⟩
      · rw [if_pos c2]
        refine bad (fun q => ?_)
        obtain ⟨N2, S2, a1, a2, a3, a4, a5⟩ := q
        have e1 : N = N2 := (tp_eq (by omega) (by omega)).mp a3
        subst e1
        rw [a4] at c2
        exact c2 (by rw [pk_lLT (by omega) (by omega)]; exact a5)
theorem tc_sim_l (h : tp_CI z len tx now hn hist sl kp u) (hs : tp_SO len tx now hn hist sl kp) {M : Nat} (hM : M ≤ 60) : ∀ (j f i : Nat) (x : Int64) (t : tp_R) (v : tl_S), tp_LI z u t v → tp_Ok t → i + j = M → j < f → tp_T (f9_simulate_p29 f z (nI M) x (nI i) v) (tp_CA z u 0 (tp_sq2 (tp_sm j x t) now) len tx now hn hist sl kp)
  | _, 0, _, _, _, _, _, _, _, h => absurd h (Nat.not_lt_zero _)
  | 0, f + 1, i, x, t, v, hL, hk, hi, _ => by
    unfold f9_simulate_p29
    have C := tp_LI_CI h hL
    have hP := tp_P_rf C.1.2.2.1
    have hQ := tp_P_rf hL.2
    rw [if_pos (by rw [tp_le (by omega) (by omega)]; omega), tq_g9 hP, tq_g9 hQ, tq_g10 hP, tq_g10 hQ, tp_L]
    refine tp_ret (tp_LI_CA h hL ?_)
    unfold tp_sq2 tp_sm
    congr 1
    by_cases c : t 9 - now 9 ≤ 999
    · rw [if_pos c, if_neg (by rw [tp_lti]; rw [tp_lei] at c; omega)]
    · rw [if_neg c, if_pos (by rw [tp_lti]; rw [tp_lei] at c; omega)]
  | j + 1, f + 1, i, x, t, v, hL, hk, hi, hf => by
    unfold f9_simulate_p29 tp_sm
    obtain ⟨R, hR, eR⟩ := tp_sR_N (tp_sx x)
    have hcl : tp_cl (nI R) = R := tp_cn hR
    rw [if_neg (by rw [tp_le (by omega) (by omega)]; omega), tp_L]
    show tp_T (tl_b (f0_readTurn (z + 3) (tp_sR (tp_sx x)) v) _) _
    rw [eR, hcl]
    refine tp_b (tc_turn hR) (fun w hw => ?_)
    obtain ⟨hF, Q, A, B, C, D, q1, q2, hC, ht⟩ := hw
    have hL1 := tp_LI_B hL hF
    refine tp_b2 (tc_attempt (tp_P_rf hL1.2) hk q1 q2 hC) (fun y w2 hw2 => ?_)
    have hL2 := tp_LI_P hL1 hw2.2
    rw [← ht t] at hL2
    rw [tp_L, nI_1]
    exact tc_sim_l h hs hM j f (i + 1) (tp_sx x) _ w2 hL2 (tp_Ok_turn hk) (by omega) (by omega)
theorem tc_simulate (h : tp_CI z len tx now hn hist sl kp u) (hs : tp_SO len tx now hn hist sl kp) {x : Int64} {n : Int32} : tp_T (f9_simulate z x n u) (fun p => if tp_iw n 1 60 = true then tp_CA z u 0 (tp_sq2 (tp_sm (tp_cl n) x now) now) len tx now hn hist sl kp p else tp_CA z u 2 0 len tx now hn hist sl kp p) := by
  unfold f9_simulate
  rw [tc_within, tp_b2S]
  refine tc_dem true (tp_iw n 1 60) true rfl rfl rfl (fun _ e _ => ?_) (fun hne => ?_)
  · obtain ⟨n, n0, n1, rfl⟩ := tp_iw_N (L := 1) (B := 60) rfl rfl (by decide) (by decide) e
    have hcl : tp_cl (nI n) = n := tp_cn (by omega)
    refine tp_b (tc_cpy h hs) (fun v hv => ?_)
    refine tp_mono (tc_sim_l h hs n1 n tl_F 0 x now v hv hs.2.2.1 (by omega) (by unfold tl_F; omega)) (fun p hp => ?_)
    rw [if_pos e, hcl]
    exact hp
  · rcases e : tp_iw n 1 60 with _ | _
    · exact tp_CAn (t := 2) h (by decide)
    · rw [e] at hne; exact absurd rfl hne
theorem tc_save (h : tp_CI z len tx now hn hist sl kp u) (hs : tp_SO len tx now hn hist sl kp) {s : Int32} : tp_T (f9_save z s u) (fun p => if tp_iw s 0 1 = true then tp_CA z u 0 (now 3) len tx now hn hist (tp_sl2 sl (tp_cl s)) (tp_kp2 kp (tp_cl s) now) p else tp_CA z u 1 0 len tx now hn hist sl kp p) := by
  unfold f9_save
  rw [tc_within, tp_b2S]
  refine tc_dem (tp_iw s 0 1) true true rfl rfl rfl (fun e _ _ => ?_) (fun hne => ?_)
  · obtain ⟨n, n0, n1, rfl⟩ := tp_iw_N (L := 0) (B := 1) rfl rfl (by decide) (by decide) e
    have hcl : tp_cl (nI n) = n := tp_cn (by omega)
    have hn2 : n < 2 := by omega
    obtain ⟨⟨a1, a2, a3, a4, a5, a6⟩, a7⟩ := id h
    have e1 : z + 499 + (2 + 29 * n) = tp_ks z n := rfl
    rw [tl_gs (tp_ix hn2 (by omega)), tp_cn (by omega), e1]
    refine tp_b (tc_copy (a6 n hn2).1 a3 hs.2.2.1.1 (by unfold tp_ks; omega)) (fun v hv => ?_)
    obtain ⟨v1, v2⟩ := hv
    have F1 := tp_FR_A v2
    rw [tl_gs (tp_ixn hn2 (by omega)), tp_tw, tp_L]
    generalize hw : tp_w v (z + 500) (tp_up (v.1 (z + 500)) n 1) = w
    have F2 : tp_FR (fun q => q = z + 500) v w := by
      rw [← hw]
      exact ⟨fun q hq => ⟨tp_wgn hq, rfl⟩, rfl⟩
    have w5 : w.1 (z + 500) = tp_up (u.1 (z + 500)) n 1 := by rw [← hw, tp_wg, (F1.1 (z + 500) (by unfold tp_ks; omega)).1]
    have FF : tp_FR (fun q => q = z + 500 ∨ (tp_ks z n ≤ q ∧ q < tp_ks z n + 29)) u w := tp_FR_tr (tp_FR_m F1 (fun q => Or.inr)) (tp_FR_m F2 (fun q => Or.inl))
    have m4 : tp_Mn (z + 4) now w := tp_Mn_FR a3 FF (by unfold tp_ks; intro q; omega)
    refine tp_ret ?_
    show (if tp_iw (nI n) 0 1 = true then _ else _ : Prop)
    rw [if_pos e, hcl]
    refine ⟨rfl, fun _ => tq_g3 (tp_P_rf m4), tp_FR_m FF (by unfold tp_ZS tp_ks; intro q; omega), ⟨by rw [(FF.1 (z + 1) (by unfold tp_ks; omega)).1]; exact a1, fun i hi => by rw [(FF.1 (z + 2) (by unfold tp_ks; omega)).1]; exact a2 i hi, m4, tp_Mn_FR a4 FF (by unfold tp_ks; intro q; omega), tp_Mp_FR a5 FF (by unfold tp_ks; omega), fun s hs2 => ?_⟩, tp_CH_fr a7 FF (by unfold tp_ks; intro q; omega)⟩
    obtain ⟨b1, b2, b3⟩ := a6 s hs2
    unfold tp_sl2 tp_kp2
    by_cases c : s = n
    · subst c
      have mk : tp_Mn (tp_ks z s) now w := tp_Mn_FR v1 F2 (by unfold tp_ks; intro q; omega)
      refine ⟨mk.2.1, ?_, fun _ => ?_⟩
      · rw [w5, tp_us, if_pos rfl]; rfl
      · rw [if_pos rfl]; exact mk
    · refine ⟨tp_Mp_FR b1 FF (by unfold tp_ks; omega), ?_, fun q => ?_⟩
      · rw [w5, tp_un c, if_neg c]; exact b2
      · rw [if_neg c] at q ⊢
        exact tp_Mn_FR (b3 q) FF (by unfold tp_ks; intro q; omega)
  · rcases e : tp_iw s 0 1 with _ | _
    · exact tp_CAn (t := 1) h (by decide)
    · rw [e] at hne; exact absurd rfl hne
theorem tc_restore (h : tp_CI z len tx now hn hist sl kp u) (hs : tp_SO len tx now hn hist sl kp) {s : Int32} : tp_T (f9_restore z s u) (fun p => if tp_iw s 0 1 = true then (if sl (tp_cl s) = true then tp_CA z u 0 (kp (tp_cl s) 3) len tx (kp (tp_cl s)) 0 hist sl kp p else tp_CA z u 3 0 len tx now hn hist sl kp p) else tp_CA z u 1 0 len tx now hn hist sl kp p) := by
  unfold f9_restore
  rw [tc_within, tp_b2S, tp_if0]
  rcases e : tp_iw s 0 1 with _ | _
  · rw [if_neg (by decide)]
    unfold f9_restore_p26 f9_restore_p27
    exact tc_dem false true false rfl rfl rfl (fun q => absurd q (by decide)) (fun _ => tp_CAn (t := 1) h (by decide))
  · obtain ⟨n, n0, n1, rfl⟩ := tp_iw_N (L := 0) (B := 1) rfl rfl (by decide) (by decide) e
    have hcl : tp_cl (nI n) = n := tp_cn (by omega)
    have hn2 : n < 2 := by omega
    obtain ⟨⟨a1, a2, a3, a4, a5, a6⟩, a7⟩ := id h
    obtain ⟨b1, b2, b3⟩ := a6 n hn2
    rw [if_pos rfl, tl_gs (tp_ix hn2 (by omega)), tp_cn (by omega), b2, tp_if0, hcl]
    simp only [if_true]
    rcases es : sl n with _ | _
    · rw [if_neg (by decide)]
      unfold f9_restore_p26 f9_restore_p27
      exact tc_dem true true false rfl rfl rfl (fun _ _ q => absurd q (by decide)) (fun _ => tp_CAn (t := 3) h (by decide))
    · rw [if_pos rfl]
      unfold f9_restore_p27
      refine tc_dem true true true rfl rfl rfl (fun _ _ _ => ?_) (fun q => absurd rfl q)
      have e1 : z + 499 + (2 + 29 * n) = tp_ks z n := rfl
      rw [tl_gs (tp_ix hn2 (by omega)), tp_cn (by omega), e1]
      have hk := hs.2.2.2.2.2 n hn2 es
      refine tp_b (tc_copy a3.2.1 (b3 es) hk.1 (by unfold tp_ks; omega)) (fun v hv => ?_)
      obtain ⟨v1, v2⟩ := hv
      have F1 := tp_FR_A v2
      have hv : tp_CR z len tx (kp n) sl kp v := tp_CR_fr h.1 F1 (by intro q; omega) (by rw [(F1.1 (z + 1) (by omega)).1]; exact a1) v1 (tp_Mp_FR a5 F1 (by omega))
      refine tp_b (tc_forget (hist := hist) hv (fun j hj => tp_Mp_FR (a7.2 j hj) F1 (by unfold tp_hs; omega))) (fun w hw => ?_)
      obtain ⟨hw, F2⟩ := hw
      refine tp_ret ?_
      exact ⟨rfl, fun _ => tq_g3 (tp_P_rf hw.1.2.2.1), tp_FR_tr (tp_FR_m F1 (by unfold tp_ZS; intro q; omega)) (tp_FR_m F2 (by unfold tp_ZS; intro q; omega)), hw⟩
end TQF
