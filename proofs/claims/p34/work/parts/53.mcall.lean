/-! The class's calls: text, what there is, actions. -/
section TQE
variable {z len : Nat} {tx now now2 : tp_R} {hn : Nat} {hist : Nat → tp_R} {sl : Nat → Bool} {kp : Nat → tp_R} {u v : tl_S} {S : Nat → Prop}
theorem tp_chr {n : Nat} (h : n ≤ 255) : ((nI n).toUInt32 % 65536).toInt32 = nI n := by
  have : ∀ k : Fin 256, ((nI k.1).toUInt32 % 65536).toInt32 = nI k.1 := by decide +kernel
  exact this ⟨n, by omega⟩
theorem tc_isFull (h : u.1 (z + 1) 1 = nI len) (hl : len ≤ 120) : f6_isFull (z + 1) u = some (tp_b01 (decide (len = 120)), u) := by
  unfold f6_isFull
  rw [h]
  have e : (nI len < 120) = (len < 120) := by rw [tp_k120, tp_lt (by omega) (by decide)]
  by_cases c : len = 120
  · rw [if_neg (fun z => by have := e.mp z; omega), decide_eq_true c]; rfl
  · rw [if_pos (e.mpr (by omega)), decide_eq_false c]; rfl
theorem tc_append (h : tp_CI z len tx now hn hist sl kp u) (hs : tp_SO len tx now hn hist sl kp) {a : Int32} : tp_T (f9_append z a u) (fun p => if tp_iw a 0 255 = true then (if len = 120 then tp_CA z u 3 0 len tx now hn hist sl kp p else tp_CA z u 0 (nI (len + 1)) (len + 1) (tp_up tx len a) now hn hist sl kp p) else tp_CA z u 2 0 len tx now hn hist sl kp p) := by
  have hl := h.1.1
  have h120 := hs.1
  unfold f9_append
  rw [tc_within, tp_b2S, tc_isFull hl h120, tp_b2S, tp_if0]
  by_cases c : len = 120
  · rw [decide_eq_true c, if_pos rfl]
    refine tc_dem true (tp_iw a 0 255) false rfl rfl rfl (fun _ _ w => absurd w (by decide)) (fun hne => ?_)
    rcases e : tp_iw a 0 255 with _ | _
    · show tp_CA _ _ _ _ _ _ _ _ _ _ _ _
      exact tp_CAn h (by decide)
    · show (if len = 120 then _ else _ : Prop)
      rw [if_pos c]
      exact tp_CAn h (by decide)
  · rw [decide_eq_false c, if_neg (by decide)]
    refine tc_dem true (tp_iw a 0 255) true rfl rfl rfl (fun _ e _ => ?_) (fun hne => ?_)
    · obtain ⟨n, n0, n1, rfl⟩ := tp_iw_N (L := 0) (B := 255) rfl rfl (by decide) (by decide) e
      rw [tp_chr n1]
      unfold f6_add
      have e120 : (120 ≤ nI len) = (120 ≤ len) := by rw [tp_k120, tp_le (by decide) (by omega)]
      rw [hl, if_neg (fun z => by have := e120.mp z; omega), tl_gs (tp_ix (by omega) (by omega)), tp_cn (by omega), tl_gs (by rw [tp_neg (by omega), false_or, show (65535 : Int32) = nI 65535 from rfl, tp_lt (by decide) (by omega)]; omega)]
      have e2 : z + 1 + 1 = z + 2 := rfl
      have g1 : (tp_w u (z + 2) (tp_up (u.1 (z + 2)) len (nI n))).1 (z + 1) = u.1 (z + 1) := tp_wgn (by omega)
      rw [e2, tp_tw, tp_L, g1, hl, nI_1, tp_tw, g1, tp_L, tp_wg, tp_us, tp_b2S]
      generalize hv : tp_w (tp_w u (z + 2) (tp_up (u.1 (z + 2)) len (nI n))) (z + 1) (tp_up (u.1 (z + 1)) 1 (nI (len + 1))) = v
      have F : tp_FR (fun q => q = z + 1 ∨ q = z + 2) u v := by
        rw [← hv]
        exact ⟨fun q hq => ⟨(tp_wgn (by omega)).trans (tp_wgn (by omega)), rfl⟩, rfl⟩
      have v1 : v.1 (z + 1) 1 = nI (len + 1) := by rw [← hv, tp_wg, tp_us]
      have v2 : v.1 (z + 2) = tp_up (u.1 (z + 2)) len (nI n) := by rw [← hv, tp_wgn (by omega), tp_wg]
      refine tp_ret ?_
      show (if tp_iw (nI n) 0 255 = true then (if len = 120 then _ else _ : Prop) else _ : Prop)
      rw [if_pos e, if_neg c]
      obtain ⟨⟨a1, a2, a3, a4, a5, a6⟩, a7⟩ := h
      refine ⟨rfl, fun _ => rfl, tp_FR_m F (by unfold tp_ZS; intro q; omega), ⟨v1, fun i hi => ?_, tp_Mn_FR a3 F (by intro q; omega), tp_Mn_FR a4 F (by intro q; omega), tp_Mp_FR a5 F (by omega), fun s hs2 => ?_⟩, tp_CH_fr a7 F (by intro q; omega)⟩
      · rw [v2]
        unfold tp_up
        by_cases q : i = len
        · rw [if_pos q, if_pos q]
        · rw [if_neg q, if_neg q]; exact a2 i (by omega)
      · obtain ⟨b1, b2, b3⟩ := a6 s hs2
        exact ⟨tp_Mp_FR b1 F (by unfold tp_ks; omega), by rw [(F.1 (z + 500) (by omega)).1]; exact b2, fun q => tp_Mn_FR (b3 q) F (by unfold tp_ks; intro q; omega)⟩
    · rcases e : tp_iw a 0 255 with _ | _
      · show tp_CA _ _ _ _ _ _ _ _ _ _ _ _
        exact tp_CAn h (by decide)
      · rw [e] at hne; exact absurd rfl hne
theorem tc_findC (h : tp_CI z len tx now hn hist sl kp u) (hs : tp_SO len tx now hn hist sl kp) : tp_T (f6_findError (z + 1) (z + 3) u) (fun p => p.1 = (tp_txt tx len).1 ∧ tp_FR (fun q => q = z + 1 ∨ q = z + 3) u p.2 ∧ tp_CI z len tx now hn hist sl kp p.2) := by
  refine tp_mono (tc_find (by omega) (by omega) hs.1 (fun i hi => ⟨h.1.2.1 i hi, hs.2.1 i hi⟩) h.1.1) (fun p hp => ⟨hp.1, hp.2.1, ?_⟩)
  have F := hp.2.1
  exact tp_CI_fr h F (by intro q; omega) hp.2.2 (tp_Mn_FR h.1.2.2.1 F (by intro q; omega)) (tp_Mp_FR h.1.2.2.2.2.1 F (by omega))
theorem tc_load45 {hn : Nat} {hist : Nat → tp_R} {r : tp_R} (hs1 : len ≤ 120) (hs2 : ∀ i, i < len → tp_N 255 (tx i)) (hrun : (tp_run tx len len 1 tp_clr 0).1 = -1) (hlen : 0 < len) : ∀ (f i : Nat) (w : tl_S) (sl : Nat → Bool), tp_CI z len tx tp_clr 0 hist sl kp w → (∀ s, s < i → sl s = false) → i ≤ 2 → 2 - i < f → tp_T (f9_load_p45 f z (nI i) w) (fun p => tp_CA z w 0 (tp_run tx len len 1 tp_clr 0).2.2 len tx (tp_run tx len len 1 tp_clr 0).2.1 0 hist (fun _ => false) kp p)
  | 0, _, _, _, _, _, _, h => absurd h (Nat.not_lt_zero _)
  | f + 1, i, w, sl, h, hsl, hi, hf => by
    unfold f9_load_p45
    have el : (2 ≤ nI i) = (2 ≤ i) := by rw [tp_k2, tp_le (by decide) (by omega)]
    by_cases c : 2 ≤ i
    · rw [if_pos (el.mpr c)]
      unfold f6_startCommands
      rw [tp_L, tp_bS, tp_tw]
      generalize hv : tp_w w (z + 1) (tp_up (w.1 (z + 1)) 2 1) = v
      have F : tp_FR (fun q => q = z + 1) w v := by
        rw [← hv]
        exact ⟨fun q hq => ⟨tp_wgn hq, rfl⟩, rfl⟩
      have v1 : v.1 (z + 1) = tp_up (w.1 (z + 1)) 2 1 := by rw [← hv, tp_wg]
      have t2 : ∀ i, i < len → v.1 (z + 2) i = tx i := fun i hi => by rw [(F.1 (z + 2) (by omega)).1]; exact h.1.2.1 i hi
      have R := tc_load_l (z := z) (tx := tx) hs1 hs2 len tl_F 1 0 tp_clr 0 v (tp_Mn_FR h.1.2.2.1 F (by intro q; omega)) tp_Ok_clr t2 (by rw [v1, tp_un (by decide)]; exact h.1.1) (by rw [v1, tp_us]; rfl) (by omega) (by omega) (by omega) (by unfold tl_F; omega) hrun
      refine tp_mono R (fun p hp => ?_)
      obtain ⟨p1, p2, p3, p4, p5⟩ := hp
      have F4 : tp_FR (fun q => q = z + 1 ∨ q = z + 3 ∨ (z + 4 ≤ q ∧ q < z + 33)) w p.2.2 := tp_FR_tr (tp_FR_m F (by intro q; omega)) (tp_FR_m p4 (by unfold tp_LS; intro q; omega))
      have C := tp_CI_fr h F4 (by intro q; omega) p5 p3 (tp_Mp_FR h.1.2.2.2.2.1 F4 (by omega))
      obtain ⟨⟨b1, b2, b3, b4, b5, b6⟩, b7⟩ := C
      refine ⟨p1, fun _ => p2, tp_FR_m F4 (by unfold tp_ZS; intro q; omega), ⟨b1, b2, b3, b4, b5, fun s hs => ?_⟩, b7⟩
      obtain ⟨d1, d2, d3⟩ := b6 s hs
      rw [hsl s (by omega)] at d2
      exact ⟨d1, d2, fun q => absurd (show false = true from q) (by decide)⟩
    · have hi2 : i < 2 := by omega
      rw [if_neg (fun z => c (el.mp z)), tl_gs (tp_ix hi2 (by omega)), tp_cn (by omega), tp_tw, tp_L, tp_L, nI_1]
      generalize hv : tp_w w (z + 500) (tp_up (w.1 (z + 500)) i 0) = v
      have F : tp_FR (fun q => q = z + 500) w v := by
        rw [← hv]
        exact ⟨fun q hq => ⟨tp_wgn hq, rfl⟩, rfl⟩
      have v1 : v.1 (z + 500) = tp_up (w.1 (z + 500)) i 0 := by rw [← hv, tp_wg]
      obtain ⟨⟨a1, a2, a3, a4, a5, a6⟩, a7⟩ := h
      have C : tp_CI z len tx tp_clr 0 hist (fun s => if s = i then false else sl s) kp v := by
        refine ⟨⟨by rw [(F.1 (z + 1) (by omega)).1]; exact a1, fun i hi => by rw [(F.1 (z + 2) (by omega)).1]; exact a2 i hi, tp_Mn_FR a3 F (by intro q; omega), tp_Mn_FR a4 F (by intro q; omega), tp_Mp_FR a5 F (by omega), fun s hs2 => ?_⟩, tp_CH_fr a7 F (by intro q; omega)⟩
        obtain ⟨b1, b2, b3⟩ := a6 s hs2
        refine ⟨tp_Mp_FR b1 F (by unfold tp_ks; omega), ?_, fun q => ?_⟩
        · rw [v1]
          show (if s = i then (0 : Int32) else w.1 (z + 500) s) = tp_b01 (if s = i then false else sl s)
          by_cases e : s = i
          · rw [if_pos e, if_pos e]; rfl
          · rw [if_neg e, if_neg e]; exact b2
        · have q : (if s = i then false else sl s) = true := q
          by_cases e : s = i
          · rw [if_pos e] at q; cases q
          · rw [if_neg e] at q
            exact tp_Mn_FR (b3 q) F (by unfold tp_ks; intro q; omega)
      refine tp_mono (tc_load45 (hn := hn) (r := r) hs1 hs2 hrun hlen f (i + 1) v _ C (fun s hs => ?_) (by omega) (by omega)) (fun p hp => ⟨hp.1, hp.2.1, tp_FR_tr (tp_FR_m F (by unfold tp_ZS; intro q; omega)) hp.2.2.1, hp.2.2.2⟩)
      show (if s = i then false else sl s) = false
      by_cases e : s = i
      · rw [if_pos e]
      · rw [if_neg e]; exact hsl s (by omega)
theorem tc_load (h : tp_CI z len tx now hn hist sl kp u) (hs : tp_SO len tx now hn hist sl kp) : tp_T (f9_load z u) (fun p => if (tp_txt tx len).1 = -1 then tp_CA z u 0 (tp_txt tx len).2.2 len tx (tp_txt tx len).2.1 0 hist (fun _ => false) kp p else tp_CA z u 3 0 len tx now hn hist sl kp p) := by
  unfold f9_load
  refine tp_b2 (tc_findC h hs) (fun x v hv => ?_)
  obtain ⟨hx, F1, hv⟩ := hv
  have hx : x = (tp_txt tx len).1 := hx
  have F1 : tp_FR (fun q => q = z + 1 ∨ q = z + 3) u v := F1
  have hv : tp_CI z len tx now hn hist sl kp v := hv
  by_cases c : x = -1
  · rw [if_pos c]
    have c' := c
    rw [hx] at c'
    refine tc_dem true true true rfl rfl rfl (fun _ _ _ => ?_) (fun q => absurd rfl q)
    refine tp_b (tc_copy hv.1.2.2.1.2.1 hv.1.2.2.2.1 tp_Ok_clr.1 (by omega)) (fun w hw => ?_)
    obtain ⟨w1, w2⟩ := hw
    have F2 := tp_FR_A w2
    have hw : tp_CR z len tx tp_clr sl kp w := tp_CR_fr hv.1 F2 (by intro q; omega) (by rw [(F2.1 (z + 1) (by omega)).1]; exact hv.1.1) w1 (tp_Mp_FR hv.1.2.2.2.2.1 F2 (by omega))
    refine tp_b (tc_forget (hist := hist) hw (fun j hj => tp_Mp_FR (hv.2.2 j hj) F2 (by unfold tp_hs; omega))) (fun y hy => ?_)
    obtain ⟨hy, F3⟩ := hy
    have htxt : tp_txt tx len = tp_run tx len len 1 tp_clr 0 ∧ 0 < len := by
      unfold tp_txt at c' ⊢
      by_cases c0 : len = 0
      · rw [if_pos c0] at c'
        exact absurd c' (by show ¬ ((0 : Int32) = -1); decide)
      · rw [if_neg c0] at c' ⊢
        by_cases c1 : tx 0 = 84
        · rw [if_pos c1] at c' ⊢; exact ⟨rfl, by omega⟩
        · rw [if_neg c1] at c'
          exact absurd c' (by show ¬ ((0 : Int32) = -1); decide)
    have hrun := c'
    rw [htxt.1] at hrun
    have R := tc_load45 (hn := hn) (r := now) (kp := kp) hs.1 hs.2.1 hrun htxt.2 tl_F 0 y sl hy (fun s q => absurd q (Nat.not_lt_zero _)) (by omega) (by unfold tl_F; omega)
    refine tp_mono R (fun p hp => ?_)
    show (if (tp_txt tx len).1 = -1 then _ else _ : Prop)
    rw [if_pos c', htxt.1]
    exact ⟨hp.1, hp.2.1, tp_FR_tr (tp_FR_m F1 (by unfold tp_ZS; intro q; omega)) (tp_FR_tr (tp_FR_m F2 (by unfold tp_ZS; intro q; omega)) (tp_FR_tr (tp_FR_m F3 (by unfold tp_ZS; intro q; omega)) hp.2.2.1)), hp.2.2.2⟩
  · rw [if_neg c]
    rw [hx] at c
    refine tc_dem true true false rfl rfl rfl (fun _ _ q => absurd q (by decide)) (fun _ => ?_)
    show (if (tp_txt tx len).1 = -1 then _ else _ : Prop)
    rw [if_neg c]
    exact ⟨rfl, fun q => absurd q (by decide), tp_FR_m F1 (by unfold tp_ZS; intro q; omega), hv⟩
theorem tc_about (h : tp_CI z len tx now hn hist sl kp u) (hs : tp_SO len tx now hn hist sl kp) {w : Int32} : tp_T (f9_about z w u) (fun p => if tp_iw w 0 12 = true then tp_CA z u 0 (tp_ab now (tp_cl w)) len tx now hn hist sl kp p else tp_CA z u 2 0 len tx now hn hist sl kp p) := by
  have hP := tp_P_rf h.1.2.2.1
  unfold f9_about
  rw [tc_within, tp_b2S]
  refine tc_dem true (tp_iw w 0 12) true rfl rfl rfl (fun _ e _ => ?_) (fun hne => ?_)
  · obtain ⟨n, n0, n1, rfl⟩ := tp_iw_N (L := 0) (B := 12) rfl rfl (by decide) (by decide) e
    have hcl : tp_cl (nI n) = n := tp_cn (by omega)
    have e1 : (nI n).toInt = (n : Int) := tp_ti (by omega)
    have fin : ∀ {x : Int32}, x = tp_ab now n → tp_T (some ((0 : Nat), x, u)) (fun p => if tp_iw (nI n) 0 12 = true then tp_CA z u 0 (tp_ab now (tp_cl (nI n))) len tx now hn hist sl kp p else tp_CA z u 2 0 len tx now hn hist sl kp p) := by
      intro x hx
      refine tp_ret ?_
      show (if tp_iw (nI n) 0 12 = true then _ else _ : Prop)
      rw [if_pos e, hcl]
      exact tp_CAs h hx
    rw [e1]
    have : n = 0 ∨ n = 1 ∨ n = 2 ∨ n = 3 ∨ n = 4 ∨ n = 5 ∨ n = 6 ∨ n = 7 ∨ n = 8 ∨ n = 9 ∨ n = 10 ∨ n = 11 ∨ n = 12 := by omega
    rcases this with rfl | rfl | rfl | rfl | rfl | rfl | rfl | rfl | rfl | rfl | rfl | rfl | rfl
    · rw [if_neg (by decide), if_pos (by decide)]
      exact fin (show _ = now 0 from tq_g0 hP)
    · rw [if_neg (by decide), if_neg (by decide), if_pos (by decide)]
      exact fin (show _ = now 1 from tq_g1 hP)
    · rw [if_neg (by decide), if_neg (by decide), if_neg (by decide), if_pos (by decide)]
      exact fin (show _ = now 2 from tq_g2 hP)
    · rw [if_neg (by decide), if_neg (by decide), if_neg (by decide), if_neg (by decide), if_pos (by decide)]
      exact fin (show _ = now 3 from tq_g3 hP)
    · rw [if_neg (by decide), if_neg (by decide), if_neg (by decide), if_neg (by decide), if_neg (by decide), if_pos (by decide)]
      exact fin (show _ = now 4 from tq_g4 hP)
    · rw [if_neg (by decide), if_neg (by decide), if_neg (by decide), if_neg (by decide), if_neg (by decide), if_neg (by decide), if_pos (by decide), tc_oil hP hs.2.2.1.1, tp_b2S]
      exact fin rfl
    · rw [if_neg (by decide), if_neg (by decide), if_neg (by decide), if_neg (by decide), if_neg (by decide), if_neg (by decide), if_neg (by decide), if_pos (by decide)]
      exact fin (show _ = now 14 from tq_g14 hP)
    · rw [if_neg (by decide), if_neg (by decide), if_neg (by decide), if_neg (by decide), if_neg (by decide), if_neg (by decide), if_neg (by decide), if_neg (by decide), if_pos (by decide)]
      exact fin (show _ = now 5 from tq_g5 hP)
    · rw [if_neg (by decide), if_neg (by decide), if_neg (by decide), if_neg (by decide), if_neg (by decide), if_neg (by decide), if_neg (by decide), if_neg (by decide), if_neg (by decide), if_pos (by decide)]
      exact fin (show _ = now 6 from tq_g6 hP)
    · rw [if_neg (by decide), if_neg (by decide), if_neg (by decide), if_neg (by decide), if_neg (by decide), if_neg (by decide), if_neg (by decide), if_neg (by decide), if_neg (by decide), if_neg (by decide), if_pos (by decide)]
      exact fin (show _ = now 7 from tq_g7 hP)
    · rw [if_neg (by decide), if_neg (by decide), if_neg (by decide), if_neg (by decide), if_neg (by decide), if_neg (by decide), if_neg (by decide), if_neg (by decide), if_neg (by decide), if_neg (by decide), if_neg (by decide), if_pos (by decide)]
      exact fin (show _ = now 8 from tq_g8 hP)
    · rw [if_neg (by decide), if_neg (by decide), if_neg (by decide), if_neg (by decide), if_neg (by decide), if_neg (by decide), if_neg (by decide), if_neg (by decide), if_neg (by decide), if_neg (by decide), if_neg (by decide), if_neg (by decide)]
      exact fin (show _ = now 9 from tq_g9 hP)
    · rw [if_pos (by decide)]
      exact fin (show _ = now 10 from tq_g10 hP)
  · rcases e : tp_iw w 0 12 with _ | _
    · exact tp_CAn h (by decide)
    · rw [e] at hne; exact absurd rfl hne
theorem tc_galleryOf (h : tp_CI z len tx now hn hist sl kp u) (hs : tp_SO len tx now hn hist sl kp) {g w : Int32} : tp_T (f9_galleryOf z g w u) (fun p => if tp_ig now g = true then (if tp_iw w 0 5 = true then tp_CA z u 0 (tp_gq now (tp_cl g) (tp_cl w)) len tx now hn hist sl kp p else tp_CA z u 2 0 len tx now hn hist sl kp p) else tp_CA z u 1 0 len tx now hn hist sl kp p) := by
  have hP := tp_P_rf h.1.2.2.1
  have hr := hs.2.2.1.1
  unfold f9_galleryOf
  rw [tc_hasGallery hP, tp_b2S, tc_within, tp_b2S]
  refine tc_dem (tp_ig now g) (tp_iw w 0 5) true rfl rfl rfl (fun e0 e _ => ?_) (fun hne => ?_)
  · obtain ⟨g, g1, rfl⟩ := (tp_ig_N hr).mp e0
    have hg : g < 3 := by have := (tp_r0 hr).2; omega
    obtain ⟨n, n0, n1, rfl⟩ := tp_iw_N (L := 0) (B := 5) rfl rfl (by decide) (by decide) e
    have hcl : tp_cl (nI n) = n := tp_cn (by omega)
    have hcg : tp_cl (nI g) = g := tp_cn (by omega)
    have e1 : (nI n).toInt = (n : Int) := tp_ti (by omega)
    have fin : ∀ {x : Int32}, x = tp_gq now (g) (n) → tp_T (some ((0 : Nat), x, u)) (fun p => if tp_ig now (nI g) = true then (if tp_iw (nI n) 0 5 = true then tp_CA z u 0 (tp_gq now (tp_cl (nI g)) (tp_cl (nI n))) len tx now hn hist sl kp p else tp_CA z u 2 0 len tx now hn hist sl kp p) else tp_CA z u 1 0 len tx now hn hist sl kp p) := by
      intro x hx
      refine tp_ret ?_
      show (if tp_ig now (nI g) = true then (if tp_iw (nI n) 0 5 = true then _ else _) else _ : Prop)
      rw [if_pos e0, if_pos e]
      try rw [hcl]
      rw [hcg]
      exact tp_CAs h hx
    rw [tl_gs (tp_ix hg (by omega)), tp_cn (by omega), e1]
    have : n = 0 ∨ n = 1 ∨ n = 2 ∨ n = 3 ∨ n = 4 ∨ n = 5 := by omega
    rcases this with rfl | rfl | rfl | rfl | rfl | rfl
    · rw [if_neg (by decide), if_pos (by decide)]
      exact fin (tq_gG0 hP hg)
    · rw [if_neg (by decide), if_neg (by decide), if_pos (by decide)]
      exact fin (tq_gG1 hP hg)
    · rw [if_neg (by decide), if_neg (by decide), if_neg (by decide), if_pos (by decide)]
      unfold f9_strokesFor
      rw [tp_b2S, tq_gG0 hP hg]
      exact fin rfl
    · rw [if_neg (by decide), if_neg (by decide), if_neg (by decide), if_neg (by decide), if_pos (by decide), tq_gG0 hP hg, tc_isLit hP hr, tp_b2S, tp_if0]
      have e3 : tp_gq now g 3 = tp_b01 (tp_lit now (nI g) (now (18 + 2 * g))) := rfl
      rcases e4 : tp_lit now (nI g) (now (18 + 2 * g)) with _ | _
      · rw [if_neg (by decide)]; exact fin (by rw [e3, e4]; rfl)
      · rw [if_pos rfl]; exact fin (by rw [e3, e4]; rfl)
    · rw [if_neg (by decide), if_neg (by decide), if_neg (by decide), if_neg (by decide), if_neg (by decide), tc_minersIn hP hr, tp_b2S]
      exact fin rfl
    · rw [if_pos (by decide), tc_lampsIn hP hr, tp_b2S]
      exact fin rfl
  · rcases e0 : tp_ig now g with _ | _
    · exact tp_CAn (t := 1) h (by decide)
    · show (if tp_iw w 0 5 = true then _ else _ : Prop)
      rcases e : tp_iw w 0 5 with _ | _
      · exact tp_CAn (t := 2) h (by decide)
      · rw [e0, e] at hne; exact absurd rfl hne
theorem tc_minerOf (h : tp_CI z len tx now hn hist sl kp u) (hs : tp_SO len tx now hn hist sl kp) {g w : Int32} : tp_T (f9_minerOf z g w u) (fun p => if tp_im now g = true then (if tp_iw w 0 3 = true then tp_CA z u 0 (now (24 + 4 * (tp_cl g) + (tp_cl w))) len tx now hn hist sl kp p else tp_CA z u 2 0 len tx now hn hist sl kp p) else tp_CA z u 1 0 len tx now hn hist sl kp p) := by
  have hP := tp_P_rf h.1.2.2.1
  have hr := hs.2.2.1.1
  unfold f9_minerOf
  rw [tc_hasMiner hP, tp_b2S, tc_within, tp_b2S]
  refine tc_dem (tp_im now g) (tp_iw w 0 3) true rfl rfl rfl (fun e0 e _ => ?_) (fun hne => ?_)
  · obtain ⟨g, g1, rfl⟩ := (tp_im_N hr).mp e0
    have hg : g < 6 := by have := (tp_r1 hr).2; omega
    obtain ⟨n, n0, n1, rfl⟩ := tp_iw_N (L := 0) (B := 3) rfl rfl (by decide) (by decide) e
    have hcl : tp_cl (nI n) = n := tp_cn (by omega)
    have hcg : tp_cl (nI g) = g := tp_cn (by omega)
    have e1 : (nI n).toInt = (n : Int) := tp_ti (by omega)
    have fin : ∀ {x : Int32}, x = now (24 + 4 * (g) + (n)) → tp_T (some ((0 : Nat), x, u)) (fun p => if tp_im now (nI g) = true then (if tp_iw (nI n) 0 3 = true then tp_CA z u 0 (now (24 + 4 * (tp_cl (nI g)) + (tp_cl (nI n)))) len tx now hn hist sl kp p else tp_CA z u 2 0 len tx now hn hist sl kp p) else tp_CA z u 1 0 len tx now hn hist sl kp p) := by
      intro x hx
      refine tp_ret ?_
      show (if tp_im now (nI g) = true then (if tp_iw (nI n) 0 3 = true then _ else _) else _ : Prop)
      rw [if_pos e0, if_pos e]
      try rw [hcl]
      rw [hcg]
      exact tp_CAs h hx
    rw [tl_gs (tp_ix hg (by omega)), tp_cn (by omega), e1]
    have : n = 0 ∨ n = 1 ∨ n = 2 ∨ n = 3 := by omega
    rcases this with rfl | rfl | rfl | rfl
    · rw [if_neg (by decide), if_pos (by decide)]
      exact fin (tq_gM0 hP hg)
    · rw [if_neg (by decide), if_neg (by decide), if_pos (by decide)]
      exact fin (by rw [show 24 + 4 * g + 1 = 25 + 4 * g by omega]; exact tq_gM1 hP hg)
    · rw [if_neg (by decide), if_neg (by decide), if_neg (by decide)]
      exact fin (by rw [show 24 + 4 * g + 2 = 26 + 4 * g by omega]; exact tq_gM2 hP hg)
    · rw [if_pos (by decide)]
      exact fin (by rw [show 24 + 4 * g + 3 = 27 + 4 * g by omega]; exact tq_gM3 hP hg)
  · rcases e0 : tp_im now g with _ | _
    · exact tp_CAn (t := 1) h (by decide)
    · show (if tp_iw w 0 3 = true then _ else _ : Prop)
      rcases e : tp_iw w 0 3 with _ | _
      · exact tp_CAn (t := 2) h (by decide)
      · rw [e0, e] at hne; exact absurd rfl hne
theorem tc_lampOf (h : tp_CI z len tx now hn hist sl kp u) (hs : tp_SO len tx now hn hist sl kp) {g w : Int32} : tp_T (f9_lampOf z g w u) (fun p => if tp_il now g = true then (if tp_iw w 0 4 = true then tp_CA z u 0 (tp_lq now (tp_cl g) (tp_cl w)) len tx now hn hist sl kp p else tp_CA z u 2 0 len tx now hn hist sl kp p) else tp_CA z u 1 0 len tx now hn hist sl kp p) := by
  have hP := tp_P_rf h.1.2.2.1
  have hr := hs.2.2.1.1
  unfold f9_lampOf
  rw [tc_hasLamp hP, tp_b2S, tc_within, tp_b2S]
  refine tc_dem (tp_il now g) (tp_iw w 0 4) true rfl rfl rfl (fun e0 e _ => ?_) (fun hne => ?_)
  · obtain ⟨g, g1, rfl⟩ := (tp_il_N hr).mp e0
    have hg : g < 8 := by have := (tp_r2 hr).2; omega
    obtain ⟨n, n0, n1, rfl⟩ := tp_iw_N (L := 0) (B := 4) rfl rfl (by decide) (by decide) e
    have hcl : tp_cl (nI n) = n := tp_cn (by omega)
    have hcg : tp_cl (nI g) = g := tp_cn (by omega)
    have e1 : (nI n).toInt = (n : Int) := tp_ti (by omega)
    have fin : ∀ {x : Int32}, x = tp_lq now (g) (n) → tp_T (some ((0 : Nat), x, u)) (fun p => if tp_il now (nI g) = true then (if tp_iw (nI n) 0 4 = true then tp_CA z u 0 (tp_lq now (tp_cl (nI g)) (tp_cl (nI n))) len tx now hn hist sl kp p else tp_CA z u 2 0 len tx now hn hist sl kp p) else tp_CA z u 1 0 len tx now hn hist sl kp p) := by
      intro x hx
      refine tp_ret ?_
      show (if tp_il now (nI g) = true then (if tp_iw (nI n) 0 4 = true then _ else _) else _ : Prop)
      rw [if_pos e0, if_pos e]
      try rw [hcl]
      rw [hcg]
      exact tp_CAs h hx
    rw [tl_gs (tp_ix hg (by omega)), tp_cn (by omega), e1]
    have : n = 0 ∨ n = 1 ∨ n = 2 ∨ n = 3 ∨ n = 4 := by omega
    rcases this with rfl | rfl | rfl | rfl | rfl
    · rw [if_neg (by decide), if_pos (by decide)]
      exact fin (by unfold tp_lq; rw [if_neg (by decide)]; exact tq_gL0 hP hg)
    · rw [if_neg (by decide), if_neg (by decide), if_pos (by decide)]
      exact fin (by unfold tp_lq; rw [if_neg (by decide), show 48 + 4 * g + 1 = 49 + 4 * g by omega]; exact tq_gL1 hP hg)
    · rw [if_neg (by decide), if_neg (by decide), if_neg (by decide), if_pos (by decide)]
      exact fin (by unfold tp_lq; rw [if_neg (by decide), show 48 + 4 * g + 2 = 50 + 4 * g by omega]; exact tq_gL2 hP hg)
    · rw [if_neg (by decide), if_neg (by decide), if_neg (by decide), if_neg (by decide)]
      exact fin (by unfold tp_lq; rw [if_neg (by decide), show 48 + 4 * g + 3 = 51 + 4 * g by omega]; exact tq_gL3 hP hg)
    · rw [if_pos (by decide), tq_gL1 hP hg]
      have e3 : tp_lq now g 4 = if now (49 + 4 * g) ≤ 0 then 0 else 1 := rfl
      by_cases c : now (49 + 4 * g) ≤ 0
      · rw [if_pos c]; exact fin (by rw [e3, if_pos c])
      · rw [if_neg c]; exact fin (by rw [e3, if_neg c])
  · rcases e0 : tp_il now g with _ | _
    · exact tp_CAn (t := 1) h (by decide)
    · show (if tp_iw w 0 4 = true then _ else _ : Prop)
      rcases e : tp_iw w 0 4 with _ | _
      · exact tp_CAn (t := 2) h (by decide)
      · rw [e0, e] at hne; exact absurd rfl hne
theorem tc_orderOf (h : tp_CI z len tx now hn hist sl kp u) (hs : tp_SO len tx now hn hist sl kp) {g w : Int32} : tp_T (f9_orderOf z g w u) (fun p => if tp_io now g = true then (if tp_iw w 0 3 = true then tp_CA z u 0 (now (80 + 4 * (tp_cl g) + (tp_cl w))) len tx now hn hist sl kp p else tp_CA z u 2 0 len tx now hn hist sl kp p) else tp_CA z u 1 0 len tx now hn hist sl kp p) := by
  have hP := tp_P_rf h.1.2.2.1
  have hr := hs.2.2.1.1
  unfold f9_orderOf
  rw [tc_hasOrder hP, tp_b2S, tc_within, tp_b2S]
  refine tc_dem (tp_io now g) (tp_iw w 0 3) true rfl rfl rfl (fun e0 e _ => ?_) (fun hne => ?_)
  · obtain ⟨g, g1, rfl⟩ := (tp_io_N hr).mp e0
    have hg : g < 6 := by have := (tp_r8 hr).2; omega
    obtain ⟨n, n0, n1, rfl⟩ := tp_iw_N (L := 0) (B := 3) rfl rfl (by decide) (by decide) e
    have hcl : tp_cl (nI n) = n := tp_cn (by omega)
    have hcg : tp_cl (nI g) = g := tp_cn (by omega)
    have e1 : (nI n).toInt = (n : Int) := tp_ti (by omega)
    have fin : ∀ {x : Int32}, x = now (80 + 4 * (g) + (n)) → tp_T (some ((0 : Nat), x, u)) (fun p => if tp_io now (nI g) = true then (if tp_iw (nI n) 0 3 = true then tp_CA z u 0 (now (80 + 4 * (tp_cl (nI g)) + (tp_cl (nI n)))) len tx now hn hist sl kp p else tp_CA z u 2 0 len tx now hn hist sl kp p) else tp_CA z u 1 0 len tx now hn hist sl kp p) := by
      intro x hx
      refine tp_ret ?_
      show (if tp_io now (nI g) = true then (if tp_iw (nI n) 0 3 = true then _ else _) else _ : Prop)
      rw [if_pos e0, if_pos e]
      try rw [hcl]
      rw [hcg]
      exact tp_CAs h hx
    have hO := hs.2.2.1.2.2.1 g g1
    obtain ⟨m0, m1, m2, m3⟩ := h.1.2.2.1.2.2 g hg g1
    have oo := h.1.2.2.1.2.1.1 g hg
    rw [tl_gs (tp_ix hg (by omega)), tp_cn (by omega)]
    show tp_T (tl_g (z + 9 < u.2.1 (z + 9) g ∧ u.2.1 (z + 9) g < z + 9 + 7) (if u.1 (u.2.1 (z + 9) g) 0 = 0 then f9_orderOf_p46 (nI n) (u.2.1 (z + 9) g) 1 u else f9_orderOf_p46 (nI n) (u.2.1 (z + 9) g) 0 u)) _
    have oo : z + 9 < u.2.1 (z + 9) g ∧ u.2.1 (z + 9) g < z + 16 := oo
    have m0 : u.1 (u.2.1 (z + 9) g) 0 = now (80 + 4 * g) := m0
    have m1 : u.1 (u.2.1 (z + 9) g) 1 = now (81 + 4 * g) := m1
    have m2 : now (80 + 4 * g) = 0 → u.1 (u.2.1 (z + 9) g) 2 = now (82 + 4 * g) ∧ u.1 (u.2.1 (z + 9) g) 3 = now (83 + 4 * g) := m2
    have m3 : now (80 + 4 * g) ≠ 0 → u.1 (u.2.1 (z + 9) g) 4 = now (82 + 4 * g) := m3
    have i1 : 80 + 4 * g + 1 = 81 + 4 * g := by omega
    have i2 : 80 + 4 * g + 2 = 82 + 4 * g := by omega
    have i3 : 80 + 4 * g + 3 = 83 + 4 * g := by omega
    rw [tl_gs (by omega), m0]
    by_cases c : now (80 + 4 * g) = 0
    · rw [if_pos c]
      unfold f9_orderOf_p46
      rw [e1]
      have : n = 0 ∨ n = 1 ∨ n = 2 ∨ n = 3 := by omega
      rcases this with rfl | rfl | rfl | rfl
      · rw [if_neg (by decide), if_pos (by decide)]
        exact fin m0
      · rw [if_neg (by decide), if_neg (by decide), if_pos (by decide)]
        exact fin (by rw [i1]; exact m1)
      · rw [if_neg (by decide), if_neg (by decide), if_neg (by decide), if_neg (by decide)]
        exact fin (by rw [i2]; exact (m2 c).1)
      · rw [if_pos (by decide), if_neg (by decide)]
        exact fin (by rw [i3]; exact (m2 c).2)
    · rw [if_neg c]
      unfold f9_orderOf_p46
      rw [e1]
      have : n = 0 ∨ n = 1 ∨ n = 2 ∨ n = 3 := by omega
      rcases this with rfl | rfl | rfl | rfl
      · rw [if_neg (by decide), if_pos (by decide)]
        exact fin m0
      · rw [if_neg (by decide), if_neg (by decide), if_pos (by decide)]
        exact fin (by rw [i1]; exact m1)
      · rw [if_neg (by decide), if_neg (by decide), if_neg (by decide), if_pos rfl]
        exact fin (by rw [i2]; exact m3 c)
      · rw [if_pos (by decide), if_pos rfl]
        exact fin (by rw [i3]; exact (hO.2.2 c).symm)
  · rcases e0 : tp_io now g with _ | _
    · exact tp_CAn (t := 1) h (by decide)
    · show (if tp_iw w 0 3 = true then _ else _ : Prop)
      rcases e : tp_iw w 0 3 with _ | _
      · exact tp_CAn (t := 2) h (by decide)
      · rw [e0, e] at hne; exact absurd rfl hne
theorem tc_lit (h : tp_CI z len tx now hn hist sl kp u) (hs : tp_SO len tx now hn hist sl kp) {g w : Int32} : tp_T (f9_lit z g w u) (fun p => if tp_ig now g = true then (if tp_iw w 0 1 = true then tp_CA z u 0 (nI (tp_litn now (tp_cl g))) len tx now hn hist sl kp p else tp_CA z u 2 0 len tx now hn hist sl kp p) else tp_CA z u 1 0 len tx now hn hist sl kp p) := by
  have hP := tp_P_rf h.1.2.2.1
  have hr := hs.2.2.1.1
  unfold f9_lit
  rw [tc_hasGallery hP, tp_b2S, tc_within, tp_b2S]
  refine tc_dem (tp_ig now g) (tp_iw w 0 1) true rfl rfl rfl (fun e0 e _ => ?_) (fun hne => ?_)
  · obtain ⟨g, g1, rfl⟩ := (tp_ig_N hr).mp e0
    have hg : g < 3 := by have := (tp_r0 hr).2; omega
    obtain ⟨n, n0, n1, rfl⟩ := tp_iw_N (L := 0) (B := 1) rfl rfl (by decide) (by decide) e
    have hcl : tp_cl (nI n) = n := tp_cn (by omega)
    have hcg : tp_cl (nI g) = g := tp_cn (by omega)
    have e1 : (nI n).toInt = (n : Int) := tp_ti (by omega)
    have fin : ∀ {x : Int32}, x = nI (tp_litn now (g)) → tp_T (some ((0 : Nat), x, u)) (fun p => if tp_ig now (nI g) = true then (if tp_iw (nI n) 0 1 = true then tp_CA z u 0 (nI (tp_litn now (tp_cl (nI g)))) len tx now hn hist sl kp p else tp_CA z u 2 0 len tx now hn hist sl kp p) else tp_CA z u 1 0 len tx now hn hist sl kp p) := by
      intro x hx
      refine tp_ret ?_
      show (if tp_ig now (nI g) = true then (if tp_iw (nI n) 0 1 = true then _ else _) else _ : Prop)
      rw [if_pos e0, if_pos e]
      try rw [hcl]
      rw [hcg]
      exact tp_CAs h hx
    have e0' : (nI n = 0) = (n = 0) := by rw [tp_k0, tp_eq (by omega) (by decide)]
    by_cases c : n = 0
    · rw [if_pos (e0'.mpr c), tc_litc hP hr g1, tp_b2S]
      exact fin rfl
    · rw [if_neg (fun z => c (e0'.mp z)), tc_spans hP hr g1, tp_b2S]
      exact fin rfl
  · rcases e0 : tp_ig now g with _ | _
    · exact tp_CAn (t := 1) h (by decide)
    · show (if tp_iw w 0 1 = true then _ else _ : Prop)
      rcases e : tp_iw w 0 1 with _ | _
      · exact tp_CAn (t := 2) h (by decide)
      · rw [e0, e] at hne; exact absurd rfl hne
theorem tc_steps (h : tp_CI z len tx now hn hist sl kp u) (hs : tp_SO len tx now hn hist sl kp) {g c g2 c2 : Int32} : tp_T (f9_steps z g c g2 c2 u) (fun p => if (tp_ic now g c && tp_ic now g2 c2) = true then tp_CA z u 0 (tp_bt g c g2 c2) len tx now hn hist sl kp p else tp_CA z u 1 0 len tx now hn hist sl kp p) := by
  have hP := tp_P_rf h.1.2.2.1
  have hr := hs.2.2.1.1
  unfold f9_steps
  rw [tc_hasCell hP hr, tp_b2S, tp_if0]
  have bad : (tp_ic now g c && tp_ic now g2 c2) = false → tp_T (f9_steps_p29 g c g2 c2 u) (fun p => if (tp_ic now g c && tp_ic now g2 c2) = true then tp_CA z u 0 (tp_bt g c g2 c2) len tx now hn hist sl kp p else tp_CA z u 1 0 len tx now hn hist sl kp p) := by
    intro e
    unfold f9_steps_p29 f9_steps_p30
    refine tc_dem false true true rfl rfl rfl (fun q => absurd q (by decide)) (fun _ => ?_)
    rw [e, if_neg (by decide)]
    exact tp_CAn h (by decide)
  rcases e1 : tp_ic now g c with _ | _
  · rw [e1, Bool.false_and] at bad
    rw [if_neg (by decide), Bool.false_and]
    exact bad rfl
  · rw [if_pos rfl, tc_hasCell hP hr, tp_b2S, tp_if0]
    rw [e1, Bool.true_and] at bad
    rw [Bool.true_and]
    rcases e2 : tp_ic now g2 c2 with _ | _
    · rw [e2] at bad
      rw [if_neg (by decide)]
      exact bad rfl
    · rw [if_pos rfl]
      unfold f9_steps_p30
      refine tc_dem true true true rfl rfl rfl (fun _ _ _ => ?_) (fun q => absurd rfl q)
      obtain ⟨n, k, n1, rfl, k1, rfl⟩ := (tp_ic_N hr).mp e1
      obtain ⟨n2, k2, n21, rfl, k21, rfl⟩ := (tp_ic_N hr).mp e2
      have b0 := (tp_r0 hr).2
      have d1 := (tp_rga hr (show n < 3 by omega)).2
      have d2 := (tp_rga hr (show n2 < 3 by omega)).2
      have fin : ∀ {x : Int32}, x = tp_bt (nI n) (nI k) (nI n2) (nI k2) → tp_T (some ((0 : Nat), x, u)) (fun p => if true = true then tp_CA z u 0 (tp_bt (nI n) (nI k) (nI n2) (nI k2)) len tx now hn hist sl kp p else tp_CA z u 1 0 len tx now hn hist sl kp p) := by
        intro x hx
        refine tp_ret ?_
        show (if true = true then _ else _ : Prop)
        rw [if_pos rfl]
        exact tp_CAs h hx
      have ee : (nI n = nI n2) = (n = n2) := tp_eq (by omega) (by omega)
      have el : (nI k2 ≤ nI k) = (k2 ≤ k) := tp_le (by omega) (by omega)
      by_cases c : n = n2
      · rw [if_pos (ee.mpr c)]
        have e0 : (0 ≤ nI k - nI k2) = (k2 ≤ k) := by
          rw [tp_lei, tp_ss (by omega) (by omega), show (0 : Int32).toInt = 0 from rfl]
          exact propext ⟨fun z => by omega, fun z => by omega⟩
        refine fin ?_
        unfold tp_bt
        rw [if_pos (ee.mpr c)]
        by_cases d : k2 ≤ k
        · rw [if_pos (e0.mpr d), if_pos (el.mpr d)]
        · rw [if_neg (fun z => d (e0.mp z)), if_neg (fun z => d (el.mp z)), tp_eqi, tp_ss (by omega) (by omega), tp_tsub (by rw [show (0 : Int32).toInt = 0 from rfl, tp_ss (by omega) (by omega)]; omega) (by rw [show (0 : Int32).toInt = 0 from rfl, tp_ss (by omega) (by omega)]; omega), show (0 : Int32).toInt = 0 from rfl, tp_ss (by omega) (by omega)]
          omega
      · rw [if_neg (fun z => c (ee.mp z))]
        refine fin ?_
        unfold tp_bt
        rw [if_neg (fun z => c (ee.mp z))]
def tp_CB (z : Nat) (u : tl_S) (q : Nat) (A B C D : Int32) (len : Nat) (tx now : tp_R) (hn : Nat) (hist : Nat → tp_R) (sl : Nat → Bool) (kp : Nat → tp_R) (p : Nat × Int32 × tl_S) : Prop :=
  (tp_rf q A B C D now ≠ 0 → tp_CA z u (tp_rf q A B C D now) 0 len tx now hn hist sl kp p) ∧ (tp_rf q A B C D now = 0 → tp_CA z u 0 (tp_pa q A B now) len tx (tp_pf q A B C D now) (tp_pn hn) (tp_ph hn hist now) sl kp p)
theorem tc_acts (h : tp_CI z len tx now hn hist sl kp u) (hs : tp_SO len tx now hn hist sl kp) {q : Nat} (h1 : 1 ≤ q) (h2 : q ≤ 10) {X A B C D : Int32} (hX : X = nI q) : tp_T (tl_bx (f9_act z X A B C D u) (fun x5 u4 => some (0, x5, u4))) (tp_CB z u q A B C D len tx now hn hist sl kp) := by
  refine tc_act1 (t := 0) (tc_act h hs h1 h2 hX) (fun t x y w ht hq => ⟨fun e => ?_, fun e => ?_⟩)
  · obtain ⟨q1, q2, q3, q4⟩ := hq.1 e
    exact ⟨q1, fun z => absurd z e, q3, q4⟩
  · obtain ⟨q1, -, -, -⟩ := hq.2 e
    exact absurd q1 ht
theorem tc_cgallery (h : tp_CI z len tx now hn hist sl kp u) (hs : tp_SO len tx now hn hist sl kp) {a : Int32} : tp_T (f9_gallery z a u) (tp_CB z u 1 a 0 0 0 len tx now hn hist sl kp) := tc_acts h hs (by decide) (by decide) rfl
theorem tc_cminer (h : tp_CI z len tx now hn hist sl kp u) (hs : tp_SO len tx now hn hist sl kp) {a b : Int32} : tp_T (f9_miner z a b u) (tp_CB z u 2 a b 0 0 len tx now hn hist sl kp) := tc_acts h hs (by decide) (by decide) rfl
theorem tc_csend (h : tp_CI z len tx now hn hist sl kp u) (hs : tp_SO len tx now hn hist sl kp) {a b : Int32} : tp_T (f9_send z a b u) (tp_CB z u 3 a b 0 0 len tx now hn hist sl kp) := tc_acts h hs (by decide) (by decide) rfl
theorem tc_clamp (h : tp_CI z len tx now hn hist sl kp u) (hs : tp_SO len tx now hn hist sl kp) {a b c d : Int32} : tp_T (f9_lamp z a b c d u) (tp_CB z u 4 a b c d len tx now hn hist sl kp) := tc_acts h hs (by decide) (by decide) rfl
theorem tc_cstore (h : tp_CI z len tx now hn hist sl kp u) (hs : tp_SO len tx now hn hist sl kp) {a : Int32} : tp_T (f9_store z a u) (tp_CB z u 5 a 0 0 0 len tx now hn hist sl kp) := tc_acts h hs (by decide) (by decide) rfl
theorem tc_chang (h : tp_CI z len tx now hn hist sl kp u) (hs : tp_SO len tx now hn hist sl kp) {a b c : Int32} : tp_T (f9_hang z a b c u) (tp_CB z u 6 a b c 0 len tx now hn hist sl kp) := tc_acts h hs (by decide) (by decide) rfl
theorem tc_cfill (h : tp_CI z len tx now hn hist sl kp u) (hs : tp_SO len tx now hn hist sl kp) {a b : Int32} : tp_T (f9_fill z a b u) (tp_CB z u 7 a b 0 0 len tx now hn hist sl kp) := tc_acts h hs (by decide) (by decide) rfl
theorem tc_cdrop (h : tp_CI z len tx now hn hist sl kp u) (hs : tp_SO len tx now hn hist sl kp) {a : Int32} : tp_T (f9_drop z a u) (tp_CB z u 8 a 0 0 0 len tx now hn hist sl kp) := tc_acts h hs (by decide) (by decide) rfl
theorem tc_cset (h : tp_CI z len tx now hn hist sl kp u) (hs : tp_SO len tx now hn hist sl kp) {a b : Int32} : tp_T (f9_set z a b u) (tp_CB z u 9 a b 0 0 len tx now hn hist sl kp) := tc_acts h hs (by decide) (by decide) rfl
theorem tc_chours (h : tp_CI z len tx now hn hist sl kp u) (hs : tp_SO len tx now hn hist sl kp) {a : Int32} : tp_T (f9_hours z a u) (tp_CB z u 10 a 0 0 0 len tx now hn hist sl kp) := tc_acts h hs (by decide) (by decide) rfl
theorem tc_undo (h : tp_CI z len tx now hn hist sl kp u) (hs : tp_SO len tx now hn hist sl kp) : tp_T (f9_undo z u) (fun p => if hn = 0 then tp_CA z u 3 0 len tx now hn hist sl kp p else tp_CA z u 0 (nI (hn - 1)) len tx (hist (hn - 1)) (hn - 1) hist sl kp p) := by
  obtain ⟨old, o1, o2, o3, o4⟩ := h.2.1
  have h14 := hs.2.2.2.1
  unfold f9_undo
  rw [o3]
  have e0 : (nI hn ≤ 0) = (hn ≤ 0) := tp_le0 (by omega)
  by_cases c : hn = 0
  · rw [if_pos (e0.mpr (by omega))]
    refine tc_dem true true false rfl rfl rfl (fun _ _ q => absurd q (by decide)) (fun _ => ?_)
    rw [if_pos c]
    exact tp_CAn h (by decide)
  · rw [if_neg (fun z => by have := e0.mp z; omega)]
    refine tc_dem true true true rfl rfl rfl (fun _ _ _ => ?_) (fun q => absurd rfl q)
    refine tp_b (tc_takeBack h (fun i hi => (hs.2.2.2.2.1 i hi).1) h14 (by omega)) (fun v hv => ?_)
    obtain ⟨hv, F⟩ := hv
    refine tp_ret ?_
    rw [if_neg c]
    obtain ⟨old2, p1, p2, p3, p4⟩ := hv.2.1
    exact ⟨rfl, fun _ => p3, tp_FR_m F (by unfold tp_ZS; intro q; omega), hv⟩
end TQE
