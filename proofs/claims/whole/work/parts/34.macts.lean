/-! The reference's actions. -/
def tp_AQ (m : Nat) (u : tl_S) (l : List Nat) (q : Nat) (a b c d : Int32) (len : Nat) (tx now : tp_R) (hn : Nat) (hist : Nat → tp_R) (sl : Nat → Bool) (kp : Nat → tp_R) (p : Int32 × tl_S) : Prop :=
  p.2.1 m 0 = nI (tp_cd l (tp_rf q a b c d now)) ∧ tp_FM m u p.2 ∧
  (tp_rf q a b c d now = 0 → p.1 = tp_pa q a b now ∧ tp_MI m len tx (tp_pf q a b c d now) (tp_pn hn) (tp_ph hn hist now) sl kp p.2) ∧
  (tp_rf q a b c d now ≠ 0 → tp_MI m len tx now hn hist sl kp p.2)
theorem tp_tv {α : Type} {F : tl_S → Option (α × tl_S)} {u : tl_S} {b : Nat} {r : tp_R} {x : α} (e : u.1 b = r) (H : F (tp_w u b r) = some (x, tp_w u b r)) : F u = some (x, u) := by rw [tp_we e] at H; exact H
theorem tp_tv2 {α : Type} {F : tl_S → Option (α × tl_S)} {u : tl_S} {b : Nat} {r r2 : tp_R} {x : α} (e : u.1 b = r) (H : F (tp_w u b r) = some (x, tp_w u b r2)) : F u = some (x, tp_w u b r2) := by
  have h : tp_w u b r = u := tp_we e
  rw [h] at H
  exact H
theorem tp_tv3 {F : tl_S → Option tl_S} {u : tl_S} {b : Nat} {r r2 : tp_R} (e : u.1 b = r) (H : F (tp_w u b r) = some (tp_w u b r2)) : F u = some (tp_w u b r2) := by
  have h : tp_w u b r = u := tp_we e
  rw [h] at H
  exact H
section TPY
variable {m len : Nat} {tx now : tp_R} {hn : Nat} {hist : Nat → tp_R} {sl : Nat → Bool} {kp : Nat → tp_R} {u : tl_S}
theorem tp_AQn {l : List Nat} {q k t : Nat} {a b c d : Int32} {v : tl_S} (ht : tp_rf q a b c d now = t) (h0 : t ≠ 0) (hc : tp_cd l t = k) (v0 : v.1 m 0 = nI k) (vF : tp_FM m u v) (vM : tp_MI m len tx now hn hist sl kp v) : tp_AQ m u l q a b c d len tx now hn hist sl kp (0, v) := by
  subst ht
  exact ⟨by rw [hc]; exact v0, vF, fun z => absurd z h0, fun _ => vM⟩
theorem tp_cd0 : ∀ l : List Nat, 0 ∉ l → tp_cd l 0 = 0
  | [], _ => rfl
  | a :: l, h => by
    unfold tp_cd
    rw [if_neg (fun z => h (by rw [z]; exact List.mem_cons_self)), tp_cd0 l (fun z => h (List.mem_cons_of_mem _ z)), if_pos rfl]
theorem tp_AQy {l : List Nat} {q : Nat} {a b c d x : Int32} {v : tl_S} (ht : tp_rf q a b c d now = 0) (hc : tp_cd l 0 = 0) (hx : x = tp_pa q a b now) (v0 : v.1 m 0 = 0) (vF : tp_FM m u v) (vM : tp_MI m len tx (tp_pf q a b c d now) (tp_pn hn) (tp_ph hn hist now) sl kp v) : tp_AQ m u l q a b c d len tx now hn hist sl kp (x, v) := by
  unfold tp_AQ
  rw [ht, hc]
  exact ⟨v0, vF, fun _ => ⟨hx, vM⟩, fun z => absurd rfl z⟩
theorem tm_gallery (h : tp_MI m len tx now hn hist sl kp u) (hs : tp_SO len tx now hn hist sl kp) {a : Int32} : tp_T (f10_gallery m a u) (tp_AQ m u [2, 3] 1 a 0 0 0 len tx now hn hist sl kp) := by
  have hM := h.2.2.1
  have hO := hs.2.2.1
  unfold f10_gallery
  rw [tp_in_l (y := 1) (z := 60) (Y := 1) (Z := 60) (by decide) (by decide), tp_b2S, tp_if0]
  rcases e : tp_iw a 1 60 with _ | _
  · rw [if_neg (by decide)]
    unfold f10_gallery_p32
    exact tm_no (c := 1) rfl (by decide) (by decide) h (fun v => tp_AQn (t := 2) (by unfold tp_rf tp_ro; rw [if_pos rfl, e]; rfl) (by decide) rfl)
  · rw [if_pos rfl, hM]
    by_cases c : 3 ≤ now 0
    · rw [if_pos c]
      unfold f10_gallery_p32
      exact tm_no (c := 2) rfl (by decide) (by decide) h (fun v => tp_AQn (t := 3) (by unfold tp_rf tp_ro; rw [if_pos rfl, e, decide_eq_true c]; rfl) (by decide) rfl)
    · rw [if_neg c]
      have hc : (!decide (3 ≤ now 0)) = true := by simp [c]
      unfold f10_gallery_p32
      refine tm_act (n2 := tp_ga a now) (x := now 0) h hs (fun v e2 => ?_) (fun v => tp_AQy (tp_rf1.mpr ⟨e, hc⟩) rfl rfl)
      rw [tp_tv2 (F := f10_galleryOn (m + 2) a) e2 (tr_galleryOn hO.1 ((tp_ge_N (tp_r0 hO.1).1 (by have := (tp_r0 hO.1).2; omega) tp_k3 (by decide)).mp hc)), tp_b2S]
theorem tm_miner (h : tp_MI m len tx now hn hist sl kp u) (hs : tp_SO len tx now hn hist sl kp) {a b : Int32} : tp_T (f10_miner m a b u) (tp_AQ m u [1, 2, 3] 2 a b 0 0 len tx now hn hist sl kp) := by
  have hM := h.2.2.1
  have hO := hs.2.2.1
  unfold f10_miner
  rw [tp_tv (F := f10_isGallery (m + 2) a) hM (tr_isGallery hO.1), tp_b2S, tp_if0]
  rcases e : tp_ig now a with _ | _
  · rw [if_neg (by decide)]
    unfold f10_miner_p48
    exact tm_no (c := 1) rfl (by decide) (by decide) h (fun v => tp_AQn (t := 1) (by unfold tp_rf tp_ro; rw [if_neg (by decide), if_pos rfl, e]; rfl) (by decide) rfl)
  · rw [if_pos rfl, tp_in_l (y := 1) (z := 5) (Y := 1) (Z := 5) (by decide) (by decide), tp_b2S, tp_if0]
    rcases e2 : tp_iw b 1 5 with _ | _
    · rw [if_neg (by decide)]
      unfold f10_miner_p48
      exact tm_no (c := 2) rfl (by decide) (by decide) h (fun v => tp_AQn (t := 2) (by unfold tp_rf tp_ro; rw [if_neg (by decide), if_pos rfl, e, e2]; rfl) (by decide) rfl)
    · rw [if_pos rfl, tp_tv (F := f10_canMiner (m + 2) a) hM (tr_canMiner hO.1), tp_b2S, tp_if0, e, Bool.true_and]
      rcases e3 : (!decide (6 ≤ now 1)) with _ | _
      · rw [if_neg (by decide)]
        unfold f10_miner_p48
        exact tm_no (c := 3) rfl (by decide) (by decide) h (fun v => tp_AQn (t := 3) (by unfold tp_rf tp_ro; rw [if_neg (by decide), if_pos rfl, e, e2, e3]; rfl) (by decide) rfl)
      · rw [if_pos rfl]
        unfold f10_miner_p48
        refine tm_act (n2 := tp_mi a b now) (x := now 1) h hs (fun v q => ?_) (fun v => tp_AQy (tp_rf2.mpr ⟨e, e2, e3⟩) rfl rfl)
        rw [tp_tv2 (F := f10_minerOn (m + 2) a b) q (tr_minerOn hO.1 ((tp_ge_N (tp_r1 hO.1).1 (by have := (tp_r1 hO.1).2; omega) tp_k6 (by decide)).mp e3)), tp_b2S]
theorem tm_send (h : tp_MI m len tx now hn hist sl kp u) (hs : tp_SO len tx now hn hist sl kp) {a b : Int32} : tp_T (f10_send m a b u) (tp_AQ m u [1] 3 a b 0 0 len tx now hn hist sl kp) := by
  have hM := h.2.2.1
  have hO := hs.2.2.1
  have bad : (tp_im now a && tp_ig now b) = false → tp_T (f10_send_p27 m a b m u) (tp_AQ m u [1] 3 a b 0 0 len tx now hn hist sl kp) := by
    intro e
    unfold f10_send_p27 f10_send_p28
    exact tm_no (c := 1) rfl (by decide) (by decide) h (fun v => tp_AQn (t := 1) (by unfold tp_rf tp_ro; rw [if_neg (by decide), if_neg (by decide), if_pos rfl, e]; rfl) (by decide) rfl)
  unfold f10_send
  rw [tp_tv (F := f10_isMiner (m + 2) a) hM (tr_isMiner hO.1), tp_b2S, tp_if0]
  rcases e : tp_im now a with _ | _
  · rw [if_neg (by decide)]
    exact bad (by rw [e]; rfl)
  · rw [if_pos rfl, tp_tv (F := f10_isGallery (m + 2) b) hM (tr_isGallery hO.1), tp_b2S, tp_if0]
    rcases e2 : tp_ig now b with _ | _
    · rw [if_neg (by decide)]
      exact bad (by rw [e, e2]; rfl)
    · rw [if_pos rfl]
      obtain ⟨n, n1, rfl⟩ := (tp_im_N hO.1).mp e
      have b1 := (tp_r1 hO.1).2
      have hp : tp_pf 3 (nI n) b 0 0 now = tp_up now (24 + 4 * n) b := by
        show tp_up now (24 + 4 * tp_cl (nI n)) b = _
        unfold tp_cl
        rw [tp_cn (by omega)]
      have hp2 : now (24 + 4 * n) = tp_pa 3 (nI n) b now := by
        show _ = now (24 + 4 * tp_cl (nI n))
        unfold tp_cl
        rw [tp_cn (by omega)]
      unfold f10_send_p28
      refine tm_act (n2 := tp_up now (24 + 4 * n) b) (x := now (24 + 4 * n)) h hs (fun v q => ?_) (fun v => ?_)
      · rw [tp_tv2 (F := f10_change (m + 2) (24 + 4 * nI n) b) q (tr_change (tp_j24 n) (by omega)), tp_b2S]
      · rw [← hp]
        exact tp_AQy (tp_rf3.mpr (by rw [e, e2]; rfl)) rfl hp2
theorem tm_lamp (h : tp_MI m len tx now hn hist sl kp u) (hs : tp_SO len tx now hn hist sl kp) {a b c d : Int32} : tp_T (f10_lamp m a b c d u) (tp_AQ m u [1, 2, 3] 4 a b c d len tx now hn hist sl kp) := by
  have hM := h.2.2.1
  have hO := hs.2.2.1
  unfold f10_lamp
  rw [tp_tv (F := f10_isCell (m + 2) a b) hM (tr_isCell hO.1), tp_b2S, tp_if0]
  have hr : tp_rf 4 a b c d now = tp_ro (tp_ic now a b) (tp_iw c 1 9 && tp_iw d 0 99) (!decide (8 ≤ now 2)) := by
    unfold tp_rf; rw [if_neg (by decide), if_neg (by decide), if_neg (by decide), if_pos rfl]
  rcases e : tp_ic now a b with _ | _
  · rw [if_neg (by decide)]
    unfold f10_lamp_p63
    exact tm_no (c := 1) rfl (by decide) (by decide) h (fun v => tp_AQn (t := 1) (by rw [hr, e]; rfl) (by decide) rfl)
  · have bad : (tp_iw c 1 9 && tp_iw d 0 99) = false → tp_T (f10_lamp_p42 m a b c d m u) (tp_AQ m u [1, 2, 3] 4 a b c d len tx now hn hist sl kp) := by
      intro e2
      unfold f10_lamp_p42 f10_lamp_p63
      exact tm_no (c := 2) rfl (by decide) (by decide) h (fun v => tp_AQn (t := 2) (by rw [hr, e, e2]; rfl) (by decide) rfl)
    rw [if_pos rfl, tp_in_l (y := 1) (z := 9) (Y := 1) (Z := 9) (by decide) (by decide), tp_b2S, tp_if0]
    rcases e2 : tp_iw c 1 9 with _ | _
    · rw [if_neg (by decide)]
      exact bad (by rw [e2]; rfl)
    · rw [if_pos rfl, tp_in_l (y := 0) (z := 99) (Y := 0) (Z := 99) (by decide) (by decide), tp_b2S, tp_if0]
      rcases e3 : tp_iw d 0 99 with _ | _
      · rw [if_neg (by decide)]
        exact bad (by rw [e2, e3]; rfl)
      · rw [if_pos rfl, tp_tv (F := f10_canLamp (m + 2) a b) hM (tr_canLamp hO.1), tp_b2S, tp_if0, e, Bool.true_and]
        rcases e4 : (!decide (8 ≤ now 2)) with _ | _
        · rw [if_neg (by decide)]
          unfold f10_lamp_p63
          exact tm_no (c := 3) rfl (by decide) (by decide) h (fun v => tp_AQn (t := 3) (by rw [hr, e, e2, e3, e4]; rfl) (by decide) rfl)
        · rw [if_pos rfl]
          unfold f10_lamp_p63
          refine tm_act (n2 := tp_la a b c d now) (x := now 2) h hs (fun v q => ?_) (fun v => tp_AQy (by rw [hr, e, e2, e3, e4]; rfl) rfl rfl)
          rw [tp_tv2 (F := f10_lampOn (m + 2) a b c d) q (tr_lampOn hO.1 ((tp_ge_N (tp_r2 hO.1).1 (by have := (tp_r2 hO.1).2; omega) tp_k8 (by decide)).mp e4)), tp_b2S]
theorem tm_store (h : tp_MI m len tx now hn hist sl kp u) (hs : tp_SO len tx now hn hist sl kp) {a : Int32} : tp_T (f10_store m a u) (tp_AQ m u [2, 3] 5 a 0 0 0 len tx now hn hist sl kp) := by
  have hM := h.2.2.1
  have hO := hs.2.2.1
  have hr : tp_rf 5 a 0 0 0 now = tp_ro true (tp_iw a 0 999) (!decide (9999 - now 4 < a)) := by
    unfold tp_rf; rw [if_neg (by decide), if_neg (by decide), if_neg (by decide), if_neg (by decide), if_pos rfl]
  unfold f10_store
  rw [tp_in_l (y := 0) (z := 999) (Y := 0) (Z := 999) (by decide) (by decide), tp_b2S, tp_if0]
  rcases e : tp_iw a 0 999 with _ | _
  · rw [if_neg (by decide)]
    unfold f10_store_p36
    exact tm_no (c := 1) rfl (by decide) (by decide) h (fun v => tp_AQn (t := 2) (by rw [hr, e]; rfl) (by decide) rfl)
  · obtain ⟨n, -, n2, rfl⟩ := tp_iw_N (L := 0) (B := 999) rfl rfl (by decide) (by decide) e
    have hs2 := tp_st_le hO.1 n2
    rw [if_pos rfl, hM]
    by_cases c : now 4 + nI n ≤ 9999
    · have hc : (!decide (9999 - now 4 < nI n)) = true := Decidable.not_not.mp (fun z => tp_nlt_le c (hs2.mpr z))
      rw [if_pos c]
      unfold f10_store_p36
      refine tm_act (n2 := tp_so (nI n) now) (x := now 4 + nI n) h hs (fun v q => ?_) (fun v => tp_AQy (by rw [hr, e, hc]; rfl) rfl rfl)
      rw [tp_tv2 (F := f10_storeOn (m + 2) (nI n)) q tr_storeOn, tp_b2S]
    · have hc : (!decide (9999 - now 4 < nI n)) = false := by
        have := hs2.mp (tp_lt_nle c)
        simpa using this
      rw [if_neg c]
      unfold f10_store_p36
      exact tm_no (c := 2) rfl (by decide) (by decide) h (fun v => tp_AQn (t := 3) (by rw [hr, e, hc]; rfl) (by decide) rfl)
theorem tm_hang (h : tp_MI m len tx now hn hist sl kp u) (hs : tp_SO len tx now hn hist sl kp) {a b c : Int32} : tp_T (f10_hang m a b c u) (tp_AQ m u [1, 3] 6 a b c 0 len tx now hn hist sl kp) := by
  have hM := h.2.2.1
  have hO := hs.2.2.1
  have hr : tp_rf 6 a b c 0 now = tp_ro (tp_il now a && tp_ic now b c) true (!decide (6 ≤ now 8)) := by
    unfold tp_rf; rw [if_neg (by decide), if_neg (by decide), if_neg (by decide), if_neg (by decide), if_neg (by decide), if_pos rfl]
  have bad : (tp_il now a && tp_ic now b c) = false → tp_T (f10_hang_p24 m a b c m u) (tp_AQ m u [1, 3] 6 a b c 0 len tx now hn hist sl kp) := by
    intro e
    unfold f10_hang_p24 f10_hang_p45
    exact tm_no (c := 1) rfl (by decide) (by decide) h (fun v => tp_AQn (t := 1) (by rw [hr, e]; rfl) (by decide) rfl)
  unfold f10_hang
  rw [tp_tv (F := f10_isLamp (m + 2) a) hM (tr_isLamp hO.1), tp_b2S, tp_if0]
  rcases e : tp_il now a with _ | _
  · rw [if_neg (by decide)]
    exact bad (by rw [e]; rfl)
  · rw [if_pos rfl, tp_tv (F := f10_isCell (m + 2) b c) hM (tr_isCell hO.1), tp_b2S, tp_if0]
    rcases e2 : tp_ic now b c with _ | _
    · rw [if_neg (by decide)]
      exact bad (by rw [e, e2]; rfl)
    · rw [if_pos rfl, hM]
      by_cases cc : 6 ≤ now 8
      · rw [if_pos cc]
        unfold f10_hang_p45
        exact tm_no (c := 2) rfl (by decide) (by decide) h (fun v => tp_AQn (t := 3) (by rw [hr, e, e2, decide_eq_true cc]; rfl) (by decide) rfl)
      · have hc : (!decide (6 ≤ now 8)) = true := by simp [cc]
        rw [if_neg cc]
        unfold f10_hang_p45
        refine tm_act (n2 := tp_oo now 0 a b c) (x := now 8 + 1) h hs (fun v q => ?_) (fun v => tp_AQy (by rw [hr, e, e2, hc]; rfl) rfl rfl)
        rw [tp_tv2 (F := f10_orderOn (m + 2) 0 a b c) q (tr_orderOn hO.1 ((tp_ge_N (tp_r8 hO.1).1 (by have := (tp_r8 hO.1).2; omega) tp_k6 (by decide)).mp hc)), tp_b2S]
theorem tm_fill (h : tp_MI m len tx now hn hist sl kp u) (hs : tp_SO len tx now hn hist sl kp) {a b : Int32} : tp_T (f10_fill m a b u) (tp_AQ m u [1, 2, 3] 7 a b 0 0 len tx now hn hist sl kp) := by
  have hM := h.2.2.1
  have hO := hs.2.2.1
  have hr : tp_rf 7 a b 0 0 now = tp_ro (tp_il now a) (tp_iw b 1 99) (!decide (6 ≤ now 8)) := by
    unfold tp_rf; rw [if_neg (by decide), if_neg (by decide), if_neg (by decide), if_neg (by decide), if_neg (by decide), if_neg (by decide), if_pos rfl]
  unfold f10_fill
  rw [tp_tv (F := f10_isLamp (m + 2) a) hM (tr_isLamp hO.1), tp_b2S, tp_if0]
  rcases e : tp_il now a with _ | _
  · rw [if_neg (by decide)]
    unfold f10_fill_p49
    exact tm_no (c := 1) rfl (by decide) (by decide) h (fun v => tp_AQn (t := 1) (by rw [hr, e]; rfl) (by decide) rfl)
  · rw [if_pos rfl, tp_in_l (y := 1) (z := 99) (Y := 1) (Z := 99) (by decide) (by decide), tp_b2S, tp_if0]
    rcases e2 : tp_iw b 1 99 with _ | _
    · rw [if_neg (by decide)]
      unfold f10_fill_p49
      exact tm_no (c := 2) rfl (by decide) (by decide) h (fun v => tp_AQn (t := 2) (by rw [hr, e, e2]; rfl) (by decide) rfl)
    · rw [if_pos rfl, hM]
      by_cases cc : 6 ≤ now 8
      · rw [if_pos cc]
        unfold f10_fill_p49
        exact tm_no (c := 3) rfl (by decide) (by decide) h (fun v => tp_AQn (t := 3) (by rw [hr, e, e2, decide_eq_true cc]; rfl) (by decide) rfl)
      · have hc : (!decide (6 ≤ now 8)) = true := by simp [cc]
        rw [if_neg cc]
        unfold f10_fill_p49
        refine tm_act (n2 := tp_oo now 1 a b (-1)) (x := now 8 + 1) h hs (fun v q => ?_) (fun v => tp_AQy (by rw [hr, e, e2, hc]; rfl) rfl rfl)
        rw [tp_tv2 (F := f10_orderOn (m + 2) 1 a b (-1)) q (tr_orderOn hO.1 ((tp_ge_N (tp_r8 hO.1).1 (by have := (tp_r8 hO.1).2; omega) tp_k6 (by decide)).mp hc)), tp_b2S]
theorem tm_set (h : tp_MI m len tx now hn hist sl kp u) (hs : tp_SO len tx now hn hist sl kp) {a b : Int32} : tp_T (f10_set m a b u) (tp_AQ m u [2] 9 a b 0 0 len tx now hn hist sl kp) := by
  have hr : tp_rf 9 a b 0 0 now = tp_ro true (tp_is a b) true := by
    unfold tp_rf; rw [if_neg (by decide), if_neg (by decide), if_neg (by decide), if_neg (by decide), if_neg (by decide), if_neg (by decide), if_neg (by decide), if_neg (by decide), if_pos rfl]
  unfold f10_set
  rw [tr_isSetting, tp_b2S, tp_if0]
  rcases e : tp_is a b with _ | _
  · rw [if_neg (by decide)]
    exact tm_no (c := 1) rfl (by decide) (by decide) h (fun v => tp_AQn (t := 2) (by rw [hr, e]; rfl) (by decide) rfl)
  · rw [if_pos rfl]
    rcases tp_is_N e with ⟨z, -⟩ | ⟨z, -⟩
    · subst z
      refine tm_act (n2 := tp_up now 16 b) (x := now 16) h hs (fun v q => ?_) (fun v => tp_AQy (by rw [hr, e]; rfl) rfl rfl)
      rw [tp_tv2 (F := f10_change (m + 2) (16 + 0) b) q (tr_change (i := 16) rfl (by decide)), tp_b2S]
    · subst z
      refine tm_act (n2 := tp_up now 17 b) (x := now 17) h hs (fun v q => ?_) (fun v => tp_AQy (by rw [hr, e]; rfl) rfl rfl)
      rw [tp_tv2 (F := f10_change (m + 2) (16 + 1) b) q (tr_change (i := 17) rfl (by decide)), tp_b2S]
theorem tm_hours (h : tp_MI m len tx now hn hist sl kp u) (hs : tp_SO len tx now hn hist sl kp) {a : Int32} : tp_T (f10_hours m a u) (tp_AQ m u [2] 10 a 0 0 0 len tx now hn hist sl kp) := by
  have hO := hs.2.2.1
  have hr : tp_rf 10 a 0 0 0 now = tp_ro true (tp_iw a 1 60) true := by
    unfold tp_rf; rw [if_neg (by decide), if_neg (by decide), if_neg (by decide), if_neg (by decide), if_neg (by decide), if_neg (by decide), if_neg (by decide), if_neg (by decide), if_neg (by decide)]
  unfold f10_hours
  rw [tp_in_l (y := 1) (z := 60) (Y := 1) (Z := 60) (by decide) (by decide), tp_b2S, tp_if0]
  rcases e : tp_iw a 1 60 with _ | _
  · rw [if_neg (by decide)]
    exact tm_no (c := 1) rfl (by decide) (by decide) h (fun v => tp_AQn (t := 2) (by rw [hr, e]; rfl) (by decide) rfl)
  · obtain ⟨n, -, n2, rfl⟩ := tp_iw_N (L := 1) (B := 60) rfl rfl (by decide) (by decide) e
    have hp : tp_pa 10 (nI n) 0 now = tp_hrs n now 10 - now 10 := by
      show tp_hrs (tp_cl (nI n)) now 10 - now 10 = _
      unfold tp_cl
      rw [tp_cn (by omega)]
    rw [if_pos rfl]
    refine tm_act (n2 := tp_hrs n now) (x := tp_hrs n now 10 - now 10) h hs (fun v q => ?_) (fun v => ?_)
    · rw [tp_tv2 (F := f10_hoursOn (m + 2) (nI n)) q (tr_hours hO (by omega)), tp_b2S]
    · rw [← tp_pf10 (b := 0) (c := 0) (d := 0) (by omega)]
      exact tp_AQy (by rw [hr, e]; rfl) rfl (by rw [tp_pf10 (by omega)]; exact hp.symm)
theorem tm_drop (h : tp_MI m len tx now hn hist sl kp u) (hs : tp_SO len tx now hn hist sl kp) {a : Int32} : tp_T (f10_drop m a u) (tp_AQ m u [1, 3] 8 a 0 0 0 len tx now hn hist sl kp) := by
  have hM := h.2.2.1
  have hO := hs.2.2.1
  have hr : tp_rf 8 a 0 0 0 now = tp_ro (tp_io now a) true (!decide (a = 0) || tp_fh now) := by
    unfold tp_rf; rw [if_neg (by decide), if_neg (by decide), if_neg (by decide), if_neg (by decide), if_neg (by decide), if_neg (by decide), if_neg (by decide), if_pos rfl]
  have K : ∀ (b : Bool), (!decide (a = 0) || tp_fh now) = !b → tp_T (f10_drop_p30 m a (tp_b01 b) u) (tp_AQ m u [1, 3] 8 a 0 0 0 len tx now hn hist sl kp) := by
    intro b hb
    unfold f10_drop_p30
    rw [hM, tp_in_l (y := 0) (Y := 0) (by decide) rfl, tp_b2S, tp_iw_m (tp_r8 hO.1).1 (by have := (tp_r8 hO.1).2; omega), tp_if0]
    show tp_T (if tp_io now a = true then _ else _) _
    rcases e : tp_io now a with _ | _
    · rw [if_neg (by decide)]
      unfold f10_drop_p64
      exact tm_no (c := 1) rfl (by decide) (by decide) h (fun v => tp_AQn (t := 1) (by rw [hr, e]; rfl) (by decide) rfl)
    · rw [if_pos rfl, tp_if0]
      cases b with
      | true =>
        rw [if_pos rfl]
        unfold f10_drop_p64
        exact tm_no (c := 2) rfl (by decide) (by decide) h (fun v => tp_AQn (t := 3) (by rw [hr, e, hb]; rfl) (by decide) rfl)
      | false =>
        rw [if_neg (by decide)]
        obtain ⟨k, k1, rfl⟩ := (tp_io_N hO.1).mp e
        have b8 := (tp_r8 hO.1).2
        have ho : 0 < tp_cl (now 8) := by omega
        unfold f10_drop_p64
        have e15 : tp_od k now 15 = now 15 := tp_od_n (by decide) (by decide)
        have hp : tp_pf 8 (nI k) 0 0 0 now = tp_up (tp_od k now) 15 (if nI k = 0 then 0 else now 15) := by
          show tp_up (tp_od (tp_cl (nI k)) now) 15 (if nI k = 0 then 0 else now 15) = _
          unfold tp_cl
          rw [tp_cn (by omega)]
        refine tm_act (n2 := tp_pf 8 (nI k) 0 0 0 now) (x := now 8 - 1) h hs (fun v q => ?_) (fun v => tp_AQy (by rw [hr, e, hb]; rfl) rfl rfl)
        rw [tp_tv3 (F := f10_orderDone (m + 2) (nI k)) q (tr_od hO.1 k1), tp_bS, hp]
        by_cases c : nI k = 0
        · rw [if_pos c, if_pos c, tp_L, tp_wu, tp_wg, tp_un (by decide), tp_od_8]
        · rw [if_neg c, if_neg c, tp_L, tp_wu, tp_wg, tp_wg, tp_un (by decide), tp_od_8, e15]
  unfold f10_drop
  rw [hM]
  by_cases c0 : a = 0
  · rw [if_pos c0]
    by_cases c1 : now 13 = -1
    · rw [if_pos c1]
      have h14 : (now 14 ≤ 0) = (now 14 = 0) := by
        obtain ⟨w, w2, w1, -⟩ := tp_xx (tp_r14 hO.1)
        rw [w1, tp_le0 (by omega)]
        apply propext
        rw [tp_k0, tp_eq (by omega) (by decide)]
        omega
      simp only [h14]
      by_cases c2 : now 14 = 0
      · rw [if_pos c2]
        exact K false (by unfold tp_fh; simp [c0, c1, c2])
      · rw [if_neg c2]
        exact K true (by unfold tp_fh; simp [c0, c1, c2])
    · rw [if_neg c1]
      exact K true (by unfold tp_fh; simp [c0, c1])
  · rw [if_neg c0]
    exact K false (by simp [c0])
end TPY
