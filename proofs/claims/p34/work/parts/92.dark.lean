/-! Depths over the hours; the hours until a face is dark. -/
theorem tz_nf_n {f : Nat → tp_R → tp_R} {i : Nat} (h : ∀ k r, f k r i = r i) : ∀ (n : Nat) (r : tp_R), tp_nf f n r i = r i
  | 0, _ => rfl
  | n + 1, r => by rw [tp_nf_s, h, tz_nf_n h n]
theorem tz_oo_m {r : tp_R} {q l w c : Int32} {i : Nat} (h : i < 80) (h8 : i ≠ 8) : tp_oo r q l w c i = r i := by
  unfold tp_oo
  rw [tp_un h8, tp_un (by omega), tp_un (by omega), tp_un (by omega), tp_un (by omega)]
theorem tz_se_n {r : tp_R} {i : Nat} (h : i < 80) (h8 : i ≠ 8) : ∀ n g, tp_se r n g i = r i
  | 0, _ => rfl
  | n + 1, g => by
    unfold tp_se
    split
    · exact tz_oo_m h h8
    · exact tz_se_n h h8 n (g + 1)
theorem tz_ho3_n {r : tp_R} {i : Nat} (h : i < 80) (h8 : i ≠ 8) : tp_ho3 r i = r i := by
  unfold tp_ho3
  split
  · split
    · exact tz_se_n h h8 _ _
    · rfl
  · rfl
theorem tz_bu1_n {r : tp_R} {l i : Nat} (h : i < 48) (h5 : i ≠ 5) : tp_bu1 l r i = r i := by
  unfold tp_bu1
  split
  · rfl
  · rw [tp_un (by omega), tp_un (by omega)]
theorem tz_ho2_n {r : tp_R} {i : Nat} (h : i < 48) (h5 : i ≠ 5) : tp_ho2 r i = r i := tz_nf_n (fun _ _ => tz_bu1_n h h5) _ _
/-- an hour keeps the galleries, and their depths only grow -/
theorem tz_hour_d {T : Nat} {r : tp_R} (h : tz_V T r) : tp_hour r 0 = r 0 ∧ ∀ g, g < 3 → tz_d r g ≤ tz_d (tp_hour r) g := by
  obtain ⟨⟨hk, hL, hO, hA, hC, hD⟩, hG, t, tT, hM⟩ := h
  unfold tp_hour
  generalize hx : tp_up r 3 (r 3 + 1) = x
  have xe : ∀ i, i ≠ 3 → x i = r i := fun i a => by rw [← hx, tp_un a]
  have kx : tp_Ok x := by rw [← hx]; exact tp_Ok_up hk (tp_in_any rfl) (by unfold tp_fr; omega)
  have gx : tz_VG x := tz_VG_c hG (xe 0 (by omega)) (fun i i1 i2 => xe i (by omega)) hk.1
  have x1 := xe 1 (by omega)
  have mx : tz_VMb (t + 1) (fun _ => t) x := by
    obtain ⟨m3, m1, m9⟩ := hM
    refine ⟨?_, fun m hm => ?_, ?_⟩
    · rw [← hx, tp_us, m3, nI_1]
    · rw [x1] at hm
      have b1 := (tp_r1 hk.1).2
      rw [xe _ (by omega), xe (26 + 4 * m) (by omega), xe (27 + 4 * m) (by omega)]
      exact m1 m hm
    · rw [x1, xe 9 (by omega), ← m9]
      exact tz_sum_c _ (fun i _ => xe _ (by omega))
  obtain ⟨a1, a2, a3, a4, a5⟩ := tz_ho1 kx gx mx (tp_cl (x 1)) (Nat.le_refl _)
  have hy : tp_nf tp_mi1 (tp_cl (x 1)) x = tp_ho1 x := rfl
  rw [hy] at a3 a5
  have fe : ∀ i, (i = 0 ∨ (18 ≤ i ∧ i < 48)) → tp_ho3 (tp_goes (tp_ho2 (tp_ho1 x))) i = tp_ho1 x i := fun i hi => by
    rw [tz_ho3_n (by omega) (by omega), tp_goes_n (by omega) (by omega) (by omega) (by omega) (by omega) (by omega) (by omega) (by omega) (by omega), tz_ho2_n (by omega) (by omega)]
  refine ⟨?_, fun g hg => ?_⟩
  · rw [fe 0 (by omega), a5 0 (by omega) (by omega) (by omega), xe 0 (by omega)]
  · have := a3 g hg
    unfold tz_d at this ⊢
    rw [fe _ (by omega)]
    rw [xe _ (by omega)] at this
    exact this
theorem tz_hrs_d {T : Nat} {r : tp_R} (h : tz_V T r) : ∀ n, tp_hrs n r 0 = r 0 ∧ ∀ g, g < 3 → tz_d r g ≤ tz_d (tp_hrs n r) g
  | 0 => ⟨rfl, fun _ _ => Nat.le_refl _⟩
  | n + 1 => by
    obtain ⟨i1, i2⟩ := tz_hrs_d h n
    obtain ⟨j1, j2⟩ := tz_hour_d (tz_hrs_k h n)
    rw [tp_hrs_s]
    exact ⟨j1.trans i1, fun g hg => Nat.le_trans (i2 g hg) (j2 g hg)⟩
/-- the face is lit -/
def tz_fl (g : Nat) (r : tp_R) : Bool := tp_lit r (nI g) (r (18 + 2 * g))
theorem tz_dkn (g : Nat) : ∀ (n i : Nat) (r : tp_R), (tp_dkn g n i r = -1 ∧ ∀ j, j < n → tz_fl g (tp_hrs j r) = true) ∨ ∃ j, j < n ∧ tp_dkn g n i r = nI (i + j) ∧ (∀ m, m < j → tz_fl g (tp_hrs m r) = true) ∧ tz_fl g (tp_hrs j r) = false
  | 0, _, _ => Or.inl ⟨rfl, fun _ h => absurd h (Nat.not_lt_zero _)⟩
  | n + 1, i, r => by
    have ih := tz_dkn g n (i + 1) (tp_hour r)
    unfold tp_dkn
    by_cases c : tp_lit r (nI g) (r (18 + 2 * g)) = true
    · rw [if_pos c]
      have z : ∀ {k : Nat}, (∀ m, m < k → tz_fl g (tp_hrs m (tp_hour r)) = true) → ∀ m, m < k + 1 → tz_fl g (tp_hrs m r) = true := fun h m hm => by
        rcases m with _ | m
        · exact c
        · rw [tp_hrs_r]; exact h m (by omega)
      rcases ih with ⟨i1, i2⟩ | ⟨j, j1, j2, j3, j4⟩
      · exact Or.inl ⟨i1, z i2⟩
      · refine Or.inr ⟨j + 1, by omega, ?_, z j3, ?_⟩
        · rw [j2]; congr 1; omega
        · rw [tp_hrs_r]; exact j4
    · rw [if_neg c]
      refine Or.inr ⟨0, by omega, rfl, fun _ h => absurd h (Nat.not_lt_zero _), ?_⟩
      show tp_lit r (nI g) (r (18 + 2 * g)) = false
      exact Bool.not_eq_true _ ▸ c
section TZN
variable {T : Nat} {s s1 : tz_S} {a b g : Nat} {U : tz_U}
theorem tz_k290 (hV : tz_V T s.1) (hg : g < tp_cl (s.1 0)) (h : (U a).1 = s.1) : fL_dark_p290 a (nI g) (s.1 3) (s.1 (18 + 2 * g)) 1 U = some (1, U) := by
  unfold fL_dark_p290
  rw [if_neg (by decide), gA_3, tp_b2S, if_pos (by rw [h]), gT_0 (by rw [h]; exact hV.1.1.1) (by rw [h]; exact hg), tp_b2S, if_pos (by rw [h])]
/-- some hours, and their undo -/
theorem tz_wu {n : Nat} (hP : tz_P a b s1 U) (hab : a ≠ b) (hB : tz_B 0 s s1) (hk : tp_Ok s.1) (hn : n ≤ 240) : ∃ U2 s2, fL_waits a b (nI n) U = some (1, U2) ∧ tz_P a b s2 U2 ∧ s2.1 = tp_hrs n s.1 ∧ ∃ U3 s3, fL_undoes a b (nI n) U2 = some (1, U3) ∧ tz_P a b s3 U3 ∧ tz_B 0 s s3 ∧ s3.1 = s.1 := by
  have e1 := tz_B_now hB
  obtain ⟨U2, s2, w1, w2, w3, w4⟩ := tz_waits hP hab (by rw [e1]; exact hk) hn
  have hB2 := w4 0 s hB (by omega)
  rw [Nat.zero_add] at hB2
  obtain ⟨U3, s3, u1, u2, u3⟩ := tz_undoes w2 hab hB2 hn
  have hB3 := u3 0 s (by rw [Nat.zero_add]; exact hB2)
  exact ⟨U2, s2, w1, w2, by rw [w3, e1], U3, s3, u1, u2, hB3, tz_B_now hB3⟩
theorem tz_gT3 {n : Nat} {s2 : tz_S} (hV : tz_V T s.1) (hg : g < tp_cl (s.1 0)) (h : U a = s2) (e : s2.1 = tp_hrs n s.1) : fL_call a 3 (nI g) 3 0 U = some (tp_b01 (tz_fl g (tp_hrs n s.1)), U) := by
  have h2 : (U a).1 = tp_hrs n s.1 := by rw [h, e]
  have := gT_3 (a := a) (U := U) (z := 0) (g := g) (by rw [h2]; exact (tz_hrs_k hV n).1.1.1) (by rw [h2, (tz_hrs_d hV n).1]; exact hg)
  rw [this, h2]; rfl
theorem tz_gT0 {n : Nat} {s2 : tz_S} (hV : tz_V T s.1) (hg : g < tp_cl (s.1 0)) (h : U a = s2) (e : s2.1 = tp_hrs n s.1) : fL_call a 3 (nI g) 0 0 U = some (tp_hrs n s.1 (18 + 2 * g), U) := by
  have h2 : (U a).1 = tp_hrs n s.1 := by rw [h, e]
  have := gT_0 (a := a) (U := U) (z := 0) (g := g) (by rw [h2]; exact (tz_hrs_k hV n).1.1.1) (by rw [h2, (tz_hrs_d hV n).1]; exact hg)
  rw [this, h2]
theorem tz_k230 {x4 : Int32} {go : Nat} (hV : tz_V T s.1) (hg : g < tp_cl (s.1 0)) (hP : tz_P a b s1 U) (hab : a ≠ b) (hB : tz_B 0 s s1) (hn : go ≤ 200) (hd : tz_fl g (tp_hrs go s.1) = decide (x4 = -1)) : ∃ U' s', fL_dark_p230 a b (nI g) x4 (s.1 3) (s.1 (18 + 2 * g)) 1 (nI go) U = some (1, U') ∧ tz_P a b s' U' ∧ tz_B 0 s s' := by
  obtain ⟨U2, s2, w1, w2, w3, U3, s3, u1, u2, u3, u4⟩ := tz_wu (n := go) hP hab hB hV.1.1 (by omega)
  refine ⟨U3, s3, ?_, u2, u3⟩
  have k290 := tz_k290 (U := U3) (a := a) hV hg (by rw [u2.1, u4])
  unfold fL_dark_p230
  rw [if_neg (by decide), w1, tp_b2S, if_neg (by decide), tz_gT3 hV hg w2.1 w3, tp_b2S, hd]
  by_cases c : x4 = -1
  · rw [decide_eq_true c, if_neg (by decide)]
    unfold fL_dark_p261
    rw [if_pos c]
    unfold fL_dark_p272
    rw [if_pos rfl, u1, tp_b2S, if_neg (by decide)]
    exact k290
  · rw [decide_eq_false c, if_pos (show tp_b01 false = 0 from rfl)]
    unfold fL_dark_p261
    rw [if_neg c]
    unfold fL_dark_p272
    rw [if_pos rfl, u1, tp_b2S, if_neg (by decide)]
    exact k290
theorem tz_k174 {x4 : Int32} {go : Nat} (hV : tz_V T s.1) (hg : g < tp_cl (s.1 0)) (hP : tz_P a b s1 U) (hab : a ≠ b) (hB : tz_B 0 s s1) (hn : go ≤ 200) (hd : tz_fl g (tp_hrs go s.1) = decide (x4 = -1)) (hd2 : ∀ m, m < go → tz_fl g (tp_hrs m s.1) = true) : ∃ U' s', fL_dark_p174 a b (nI g) x4 (s.1 3) (s.1 (18 + 2 * g)) 1 (nI go) U = some (1, U') ∧ tz_P a b s' U' ∧ tz_B 0 s s' := by
  by_cases c : go ≤ 1
  · obtain ⟨U', s', h1, h2⟩ := tz_k230 hV hg hP hab hB hn hd
    refine ⟨U', s', ?_, h2⟩
    unfold fL_dark_p174
    rw [if_pos (by rw [tp_k1, tp_le (by omega) (by decide)]; exact c)]
    exact h1
  · obtain ⟨U2, s2, w1, w2, w3, U3, s3, u1, u2, u3, u4⟩ := tz_wu (n := go - 1) hP hab hB hV.1.1 (by omega)
    obtain ⟨U', s', h1, h2⟩ := tz_k230 hV hg u2 hab u3 hn hd
    refine ⟨U', s', ?_, h2⟩
    have e1 : nI go - 1 = nI (go - 1) := tp_sb (a := go) (b := 1) (by omega)
    unfold fL_dark_p174
    rw [if_neg (by rw [tp_k1, tp_le (by omega) (by decide)]; exact c), if_neg (by decide), e1, w1, tp_b2S, if_neg (by decide), tz_gT3 hV hg w2.1 w3, tp_b2S, hd2 _ (by omega), if_pos (show tp_b01 true = 1 from rfl), u1, tp_b2S, if_neg (by decide)]
    exact h1
theorem tz_k159 (hV : tz_V T s.1) (hg : g < tp_cl (s.1 0)) (hP : tz_P a b s1 U) (hab : a ≠ b) (hB : tz_B 0 s s1) : ∃ U' s', fL_dark_p159 a b (nI g) (tp_dkn g 201 0 s.1) (s.1 3) (s.1 (18 + 2 * g)) 1 U = some (1, U') ∧ tz_P a b s' U' ∧ tz_B 0 s s' := by
  rcases tz_dkn g 201 0 s.1 with ⟨e, hl⟩ | ⟨j, j1, e, j3, j4⟩
  · obtain ⟨U', s', h1, h2⟩ := tz_k174 (x4 := tp_dkn g 201 0 s.1) (go := 120) hV hg hP hab hB (by decide) (by rw [e, hl _ (by decide)]; decide) (fun m hm => hl m (by omega))
    refine ⟨U', s', ?_, h2⟩
    unfold fL_dark_p159
    rw [if_pos e]
    exact h1
  · rw [Nat.zero_add] at e
    have n1 : ¬ tp_dkn g 201 0 s.1 = -1 := by rw [e]; exact fun z => (tp_m1n (by omega)).mp z
    obtain ⟨U', s', h1, h2⟩ := tz_k174 (x4 := tp_dkn g 201 0 s.1) (go := j) hV hg hP hab hB (by omega) (by rw [decide_eq_false n1]; exact j4) j3
    refine ⟨U', s', ?_, h2⟩
    unfold fL_dark_p159
    rw [if_neg n1]
    rw [e] at h1 ⊢
    exact h1
theorem tz_k104 {k : Nat} {y : Int32} (hV : tz_V T s.1) (hg : g < tp_cl (s.1 0)) (hP : tz_P a b s1 U) (hab : a ≠ b) (hB : tz_B 0 s s1) (k1 : 1 ≤ k) (k2 : k ≤ 60) : ∃ U' s', fL_dark_p104 a b (nI g) (tp_dkn g 201 0 s.1) (s.1 3) (nI k) (tp_hrs k s.1 (18 + 2 * g)) (s.1 (18 + 2 * g)) y y U = some (1, U') ∧ tz_P a b s' U' ∧ tz_B 0 s s' := by
  obtain ⟨U2, s2, w1, w2, w3, U3, s3, u1, u2, u3, u4⟩ := tz_wu (n := k) hP hab hB hV.1.1 (by omega)
  obtain ⟨U', s', h1, h2⟩ := tz_k159 hV hg u2 hab u3
  refine ⟨U', s', ?_, h2⟩
  have b0 := (tp_r0 hV.1.1.1).2
  have m := (tz_hrs_d hV k).2 g (by omega)
  obtain ⟨d, d2, d1, d3⟩ := tp_xx (tp_rga hV.1.1.1 (show g < 3 by omega))
  obtain ⟨f, f2, f1, f3⟩ := tp_xx (tp_rga (tz_hrs_k hV k).1.1.1 (show g < 3 by omega))
  have d3 : tz_d s.1 g = d := d3
  have f3 : tz_d (tp_hrs k s.1) g = f := f3
  unfold fL_dark_p104
  rw [if_pos rfl, if_neg (by rw [f1, d1, tp_lt (by omega) (by omega)]; omega), if_neg (by rw [f1, tp_k60, tp_lt (by decide) (by omega)]; omega), w1, tp_b2S, if_neg (by decide), tz_gT0 hV hg w2.1 w3, tp_b2S, if_pos rfl, u1, tp_b2S, if_neg (by decide)]
  exact h1
/-- dark -/
theorem tz_dark_ok2 {m : Nat} (hJ : tz_J T s) (hP : tz_P a b s U) (hab : a ≠ b) (hm : m < 2147483648) : ∃ U' s', fL_dark a b (nI m) U = some (1, U') ∧ tz_P a b s' U' ∧ tz_B 0 s s' := by
  have hV := hJ.2.1
  have hr := hV.1.1.1
  have hG := hV.2.1.1
  obtain ⟨G, G2, G1, G3⟩ := tp_xx (tp_r0 hr)
  have G3 : tp_cl (s.1 0) = G := G3
  rw [G3] at hG
  have hg : m % G < tp_cl (s.1 0) := by rw [G3]; exact Nat.mod_lt _ hG
  have eg : nI m - nI m / nI G * nI G = nI (m % G) := pk_rem (by omega) hG (by omega)
  have g0 : ¬ nI G = 0 := by rw [tp_k0, tp_eq (by omega) (by decide)]; omega
  have e3 : nI m / 3 = nI (m / 3) := pk_div (d := 3) hm (by decide) (by decide)
  have e60 : nI (m / 3) - nI (m / 3) / 60 * 60 = nI (m / 3 % 60) := pk_rem (d := 60) (by omega) (by decide) (by decide)
  have ek : (1 : Int32) + nI (m / 3 % 60) = nI (1 + m / 3 % 60) := nI_add 1 _
  generalize m % G = g at hg eg
  generalize hk : 1 + m / 3 % 60 = k at ek
  obtain ⟨U', s', h1, h2⟩ := tz_k104 (k := k) (y := if tp_dkn g 201 0 s.1 = 0 then 1 else 0) hV hg hP hab (tz_B_0 hJ.1) (by omega) (by omega)
  refine ⟨U', s', ?_, h2⟩
  have a19 : fL_call a 19 (nI g) 0 0 U = some (tp_dkn g 201 0 s.1, U) := by
    rw [gc_19]
    unfold fL_tryDark tz_dark
    rw [hP.1, if_pos (tz_ig hr hg), ← hP.1, tz_o0, tz_cn (by omega), hP.1]
  have a20 : fL_call a 20 (nI g) (nI k) 0 U = some (tp_hrs k s.1 (18 + 2 * g), U) := by
    rw [gc_20]
    unfold fL_tryDeep tz_deep
    rw [hP.1, if_pos (tz_ig hr hg), if_pos (show tp_iw (nI k) 1 200 = true from tz_iw_in (L := 1) (B := 200) (by decide) (by omega) (by omega)), ← hP.1, tz_o0, tz_cn (by omega), tz_cn (by omega), hP.1]
  have a3 : fL_call a 3 (nI g) 0 0 U = some (s.1 (18 + 2 * g), U) := tz_gT0 (n := 0) hV hg hP.1 rfl
  have a33 : fL_call a 3 (nI g) 3 0 U = some (tp_b01 (tz_fl g s.1), U) := tz_gT3 (n := 0) hV hg hP.1 rfl
  have lo : ¬ tp_dkn g 201 0 s.1 < -1 ∧ ¬ 200 < tp_dkn g 201 0 s.1 ∧ (tp_dkn g 201 0 s.1 = 0 ↔ tz_fl g s.1 = false) := by
    rcases tz_dkn g 201 0 s.1 with ⟨e, hl⟩ | ⟨j, j1, e, j3, j4⟩
    · have := hl 0 (by decide)
      rw [e]
      exact ⟨by decide, by decide, fun z => absurd z (by decide), fun z => absurd (z.symm.trans this) (by decide)⟩
    · rw [Nat.zero_add] at e
      rw [e, tp_lti, tp_lti, tp_ti (by omega), tp_m1i, show (200 : Int32).toInt = 200 from rfl]
      refine ⟨by omega, by omega, ?_⟩
      rw [tp_k0, tp_eq (by omega) (by decide)]
      constructor
      · intro z; subst z; exact j4
      · intro z
        by_cases c : j = 0
        · exact c
        · have := j3 0 (by omega)
          exact absurd (z.symm.trans this) (by decide)
  unfold fL_dark
  rw [gA_0, tp_b2S, hP.1, G1, tl_gs g0, tp_L, eg, a19, tp_b2S, gA_3, tp_b2S, tp_L, e3, e60, ek, a20, tp_b2S, a3, tp_b2S, if_neg lo.1, if_neg lo.2.1, hP.1]
  have k88 : fL_dark_p88 a b (nI g) (tp_dkn g 201 0 s.1) (s.1 3) (nI k) (tp_hrs k s.1 (18 + 2 * g)) (s.1 (18 + 2 * g)) (if tp_dkn g 201 0 s.1 = 0 then 1 else 0) U = some (1, U') := by
    unfold fL_dark_p88
    rw [a33, tp_b2S]
    by_cases c : tp_dkn g 201 0 s.1 = 0
    · rw [if_pos c] at h1 ⊢
      rw [lo.2.2.mp c, if_pos (show tp_b01 false = 0 from rfl)]
      exact h1
    · have ct : tz_fl g s.1 = true := by
        rcases hh : tz_fl g s.1 with _ | _
        · exact absurd (lo.2.2.mpr hh) c
        · rfl
      rw [if_neg c] at h1 ⊢
      rw [ct, if_neg (by decide)]
      exact h1
  by_cases c : tp_dkn g 201 0 s.1 = 0
  · rw [if_pos c] at k88 ⊢
    exact k88
  · rw [if_neg c] at k88 ⊢
    exact k88
end TZN
