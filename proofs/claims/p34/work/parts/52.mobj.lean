/-! The object of the class: what it keeps, and what its calls have in common. -/
def tp_hs (z j : Nat) : Nat := z + 92 + (1 + 29 * j)
def tp_ks (z s : Nat) : Nat := z + 499 + (2 + 29 * s)
def tp_CR (z len : Nat) (tx now : tp_R) (sl : Nat → Bool) (kp : Nat → tp_R) (u : tl_S) : Prop :=
  u.1 (z + 1) 1 = nI len ∧ (∀ i, i < len → u.1 (z + 2) i = tx i) ∧ tp_Mn (z + 4) now u ∧ tp_Mn (z + 33) tp_clr u ∧ tp_Mp (z + 62) u ∧
  (∀ s, s < 2 → tp_Mp (tp_ks z s) u ∧ u.1 (z + 500) s = tp_b01 (sl s) ∧ (sl s = true → tp_Mn (tp_ks z s) (kp s) u))
def tp_CH (z hn : Nat) (hist : Nat → tp_R) (u : tl_S) : Prop := (∃ old, old < 14 ∧ u.1 (z + 91) 1 = nI old ∧ u.1 (z + 91) 2 = nI hn ∧ ∀ i, i < hn → tp_Mn (tp_hs z ((old + i) % 14)) (hist i) u) ∧ (∀ j, j < 14 → tp_Mp (tp_hs z j) u)
def tp_CI (z len : Nat) (tx now : tp_R) (hn : Nat) (hist : Nat → tp_R) (sl : Nat → Bool) (kp : Nat → tp_R) (u : tl_S) : Prop := tp_CR z len tx now sl kp u ∧ tp_CH z hn hist u
theorem tp_CH_fr {z hn : Nat} {hist : Nat → tp_R} {S : Nat → Prop} {u v : tl_S} (h : tp_CH z hn hist u) (e : tp_FR S u v) (hS : ∀ q, S q → q < z + 91 ∨ z + 499 ≤ q) : tp_CH z hn hist v := by
  obtain ⟨⟨old, h1, h2, h3, h4⟩, h5⟩ := h
  have e91 := (e.1 (z + 91) (fun q => by have := hS _ q; omega)).1
  refine ⟨⟨old, h1, by rw [e91]; exact h2, by rw [e91]; exact h3, fun i hi => tp_Mn_FR (h4 i hi) e (fun q h6 h7 h8 => ?_)⟩, fun j hj => tp_Mp_FR (h5 j hj) e (fun h8 => ?_)⟩
  · have := hS q h8
    have : (old + i) % 14 < 14 := Nat.mod_lt _ (by decide)
    unfold tp_hs at h6 h7
    omega
  · have := hS _ h8
    unfold tp_hs at this
    omega
theorem tp_CR_fr {z len : Nat} {tx now now2 : tp_R} {sl : Nat → Bool} {kp : Nat → tp_R} {S : Nat → Prop} {u v : tl_S} (h : tp_CR z len tx now sl kp u) (e : tp_FR S u v) (hS : ∀ q, S q → q = z + 1 ∨ q = z + 3 ∨ (z + 4 ≤ q ∧ q < z + 33) ∨ (z + 62 ≤ q ∧ q < z + 499) ∨ z + 559 ≤ q ∨ q < z) (h1 : v.1 (z + 1) 1 = nI len) (hm : tp_Mn (z + 4) now2 v) (hc : tp_Mp (z + 62) v) : tp_CR z len tx now2 sl kp v := by
  obtain ⟨a1, a2, a3, a4, a5, a6⟩ := h
  refine ⟨h1, fun i hi => ?_, hm, tp_Mn_FR a4 e (fun q h6 h7 h8 => ?_), hc, fun s hs => ?_⟩
  · rw [(e.1 (z + 2) (fun q => by have := hS _ q; omega)).1]; exact a2 i hi
  · have := hS q h8; omega
  · obtain ⟨b1, b2, b3⟩ := a6 s hs
    refine ⟨tp_Mp_FR b1 e (fun h8 => ?_), ?_, fun hsl => tp_Mn_FR (b3 hsl) e (fun q h6 h7 h8 => ?_)⟩
    · have := hS _ h8
      unfold tp_ks at this
      omega
    · rw [(e.1 (z + 500) (fun q => by have := hS _ q; omega)).1]; exact b2
    · have := hS q h8
      unfold tp_ks at h6 h7
      omega
section TQD
variable {z len : Nat} {tx now now2 : tp_R} {hn : Nat} {hist : Nat → tp_R} {sl : Nat → Bool} {kp : Nat → tp_R} {u v : tl_S} {S : Nat → Prop}
/-- a change of the text's place, the command, the mine, the copy -/
theorem tp_CI_fr (h : tp_CI z len tx now hn hist sl kp u) (e : tp_FR S u v) (hS : ∀ q, S q → q = z + 1 ∨ q = z + 3 ∨ (z + 4 ≤ q ∧ q < z + 33) ∨ (z + 62 ≤ q ∧ q < z + 91) ∨ z + 559 ≤ q ∨ q < z) (h1 : v.1 (z + 1) 1 = nI len) (hm : tp_Mn (z + 4) now2 v) (hc : tp_Mp (z + 62) v) : tp_CI z len tx now2 hn hist sl kp v :=
  ⟨tp_CR_fr h.1 e (fun q hq => by have := hS q hq; omega) h1 hm hc, tp_CH_fr h.2 e (fun q hq => by have := hS q hq; omega)⟩
/-- a change of the command or the copy -/
theorem tp_CI_cp (h : tp_CI z len tx now hn hist sl kp u) (e : tp_FR S u v) (hS : ∀ q, S q → q = z + 3 ∨ (z + 62 ≤ q ∧ q < z + 91)) (hc : tp_Mp (z + 62) v) : tp_CI z len tx now hn hist sl kp v :=
  tp_CI_fr h e (fun q hq => by have := hS q hq; omega) (by rw [(e.1 (z + 1) (fun q => by have := hS _ q; omega)).1]; exact h.1.1) (tp_Mn_FR h.1.2.2.1 e (fun q h6 h7 h8 => by have := hS q h8; omega)) hc
theorem tp_rm14 {a : Nat} (h : a < 2147483648) : nI a - nI a / 14 * 14 = nI (a % 14) := pk_rem (d := 14) h (by decide) (by decide)
def tp_HS (z q : Nat) : Prop := z + 91 ≤ q ∧ q < z + 499
theorem tc_rem32 (hr : tp_CR z len tx now sl kp u) (hk : tp_rng now) {old n : Nat} {H : Nat → tp_R} (h1 : old < 14) (hn : n < 14) (h2 : u.1 (z + 91) 1 = nI old) (h3 : u.1 (z + 91) 2 = nI n) (h4 : ∀ i, i < n → tp_Mn (tp_hs z ((old + i) % 14)) (H i) u) (h5 : ∀ j, j < 14 → tp_Mp (tp_hs z j) u) :
    tp_T (f2_remember_p32 (z + 91) (z + 4) u) (fun v => tp_CI z len tx now (n + 1) (fun i => if i = n then now else H i) sl kp v ∧ tp_FR (tp_HS z) u v) := by
  unfold f2_remember_p32
  have hi : (old + n) % 14 < 14 := Nat.mod_lt _ (by decide)
  rw [h2, h3, nI_add, tp_rm14 (by omega), tl_gs (tp_ix hi (by omega)), tp_cn (by omega)]
  have e : z + 91 + 1 + (1 + 29 * ((old + n) % 14)) = tp_hs z ((old + n) % 14) := rfl
  rw [e]
  refine tp_b (tc_copy (h5 _ hi) hr.2.2.1 hk (by unfold tp_hs; omega)) (fun w hw => ?_)
  obtain ⟨w1, w2⟩ := hw
  have F1 : tp_FR (tp_HS z) u w := tp_FR_m (tp_FR_A w2) (by unfold tp_HS tp_hs; intro q; omega)
  have e91 : w.1 (z + 91) = u.1 (z + 91) := (w2.1 (z + 91) (by unfold tp_hs; omega)).1
  have F2 : tp_FR (fun q => q = z + 91) w (tl_u w.1 (z + 91) 2 (w.1 (z + 91) 2 + 1), w.2) := tp_FR_B tp_FB_u
  generalize hv : (tl_u w.1 (z + 91) 2 (w.1 (z + 91) 2 + 1), w.2) = v at F2
  have v91 : v.1 (z + 91) = tp_up (u.1 (z + 91)) 2 (nI (n + 1)) := by
    rw [← hv, tp_tw, tp_wg, e91, h3, nI_1]
  rw [tp_L]
  have FF : tp_FR (tp_HS z) u v := tp_FR_tr F1 (tp_FR_m F2 (by unfold tp_HS; intro q; omega))
  refine tp_ret ⟨⟨tp_CR_fr hr FF (by unfold tp_HS; intro q; omega) ?_ ?_ ?_, ⟨old, h1, ?_, ?_, fun i hi2 => ?_⟩, fun j hj => ?_⟩, FF⟩
  · rw [(FF.1 (z + 1) (by unfold tp_HS; omega)).1]; exact hr.1
  · exact tp_Mn_FR hr.2.2.1 FF (by unfold tp_HS; intro q; omega)
  · exact tp_Mp_FR hr.2.2.2.2.1 FF (by unfold tp_HS; omega)
  · rw [v91, tp_un (by decide)]; exact h2
  · rw [v91, tp_us]
  · refine tp_Mn_FR (S := fun q => q = z + 91) ?_ F2 (by unfold tp_hs; intro q; omega)
    show tp_Mn _ (if i = n then now else H i) w
    by_cases c : i = n
    · rw [if_pos c, c]; exact w1
    · rw [if_neg c]
      have hne : (old + i) % 14 ≠ (old + n) % 14 := by omega
      exact tp_Mn_FR (h4 i (by omega)) (tp_FR_A w2) (by unfold tp_hs; intro q; omega)
  · refine tp_Mp_FR (S := fun q => q = z + 91) ?_ F2 (by unfold tp_hs; omega)
    by_cases c : j = (old + n) % 14
    · rw [c]; exact w1.2.1
    · exact tp_Mp_FR (h5 j hj) (tp_FR_A w2) (by unfold tp_hs; omega)
theorem tp_CI_h {hn2 : Nat} {hist2 : Nat → tp_R} (h : tp_CI z len tx now hn hist sl kp u) (e1 : hn = hn2) (e2 : ∀ i, i < hn → hist i = hist2 i) : tp_CI z len tx now hn2 hist2 sl kp u := by
  subst e1
  obtain ⟨h1, ⟨old, a1, a2, a3, a4⟩, a5⟩ := h
  exact ⟨h1, ⟨old, a1, a2, a3, fun i hi => by rw [← e2 i hi]; exact a4 i hi⟩, a5⟩
theorem tc_remember (h : tp_CI z len tx now hn hist sl kp u) (hk : tp_rng now) (h14 : hn ≤ 14) : tp_T (f2_remember (z + 91) (z + 4) u) (fun v => tp_CI z len tx now (tp_pn hn) (tp_ph hn hist now) sl kp v ∧ tp_FR (tp_HS z) u v) := by
  obtain ⟨hr, ⟨old, a1, a2, a3, a4⟩, a5⟩ := h
  unfold f2_remember
  rw [a3]
  have e14 : (nI hn = 14) = (hn = 14) := by rw [tp_k14, tp_eq (by omega) (by decide)]
  by_cases c : hn = 14
  · subst c
    rw [if_pos (e14.mpr rfl), tp_tw, tp_L, a2, nI_1, tp_rm14 (by omega), tp_tw, tp_L, tp_wg, tp_ww, tp_un (by decide), a3]
    generalize hw : tp_w u (z + 91) (tp_up (tp_up (u.1 (z + 91)) 1 (nI ((old + 1) % 14))) 2 (nI 14 - 1)) = w
    have F : tp_FR (fun q => q = z + 91) u w := by
      rw [← hw]
      exact ⟨fun q hq => ⟨tp_wgn hq, rfl⟩, rfl⟩
    have w91 : w.1 (z + 91) = tp_up (tp_up (u.1 (z + 91)) 1 (nI ((old + 1) % 14))) 2 (nI 14 - 1) := by rw [← hw, tp_wg]
    have hr' : tp_CR z len tx now sl kp w := tp_CR_fr hr F (by intro q; omega) (by rw [(F.1 (z + 1) (by omega)).1]; exact hr.1) (tp_Mn_FR hr.2.2.1 F (by intro q; omega)) (tp_Mp_FR hr.2.2.2.2.1 F (by omega))
    refine tp_mono (tc_rem32 (H := fun i => hist (i + 1)) hr' hk (old := (old + 1) % 14) (n := 13) (Nat.mod_lt _ (by decide)) (by decide) (by rw [w91, tp_un (by decide), tp_us]) (by rw [w91, tp_us]; rfl) (fun i hi => ?_) (fun j hj => tp_Mp_FR (a5 j hj) F (by unfold tp_hs; omega))) (fun v hv => ?_)
    · have := a4 (i + 1) (by omega)
      rw [show (old + (i + 1)) % 14 = ((old + 1) % 14 + i) % 14 by omega] at this
      exact tp_Mn_FR this F (by unfold tp_hs; intro q; omega)
    · refine ⟨tp_CI_h hv.1 rfl (fun i hi => ?_), tp_FR_tr (tp_FR_m F (by unfold tp_HS; intro q; omega)) hv.2⟩
      unfold tp_ph
      rw [if_pos rfl]
  · rw [if_neg (fun z => c (e14.mp z))]
    refine tp_mono (tc_rem32 (H := hist) hr hk a1 (by omega) a2 a3 a4 a5) (fun v hv => ?_)
    refine ⟨tp_CI_h hv.1 ?_ (fun i hi => ?_), hv.2⟩
    · unfold tp_pn; rw [if_neg c]
    · unfold tp_ph; rw [if_neg c]
theorem tc_takeBack (h : tp_CI z len tx now hn hist sl kp u) (hs : ∀ i, i < hn → tp_rng (hist i)) (h14 : hn ≤ 14) (h0 : 0 < hn) : tp_T (f2_takeBack (z + 91) (z + 4) u) (fun v => tp_CI z len tx (hist (hn - 1)) (hn - 1) hist sl kp v ∧ tp_FR (fun q => q = z + 91 ∨ (z + 4 ≤ q ∧ q < z + 33)) u v) := by
  obtain ⟨hr, ⟨old, a1, a2, a3, a4⟩, a5⟩ := h
  unfold f2_takeBack
  rw [a3]
  have e0 : (nI hn ≤ 0) = (hn ≤ 0) := tp_le0 (by omega)
  rw [if_neg (fun z => by have := e0.mp z; omega), tp_tw, tp_L, tp_wg, tp_un (by decide), tp_us, a2, tp_k1, tp_sb (by omega), nI_add, tp_rm14 (by omega)]
  have hi : (old + (hn - 1)) % 14 < 14 := Nat.mod_lt _ (by decide)
  rw [tl_gs (tp_ix hi (by omega)), tp_cn (by omega)]
  generalize hw : tp_w u (z + 91) (tp_up (u.1 (z + 91)) 2 (nI (hn - 1))) = w
  have F : tp_FR (fun q => q = z + 91) u w := by
    rw [← hw]
    exact ⟨fun q hq => ⟨tp_wgn hq, rfl⟩, rfl⟩
  have w91 : w.1 (z + 91) = tp_up (u.1 (z + 91)) 2 (nI (hn - 1)) := by rw [← hw, tp_wg]
  have e : z + 91 + 1 + (1 + 29 * ((old + (hn - 1)) % 14)) = tp_hs z ((old + (hn - 1)) % 14) := rfl
  rw [e]
  have hB : tp_Mn (tp_hs z ((old + (hn - 1)) % 14)) (hist (hn - 1)) w := tp_Mn_FR (a4 (hn - 1) (by omega)) F (by unfold tp_hs; intro q; omega)
  have hA : tp_Mp (z + 4) w := tp_Mp_FR hr.2.2.1.2.1 F (by omega)
  refine tp_b (tc_copy hA hB (hs _ (by omega)) (by unfold tp_hs; omega)) (fun v hv => ?_)
  obtain ⟨v1, v2⟩ := hv
  have FA := tp_FR_A v2
  have FF : tp_FR (fun q => q = z + 91 ∨ (z + 4 ≤ q ∧ q < z + 33)) u v := tp_FR_tr (tp_FR_m F (by intro q; omega)) (tp_FR_m FA (by intro q; omega))
  refine tp_ret ⟨⟨tp_CR_fr hr FF (by intro q; omega) ?_ v1 ?_, ⟨old, a1, ?_, ?_, fun i hi2 => ?_⟩, fun j hj => ?_⟩, FF⟩
  · rw [(FF.1 (z + 1) (by omega)).1]; exact hr.1
  · exact tp_Mp_FR hr.2.2.2.2.1 FF (by omega)
  · rw [(FA.1 (z + 91) (by omega)).1, w91, tp_un (by decide)]; exact a2
  · rw [(FA.1 (z + 91) (by omega)).1, w91, tp_us]
  · exact tp_Mn_FR (a4 i (by omega)) FF (by unfold tp_hs; intro q; omega)
  · exact tp_Mp_FR (a5 j hj) FF (by unfold tp_hs; omega)
theorem tc_forget (h : tp_CR z len tx now sl kp u) (h2 : ∀ j, j < 14 → tp_Mp (tp_hs z j) u) : tp_T (f2_forgetAll (z + 91) u) (fun v => tp_CI z len tx now 0 hist sl kp v ∧ tp_FR (fun q => q = z + 91) u v) := by
  unfold f2_forgetAll
  rw [tp_tw, tp_L, tp_wu, tp_L]
  generalize hw : tp_w u (z + 91) (tp_up (tp_up (u.1 (z + 91)) 1 0) 2 0) = w
  have F : tp_FR (fun q => q = z + 91) u w := by
    rw [← hw]
    exact ⟨fun q hq => ⟨tp_wgn hq, rfl⟩, rfl⟩
  have w91 : w.1 (z + 91) = tp_up (tp_up (u.1 (z + 91)) 1 0) 2 0 := by rw [← hw, tp_wg]
  refine tp_ret ⟨⟨tp_CR_fr h F (by intro q; omega) (by rw [(F.1 (z + 1) (by omega)).1]; exact h.1) (tp_Mn_FR h.2.2.1 F (by intro q; omega)) (tp_Mp_FR h.2.2.2.2.1 F (by omega)), ⟨0, by decide, ?_, ?_, fun i hi => absurd hi (Nat.not_lt_zero _)⟩, fun j hj => tp_Mp_FR (h2 j hj) F (by unfold tp_hs; omega)⟩, F⟩
  · rw [w91, tp_un (by decide), tp_us]; rfl
  · rw [w91, tp_us]; rfl
theorem tc_throwFor {t : Nat} (ht : t ≤ 3) {w : tl_S} : f9_throwFor (nI t) w = some (t, 0, w) := by
  have : t = 0 ∨ t = 1 ∨ t = 2 ∨ t = 3 := by omega
  rcases this with rfl | rfl | rfl | rfl <;> rfl
theorem tp_ro_le (e i p : Bool) : tp_ro e i p ≤ 3 := by revert e i p; decide
theorem tp_bx0 {x : Int32} {w : tl_S} {f : Int32 → tl_S → Option (Nat × Int32 × tl_S)} : tl_bx (some (0, x, w)) f = f x w := Eq.trans rfl rfl
theorem tp_bxS {t : Nat} {x : Int32} {w : tl_S} {f : Int32 → tl_S → Option (Nat × Int32 × tl_S)} (h : t ≠ 0) : tl_bx (some (t, x, w)) f = some (t, 0, w) := by
  cases t with
  | zero => exact absurd rfl h
  | succ t => rfl
theorem tc_demand (e i p : Bool) {X Y Z : Int32} {w : tl_S} (hX : X = tp_b01 e) (hY : Y = tp_b01 i) (hZ : Z = tp_b01 p) : f9_demand X Y Z w = some (tp_ro e i p, 0, w) := by
  unfold f9_demand
  rw [hX, hY, hZ, tc_refusal, tp_b2S, tc_throwFor (tp_ro_le e i p)]
  by_cases c : tp_ro e i p = 0
  · rw [c, tp_bx0]
  · rw [tp_bxS c]
theorem tc_dem (e i p : Bool) {X Y Z : Int32} {w : tl_S} {f : Int32 → tl_S → Option (Nat × Int32 × tl_S)} {Q : Nat × Int32 × tl_S → Prop} (hX : X = tp_b01 e) (hY : Y = tp_b01 i) (hZ : Z = tp_b01 p) (h0 : e = true → i = true → p = true → tp_T (f 0 w) Q) (h1 : tp_ro e i p ≠ 0 → Q (tp_ro e i p, 0, w)) : tp_T (tl_bx (f9_demand X Y Z w) f) Q := by
  rw [tc_demand e i p hX hY hZ]
  by_cases c : tp_ro e i p = 0
  · rw [c, tp_bx0]
    obtain ⟨c1, c2, c3⟩ := tp_ro0.mp c
    exact h0 c1 c2 c3
  · rw [tp_bxS c]
    exact tp_ret (h1 c)
def tp_ZS (z q : Nat) : Prop := z ≤ q ∧ q < z + 559
/-- what a call of the class gives -/
def tp_CA (z : Nat) (u : tl_S) (t : Nat) (x : Int32) (len : Nat) (tx now : tp_R) (hn : Nat) (hist : Nat → tp_R) (sl : Nat → Bool) (kp : Nat → tp_R) (p : Nat × Int32 × tl_S) : Prop :=
  p.1 = t ∧ (t = 0 → p.2.1 = x) ∧ tp_FR (tp_ZS z) u p.2.2 ∧ tp_CI z len tx now hn hist sl kp p.2.2
theorem tp_CAn {t : Nat} {x : Int32} (h : tp_CI z len tx now hn hist sl kp u) (ht : t ≠ 0) : tp_CA z u t x len tx now hn hist sl kp (t, 0, u) := ⟨rfl, fun q => absurd q ht, tp_FR_rf u, h⟩
theorem tp_CAs {x y : Int32} (h : tp_CI z len tx now hn hist sl kp u) (e : y = x) : tp_CA z u 0 x len tx now hn hist sl kp (0, y, u) := ⟨rfl, fun _ => e, tp_FR_rf u, h⟩
theorem tc_act (h : tp_CI z len tx now hn hist sl kp u) (hs : tp_SO len tx now hn hist sl kp) {q : Nat} (h1 : 1 ≤ q) (h2 : q ≤ 10) {X A B C D : Int32} (hX : X = nI q) : tp_T (f9_act z X A B C D u) (fun p => (tp_rf q A B C D now ≠ 0 → tp_CA z u (tp_rf q A B C D now) 0 len tx now hn hist sl kp p) ∧ (tp_rf q A B C D now = 0 → tp_CA z u 0 (tp_pa q A B now) len tx (tp_pf q A B C D now) (tp_pn hn) (tp_ph hn hist now) sl kp p)) := by
  have hO := hs.2.2.1
  unfold f9_act
  refine tp_b (tc_become hX) (fun v hv => ?_)
  obtain ⟨hC, hF⟩ := hv
  have F1 := tp_FR_B hF
  have hv : tp_CI z len tx now hn hist sl kp v := tp_CI_cp h F1 (by intro q; omega) (tp_Mp_FR h.1.2.2.2.2.1 F1 (by omega))
  rw [tc_refuse (tp_P_rf hv.1.2.2.1) hO.1 h1 h2 hC, tp_b2S, tc_throwFor (tp_rf_le _ _ _ _ _ _)]
  by_cases c : tp_rf q A B C D now = 0
  · rw [c, tp_bx0]
    refine tp_b (tc_remember hv hO.1 hs.2.2.2.1) (fun w hw => ?_)
    obtain ⟨hw, F2⟩ := hw
    have hC2 : tp_Cm (z + 3) q A B C D w := by
      unfold tp_Cm
      rw [(F2.1 (z + 3) (by unfold tp_HS; omega)).1]
      exact hC
    refine tp_b2 (tc_perform (tp_P_rf hw.1.2.2.1) hO h1 h2 hC2 c) (fun x y hy => ?_)
    obtain ⟨hx, hy1, hy2⟩ := hy
    have F3 := tp_FR_A hy2
    have hy2 : tp_FR (fun q => z + 4 ≤ q ∧ q < z + 4 + 29) w y := F3
    refine tp_ret ⟨fun e => absurd rfl e, fun _ => ⟨rfl, fun _ => hx, ?_, ?_⟩⟩
    · exact tp_FR_tr (tp_FR_m F1 (by unfold tp_ZS; intro q; omega)) (tp_FR_tr (tp_FR_m F2 (by unfold tp_ZS tp_HS; intro q; omega)) (tp_FR_m hy2 (by unfold tp_ZS; intro q; omega)))
    · exact tp_CI_fr hw hy2 (by intro q; omega) (by rw [(hy2.1 (z + 1) (by omega)).1]; exact hw.1.1) hy1 (tp_Mp_FR hw.1.2.2.2.2.1 hy2 (by omega))
  · rw [tp_bxS c]
    refine tp_ret ⟨fun e => ⟨rfl, fun z => absurd z e, tp_FR_m F1 (by unfold tp_ZS; intro q; omega), hv⟩, fun z => absurd z c⟩
theorem tc_act1 {t : Nat} {o : Option (Nat × Int32 × tl_S)} {Q : Nat × Int32 × tl_S → Prop} (h : tp_T o Q) (hQ : ∀ t x y w, t ≠ 0 → Q (t, x, w) → Q (t, y, w)) : tp_T (tl_bx o (fun x5 u4 => some (0, x5, u4))) Q := by
  obtain ⟨⟨t, x, w⟩, e, hq⟩ := h
  rw [e]
  by_cases c : t = 0
  · subst c; rw [tp_bx0]; exact tp_ret hq
  · rw [tp_bxS c]; exact tp_ret (hQ t x 0 w c hq)
end TQD
