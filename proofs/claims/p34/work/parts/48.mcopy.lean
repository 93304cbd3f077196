/-! A mine of the class, copied. -/
section TPW
variable {α : Type} {A B : Nat} {r : tp_R} {u0 : tl_S}
def tp_J (A B : Nat) (r : tp_R) (u0 : tl_S) (P : Nat → Prop) (n : Nat) (v : tl_S) : Prop := tp_FA A u0 v ∧ tp_Mp A v ∧ (∀ i, i < 80 → P i → v.1 (A + tp_of i) (tp_fld i) = r i) ∧ (∀ k, k < n → k < 6 → ∀ f, f < 5 → v.1 (v.2.1 (A + 5) k) f = u0.1 (u0.2.1 (B + 5) k) f)
theorem tp_J_m {P P' : Nat → Prop} {n : Nat} {v : tl_S} (h : tp_J A B r u0 P n v) (e : ∀ i, i < 80 → P' i → P i) : tp_J A B r u0 P' n v := ⟨h.1, h.2.1, fun i hi z => h.2.2.1 i hi (e i hi z), h.2.2.2⟩
theorem tp_J_r {P : Nat → Prop} {n : Nat} {v : tl_S} (h : tp_J A B r u0 P n v) (hB : tp_Mn B r u0) (d : A + 29 ≤ B ∨ B + 29 ≤ A) {i X F : Nat} (hi : i < 80) (ha : X = B + tp_of i) (hf : F = tp_fld i) : v.1 X F = r i := by
  subst ha hf
  have := tp_of_o i hi
  rw [(h.1.1 (B + tp_of i) (by omega)).1]
  exact hB.1 i hi
theorem tk_w {P : Nat → Prop} {n : Nat} {v : tl_S} {f : tl_S → Option α} {Q : α → Prop} {i X F : Nat} {x : Int32} (h : tp_J A B r u0 P n v) (hi : i < 80) (ha : X = A + tp_of i) (hf : F = tp_fld i) (hx : x = r i) (k : ∀ w, tp_J A B r u0 (fun j => P j ∨ j = i) n w → tp_T (f w) Q) : tp_T (tl_let ((tl_u v.1 X F x, v.2) : tl_S) f) Q := by
  subst ha hf hx
  have ho := tp_of_o i hi
  obtain ⟨h1, h2, h3, h4⟩ := h
  refine k _ ⟨tp_FA_u h1 (by omega) (by omega), h2, fun j hj hP => ?_, fun q hq q6 f hf => ?_⟩
  · show tl_u v.1 _ _ (r i) (A + tp_of j) (tp_fld j) = r j
    unfold tl_u
    by_cases c : j = i
    · subst c; rw [if_pos ⟨rfl, rfl⟩]
    · rw [if_neg (fun z => c (tp_of_inj j hj i hi (by omega) z.2))]
      exact h3 j hj (hP.resolve_right c)
  · have := h2.1 q q6
    show tl_u v.1 _ _ (r i) (v.2.1 (A + 5) q) f = _
    unfold tl_u
    rw [if_neg (by omega)]
    exact h4 q hq q6 f hf
theorem tk_wB {P : Nat → Prop} {n : Nat} {v : tl_S} {f : tl_S → Option α} {Q : α → Prop} {i X F Y : Nat} (h : tp_J A B r u0 P n v) (hB : tp_Mn B r u0) (d : A + 29 ≤ B ∨ B + 29 ≤ A) (hi : i < 80) (ha : X = A + tp_of i) (hb : Y = B + tp_of i) (hf : F = tp_fld i) (k : ∀ w, tp_J A B r u0 (fun j => P j ∨ j = i) n w → tp_T (f w) Q) : tp_T (tl_let ((tl_u v.1 X F (v.1 Y F), v.2) : tl_S) f) Q :=
  tk_w h hi ha hf (tp_J_r h hB d hi hb hf) k
theorem tk_ord {P : Nat → Prop} {n : Nat} {v : tl_S} (h : tp_J A B r u0 P n v) (hB : tp_Mp B u0) (d : A + 29 ≤ B ∨ B + 29 ≤ A) (hn : n < 6) : tp_T (f8_copyFrom (v.2.1 (A + 5) n) (v.2.1 (B + 5) n) v) (tp_J A B r u0 P (n + 1)) := by
  obtain ⟨h1, h2, h3, h4⟩ := h
  have eB : v.2.1 (B + 5) = u0.2.1 (B + 5) := (h1.1 (B + 5) (by omega)).2
  have rA := h2.1 n hn
  have rB := hB.1 n hn
  rw [eB]
  generalize hp : v.2.1 (A + 5) n = p at rA
  generalize hq : u0.2.1 (B + 5) n = q at rB
  have eq : v.1 q = u0.1 q := (h1.1 q (by omega)).1
  have ne : q ≠ p := by omega
  unfold f8_copyFrom
  rw [tp_L, tp_L, tp_L, tp_L, tp_L]
  refine tp_ret ?_
  have E : ∀ (w : Nat → Nat → Int32) j x, tl_u w p j x q = w q := fun w j x => by
    funext z
    unfold tl_u
    rw [if_neg (fun y => ne y.1)]
  simp only [E, eq]
  generalize hV : tl_u (tl_u (tl_u (tl_u (tl_u v.1 p 0 (u0.1 q 0)) p 1 (u0.1 q 1)) p 2 (u0.1 q 2)) p 3 (u0.1 q 3)) p 4 (u0.1 q 4) = V
  have V0 : ∀ z j, z ≠ p → V z j = v.1 z j := by
    intro z j hz
    rw [← hV]
    unfold tl_u
    rw [if_neg (fun y => hz y.1), if_neg (fun y => hz y.1), if_neg (fun y => hz y.1), if_neg (fun y => hz y.1), if_neg (fun y => hz y.1)]
  have V1 : ∀ f, f < 5 → V p f = u0.1 q f := by
    intro f hf
    rw [← hV]
    unfold tl_u
    have : f = 0 ∨ f = 1 ∨ f = 2 ∨ f = 3 ∨ f = 4 := by omega
    rcases this with rfl | rfl | rfl | rfl | rfl
    · rw [if_neg (by omega), if_neg (by omega), if_neg (by omega), if_neg (by omega), if_pos ⟨rfl, rfl⟩]
    · rw [if_neg (by omega), if_neg (by omega), if_neg (by omega), if_pos ⟨rfl, rfl⟩]
    · rw [if_neg (by omega), if_neg (by omega), if_pos ⟨rfl, rfl⟩]
    · rw [if_neg (by omega), if_pos ⟨rfl, rfl⟩]
    · rw [if_pos ⟨rfl, rfl⟩]
  refine ⟨⟨fun z hz => ⟨?_, (h1.1 z hz).2⟩, h1.2⟩, h2, fun i hi hP => ?_, fun k hk k6 f hf => ?_⟩
  · rw [← (h1.1 z hz).1]
    funext j
    exact V0 z j (by omega)
  · have ho := tp_of_o i hi
    show V (A + tp_of i) (tp_fld i) = r i
    rw [V0 _ _ (by omega)]
    exact h3 i hi hP
  · show V (v.2.1 (A + 5) k) f = _
    by_cases c : k = n
    · rw [c, hp, hq]; exact V1 f hf
    · have : v.2.1 (A + 5) k ≠ p := fun z => c (h2.2 k k6 n hn (z.trans hp.symm))
      rw [V0 _ _ this]
      exact h4 k (by omega) k6 f hf
theorem tk_lad (hB : tp_Mn B r u0) (hr : tp_rng r) (d : A + 29 ≤ B ∨ B + 29 ≤ A) {P : Nat → Prop} : ∀ (f n : Nat) (v : tl_S), n ≤ 6 → 6 - n < f → tp_J A B r u0 P n v → tp_T (f3_copyFrom_p2 f (A + 4) (B + 4) (nI n) v) (tp_J A B r u0 (fun j => P j ∨ j = 8 ∨ (11 ≤ j ∧ j ≤ 15)) 6)
  | 0, _, _, _, h, _ => absurd h (Nat.not_lt_zero _)
  | f + 1, n, v, hn, hf, h => by
    unfold f3_copyFrom_p2
    have el : (nI 6 ≤ nI n) = (6 ≤ n) := tp_le (by omega) (by omega)
    by_cases c : 6 ≤ n
    · have h6 : n = 6 := by omega
      subst h6
      rw [if_pos (by rw [tp_k6]; exact el.mpr c)]
      refine tk_wB (i := 8) h hB d (by decide) rfl rfl rfl (fun w hw => ?_)
      refine tk_wB (i := 11) hw hB d (by decide) rfl rfl rfl (fun w hw => ?_)
      refine tk_wB (i := 12) hw hB d (by decide) rfl rfl rfl (fun w hw => ?_)
      refine tk_wB (i := 13) hw hB d (by decide) rfl rfl rfl (fun w hw => ?_)
      refine tk_wB (i := 14) hw hB d (by decide) rfl rfl rfl (fun w hw => ?_)
      have e15 : w.1 (B + 4) 6 = r 15 := tp_J_r (i := 15) hw hB d (by decide) rfl rfl
      refine tp_g ?_ ?_
      · rw [e15]
        obtain ⟨q, q2, q1, -⟩ := tp_xx (tp_r15 hr)
        rw [q1]
        have : q = 0 ∨ q = 1 := by omega
        rcases this with rfl | rfl
        · exact Or.inl rfl
        · exact Or.inr rfl
      · refine tk_wB (i := 15) hw hB d (by decide) rfl rfl rfl (fun w hw => ?_)
        refine tp_ret (tp_J_m hw (fun i hi z => ?_))
        rcases z with z | z
        · exact Or.inl (Or.inl (Or.inl (Or.inl (Or.inl (Or.inl z)))))
        · have : i = 8 ∨ i = 11 ∨ i = 12 ∨ i = 13 ∨ i = 14 ∨ i = 15 := by omega
          rcases this with rfl | rfl | rfl | rfl | rfl | rfl <;> simp
    · rw [if_neg (fun z => c (by rw [tp_k6] at z; exact el.mp z)), tl_gs (tp_ix (by omega) (by omega)), tp_cn (by omega)]
      have hA := h.2.1.1 n (by omega)
      have hBo := hB.2.1.1 n (by omega)
      have eB : v.2.1 (B + 5) = u0.2.1 (B + 5) := (h.1.1 (B + 5) (by omega)).2
      rw [← eB] at hBo
      show tp_T (tl_g (A + 5 < v.2.1 (A + 5) n ∧ v.2.1 (A + 5) n < A + 5 + 7) (tl_g _ (tl_g (B + 5 < v.2.1 (B + 5) n ∧ v.2.1 (B + 5) n < B + 5 + 7) (tl_b (f8_copyFrom (v.2.1 (A + 5) n) (v.2.1 (B + 5) n) v) _)))) _
      rw [tl_gs (by omega), tl_gs (tp_ixn (by omega) (by omega)), tl_gs (by omega)]
      refine tp_b (tk_ord h hB.2.1 d (by omega)) (fun w hw => ?_)
      rw [tp_L, nI_1]
      exact tk_lad hB hr d f (n + 1) w (by omega) (by omega) hw
theorem tk_p59 (hB : tp_Mn B r u0) (hr : tp_rng r) (d : A + 29 ≤ B ∨ B + 29 ≤ A) : ∀ (f n : Nat) (v : tl_S), n ≤ 8 → 8 - n < f → tp_J A B r u0 (fun i => 18 ≤ i ∧ i < 48 + 4 * n) 0 v → tp_T (f5_copyFrom_p59 f A B (nI n) v) (tp_P u0 A r)
  | 0, _, _, _, h, _ => absurd h (Nat.not_lt_zero _)
  | f + 1, n, v, hn, hf, h => by
    unfold f5_copyFrom_p59
    have el : (nI 8 ≤ nI n) = (8 ≤ n) := tp_le (by omega) (by omega)
    by_cases c : 8 ≤ n
    · rw [if_pos (by rw [tp_k8]; exact el.mpr c)]
      refine tp_b (tk_lad hB hr d tl_F 0 v (Nat.zero_le _) (by unfold tl_F; omega) h) (fun w hw => ?_)
      refine tk_wB (i := 0) hw hB d (by decide) rfl rfl rfl (fun w hw => ?_)
      refine tk_wB (i := 1) hw hB d (by decide) rfl rfl rfl (fun w hw => ?_)
      refine tk_wB (i := 2) hw hB d (by decide) rfl rfl rfl (fun w hw => ?_)
      refine tk_wB (i := 3) hw hB d (by decide) rfl rfl rfl (fun w hw => ?_)
      refine tk_wB (i := 4) hw hB d (by decide) rfl rfl rfl (fun w hw => ?_)
      refine tk_wB (i := 5) hw hB d (by decide) rfl rfl rfl (fun w hw => ?_)
      refine tk_wB (i := 6) hw hB d (by decide) rfl rfl rfl (fun w hw => ?_)
      refine tk_wB (i := 7) hw hB d (by decide) rfl rfl rfl (fun w hw => ?_)
      refine tk_wB (i := 9) hw hB d (by decide) rfl rfl rfl (fun w hw => ?_)
      refine tk_wB (i := 10) hw hB d (by decide) rfl rfl rfl (fun w hw => ?_)
      refine tk_wB (i := 16) hw hB d (by decide) rfl rfl rfl (fun w hw => ?_)
      refine tk_wB (i := 17) hw hB d (by decide) rfl rfl rfl (fun w hw => ?_)
      obtain ⟨h1, h2, h3, h4⟩ := hw
      refine tp_ret ⟨⟨fun i hi => h3 i hi (by omega), h2, fun k hk hk8 => ?_⟩, h1⟩
      have hm := hB.2.2 k hk hk8
      rw [h4 k hk hk 0 (by decide), h4 k hk hk 1 (by decide), h4 k hk hk 2 (by decide), h4 k hk hk 3 (by decide), h4 k hk hk 4 (by decide)]
      exact hm
    · have hn8 : n < 8 := by omega
      have o := tp_of_l n hn8
      rw [if_neg (fun z => c (by rw [tp_k8] at z; exact el.mp z)), tl_gs (tp_ix hn8 (by omega)), tl_gs (tp_ix hn8 (by omega)), tp_cn (by omega)]
      have key : tp_T (f4_copyFrom ((A + 3) + (18 + n)) ((B + 3) + (18 + n)) v) (tp_J A B r u0 (fun i => 18 ≤ i ∧ i < 48 + 4 * (n + 1)) 0) := by
        unfold f4_copyFrom
        refine tk_wB (i := 50 + 4 * n) h hB d (by omega) (by rw [o.2.2.1.1]; omega) (by rw [o.2.2.1.1]; omega) o.2.2.1.2.symm (fun w hw => ?_)
        refine tk_wB (i := 51 + 4 * n) hw hB d (by omega) (by rw [o.2.2.2.1]; omega) (by rw [o.2.2.2.1]; omega) o.2.2.2.2.symm (fun w hw => ?_)
        refine tk_wB (i := 48 + 4 * n) hw hB d (by omega) (by rw [o.1.1]; omega) (by rw [o.1.1]; omega) o.1.2.symm (fun w hw => ?_)
        refine tk_wB (i := 49 + 4 * n) hw hB d (by omega) (by rw [o.2.1.1]; omega) (by rw [o.2.1.1]; omega) o.2.1.2.symm (fun w hw => ?_)
        exact tp_ret (tp_J_m hw (fun i hi z => by omega))
      refine tp_b key (fun w hw => ?_)
      rw [tp_L, nI_1]
      exact tk_p59 hB hr d f (n + 1) w (by omega) (by omega) hw
theorem tk_p30 (hB : tp_Mn B r u0) (hr : tp_rng r) (d : A + 29 ≤ B ∨ B + 29 ≤ A) : ∀ (f n : Nat) (v : tl_S), n ≤ 6 → 6 - n < f → tp_J A B r u0 (fun i => 18 ≤ i ∧ i < 24 + 4 * n) 0 v → tp_T (f5_copyFrom_p30 f A B (nI n) v) (tp_P u0 A r)
  | 0, _, _, _, h, _ => absurd h (Nat.not_lt_zero _)
  | f + 1, n, v, hn, hf, h => by
    unfold f5_copyFrom_p30
    have el : (nI 6 ≤ nI n) = (6 ≤ n) := tp_le (by omega) (by omega)
    by_cases c : 6 ≤ n
    · rw [if_pos (by rw [tp_k6]; exact el.mpr c)]
      exact tk_p59 hB hr d tl_F 0 v (Nat.zero_le _) (by unfold tl_F; omega) (tp_J_m h (fun i hi z => by omega))
    · have hn8 : n < 6 := by omega
      have o := tp_of_m n hn8
      rw [if_neg (fun z => c (by rw [tp_k6] at z; exact el.mp z)), tl_gs (tp_ix hn8 (by omega)), tl_gs (tp_ix hn8 (by omega)), tp_cn (by omega)]
      have key : tp_T (f7_copyFrom ((A + 2) + (13 + n)) ((B + 2) + (13 + n)) v) (tp_J A B r u0 (fun i => 18 ≤ i ∧ i < 24 + 4 * (n + 1)) 0) := by
        unfold f7_copyFrom
        refine tk_wB (i := 24 + 4 * n) h hB d (by omega) (by rw [o.1.1]; omega) (by rw [o.1.1]; omega) o.1.2.symm (fun w hw => ?_)
        refine tk_wB (i := 25 + 4 * n) hw hB d (by omega) (by rw [o.2.1.1]; omega) (by rw [o.2.1.1]; omega) o.2.1.2.symm (fun w hw => ?_)
        refine tk_wB (i := 26 + 4 * n) hw hB d (by omega) (by rw [o.2.2.1.1]; omega) (by rw [o.2.2.1.1]; omega) o.2.2.1.2.symm (fun w hw => ?_)
        refine tk_wB (i := 27 + 4 * n) hw hB d (by omega) (by rw [o.2.2.2.1]; omega) (by rw [o.2.2.2.1]; omega) o.2.2.2.2.symm (fun w hw => ?_)
        exact tp_ret (tp_J_m hw (fun i hi z => by omega))
      refine tp_b key (fun w hw => ?_)
      rw [tp_L, nI_1]
      exact tk_p30 hB hr d f (n + 1) w (by omega) (by omega) hw
theorem tk_p2 (hB : tp_Mn B r u0) (hr : tp_rng r) (d : A + 29 ≤ B ∨ B + 29 ≤ A) : ∀ (f n : Nat) (v : tl_S), n ≤ 3 → 3 - n < f → tp_J A B r u0 (fun i => 18 ≤ i ∧ i < 18 + 2 * n) 0 v → tp_T (f5_copyFrom_p2 f A B (nI n) v) (tp_P u0 A r)
  | 0, _, _, _, h, _ => absurd h (Nat.not_lt_zero _)
  | f + 1, n, v, hn, hf, h => by
    unfold f5_copyFrom_p2
    have el : (nI 3 ≤ nI n) = (3 ≤ n) := tp_le (by omega) (by omega)
    by_cases c : 3 ≤ n
    · rw [if_pos (by rw [tp_k3]; exact el.mpr c)]
      exact tk_p30 hB hr d tl_F 0 v (Nat.zero_le _) (by unfold tl_F; omega) (tp_J_m h (fun i hi z => by omega))
    · have hn8 : n < 3 := by omega
      have o := tp_of_g n hn8
      rw [if_neg (fun z => c (by rw [tp_k3] at z; exact el.mp z)), tl_gs (tp_ix hn8 (by omega)), tl_gs (tp_ix hn8 (by omega)), tp_cn (by omega)]
      have key : tp_T (f1_copyFrom ((A + 1) + (11 + n)) ((B + 1) + (11 + n)) v) (tp_J A B r u0 (fun i => 18 ≤ i ∧ i < 18 + 2 * (n + 1)) 0) := by
        unfold f1_copyFrom
        refine tk_wB (i := 18 + 2 * n) h hB d (by omega) (by rw [o.1]; omega) (by rw [o.1]; omega) o.2.1.symm (fun w hw => ?_)
        refine tk_wB (i := 19 + 2 * n) hw hB d (by omega) (by rw [o.2.2.1]; omega) (by rw [o.2.2.1]; omega) o.2.2.2.symm (fun w hw => ?_)
        exact tp_ret (tp_J_m hw (fun i hi z => by omega))
      refine tp_b key (fun w hw => ?_)
      rw [tp_L, nI_1]
      exact tk_p2 hB hr d f (n + 1) w (by omega) (by omega) hw
/-- a mine, copied -/
theorem tc_copy (hA : tp_Mp A u0) (hB : tp_Mn B r u0) (hr : tp_rng r) (d : A + 29 ≤ B ∨ B + 29 ≤ A) : tp_T (f5_copyFrom A B u0) (tp_P u0 A r) :=
  tk_p2 hB hr d tl_F 0 u0 (Nat.zero_le _) (by unfold tl_F; omega) ⟨tp_FA_rf A u0, hA, fun _ _ z => by omega, fun _ z => absurd z (Nat.not_lt_zero _)⟩
end TPW
