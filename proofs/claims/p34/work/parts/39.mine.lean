/-! A mine of the class, and the row that it stands for. -/
def tp_of (i : Nat) : Nat := if i < 18 then (if i = 8 ∨ (11 ≤ i ∧ i ≤ 15) then 4 else 0) else if i < 24 then 12 + (i - 18) / 2 else if i < 48 then 15 + (i - 24) / 4 else 21 + (i - 48) / 4
def tp_fld (i : Nat) : Nat :=
  if i < 18 then (if i < 8 then i + 4 else if i = 8 then 1 else if i < 11 then i + 3 else if i < 16 then i - 9 else i - 2)
  else if i < 24 then (i - 18) % 2 else if i < 48 then (i - 24) % 4 else ((i - 48) % 4 + 2) % 4
theorem tp_of_inj : ∀ i, i < 80 → ∀ j, j < 80 → tp_of i = tp_of j → tp_fld i = tp_fld j → i = j := by decide +kernel
theorem tp_of_o : ∀ i, i < 80 → (tp_of i < 6 ∨ 12 ≤ tp_of i) ∧ tp_of i < 29 := by decide +kernel
theorem tp_of_g : ∀ g, g < 3 → tp_of (18 + 2 * g) = 12 + g ∧ tp_fld (18 + 2 * g) = 0 ∧ tp_of (19 + 2 * g) = 12 + g ∧ tp_fld (19 + 2 * g) = 1 := by decide +kernel
theorem tp_of_m : ∀ m, m < 6 → (tp_of (24 + 4 * m) = 15 + m ∧ tp_fld (24 + 4 * m) = 0) ∧ (tp_of (25 + 4 * m) = 15 + m ∧ tp_fld (25 + 4 * m) = 1) ∧ (tp_of (26 + 4 * m) = 15 + m ∧ tp_fld (26 + 4 * m) = 2) ∧ (tp_of (27 + 4 * m) = 15 + m ∧ tp_fld (27 + 4 * m) = 3) := by decide +kernel
theorem tp_of_l : ∀ l, l < 8 → (tp_of (48 + 4 * l) = 21 + l ∧ tp_fld (48 + 4 * l) = 2) ∧ (tp_of (49 + 4 * l) = 21 + l ∧ tp_fld (49 + 4 * l) = 3) ∧ (tp_of (50 + 4 * l) = 21 + l ∧ tp_fld (50 + 4 * l) = 0) ∧ (tp_of (51 + 4 * l) = 21 + l ∧ tp_fld (51 + 4 * l) = 1) := by decide +kernel
/-- the rows of the orders' references are in order -/
def tp_Mp (a : Nat) (u : tl_S) : Prop := (∀ k, k < 6 → a + 5 < u.2.1 (a + 5) k ∧ u.2.1 (a + 5) k < a + 12) ∧ (∀ j, j < 6 → ∀ k, k < 6 → u.2.1 (a + 5) j = u.2.1 (a + 5) k → j = k)
def tp_Mo (a : Nat) (r : tp_R) (u : tl_S) : Prop := ∀ k, k < 6 → k < tp_cl (r 8) → u.1 (u.2.1 (a + 5) k) 0 = r (80 + 4 * k) ∧ u.1 (u.2.1 (a + 5) k) 1 = r (81 + 4 * k) ∧ (r (80 + 4 * k) = 0 → u.1 (u.2.1 (a + 5) k) 2 = r (82 + 4 * k) ∧ u.1 (u.2.1 (a + 5) k) 3 = r (83 + 4 * k)) ∧ (r (80 + 4 * k) ≠ 0 → u.1 (u.2.1 (a + 5) k) 4 = r (82 + 4 * k))
def tp_Mn (a : Nat) (r : tp_R) (u : tl_S) : Prop := (∀ i, i < 80 → u.1 (a + tp_of i) (tp_fld i) = r i) ∧ tp_Mp a u ∧ tp_Mo a r u
def tp_FA (a : Nat) (u v : tl_S) : Prop := (∀ q, (q < a ∨ a + 29 ≤ q) → v.1 q = u.1 q ∧ v.2.1 q = u.2.1 q) ∧ v.2.2 = u.2.2
def tp_P (u0 : tl_S) (a : Nat) (r : tp_R) (u : tl_S) : Prop := tp_Mn a r u ∧ tp_FA a u0 u
theorem tp_FA_rf (a : Nat) (u : tl_S) : tp_FA a u u := ⟨fun _ _ => ⟨rfl, rfl⟩, rfl⟩
theorem tp_FA_u {a A F : Nat} {x : Int32} {u v : tl_S} (h : tp_FA a u v) (h1 : a ≤ A) (h2 : A < a + 29) : tp_FA a u (tl_u v.1 A F x, v.2) :=
  ⟨fun q hq => ⟨by
    rw [← (h.1 q hq).1]
    funext j
    show tl_u v.1 A F x q j = v.1 q j
    unfold tl_u
    rw [if_neg (by omega)], (h.1 q hq).2⟩, h.2⟩
theorem tp_P_rf {a : Nat} {r : tp_R} {u : tl_S} (h : tp_Mn a r u) : tp_P u a r u := ⟨h, tp_FA_rf a u⟩
theorem tp_P_eq {a : Nat} {r q : tp_R} {u v : tl_S} (h : tp_P u a r v) (e : r = q) : tp_P u a q v := e ▸ h
theorem tp_put {a i A F : Nat} {x : Int32} {r : tp_R} {u0 u : tl_S} (h : tp_P u0 a r u) (hi : i < 80) (h8 : i ≠ 8) (hA : A = a + tp_of i) (hF : F = tp_fld i) : tp_P u0 a (tp_up r i x) (tl_u u.1 A F x, u.2) := by
  subst hA hF
  obtain ⟨⟨h1, h2, h3⟩, hF⟩ := h
  have ho := tp_of_o i hi
  have en : ∀ q j, q ≠ a + tp_of i → tl_u u.1 (a + tp_of i) (tp_fld i) x q j = u.1 q j := fun q j hq => by unfold tl_u; rw [if_neg (fun z => hq z.1)]
  refine ⟨⟨fun j hj => ?_, h2, fun k h6 hk => ?_⟩, tp_FA_u hF (by omega) (by omega)⟩
  · show tl_u u.1 (a + tp_of i) (tp_fld i) x (a + tp_of j) (tp_fld j) = tp_up r i x j
    unfold tl_u tp_up
    by_cases c : j = i
    · subst c; rw [if_pos ⟨rfl, rfl⟩, if_pos rfl]
    · rw [if_neg (fun z => c (tp_of_inj j hj i hi (by omega) z.2)), if_neg c]
      exact h1 j hj
  · rw [tp_un (Ne.symm h8)] at hk
    have hO := h2.1 k h6
    show tl_u u.1 _ _ x (u.2.1 (a + 5) k) 0 = _ ∧ tl_u u.1 _ _ x (u.2.1 (a + 5) k) 1 = _ ∧ (_ → tl_u u.1 _ _ x (u.2.1 (a + 5) k) 2 = _ ∧ tl_u u.1 _ _ x (u.2.1 (a + 5) k) 3 = _) ∧ (_ → tl_u u.1 _ _ x (u.2.1 (a + 5) k) 4 = _)
    rw [en _ _ (by omega), en _ _ (by omega), en _ _ (by omega), en _ _ (by omega), en _ _ (by omega), tp_un (by omega), tp_un (by omega), tp_un (by omega), tp_un (by omega)]
    exact h3 k h6 hk
section TPG
variable {α : Type} {a : Nat} {r : tp_R} {u0 u : tl_S} {f : tl_S → Option α} {Q : α → Prop} {x : Int32}
theorem tq_g0 (h : tp_P u0 a r u) : u.1 a 4 = r 0 := h.1.1 0 (by decide)
theorem tq_p0 (h : tp_P u0 a r u) (k : ∀ v, tp_P u0 a (tp_up r 0 x) v → tp_T (f v) Q) : tp_T (tl_let ((tl_u u.1 a 4 x, u.2) : tl_S) f) Q := k _ (tp_put h (i := 0) (by decide) (by decide) rfl rfl)
theorem tq_g1 (h : tp_P u0 a r u) : u.1 a 5 = r 1 := h.1.1 1 (by decide)
theorem tq_p1 (h : tp_P u0 a r u) (k : ∀ v, tp_P u0 a (tp_up r 1 x) v → tp_T (f v) Q) : tp_T (tl_let ((tl_u u.1 a 5 x, u.2) : tl_S) f) Q := k _ (tp_put h (i := 1) (by decide) (by decide) rfl rfl)
theorem tq_g2 (h : tp_P u0 a r u) : u.1 a 6 = r 2 := h.1.1 2 (by decide)
theorem tq_p2 (h : tp_P u0 a r u) (k : ∀ v, tp_P u0 a (tp_up r 2 x) v → tp_T (f v) Q) : tp_T (tl_let ((tl_u u.1 a 6 x, u.2) : tl_S) f) Q := k _ (tp_put h (i := 2) (by decide) (by decide) rfl rfl)
theorem tq_g3 (h : tp_P u0 a r u) : u.1 a 7 = r 3 := h.1.1 3 (by decide)
theorem tq_p3 (h : tp_P u0 a r u) (k : ∀ v, tp_P u0 a (tp_up r 3 x) v → tp_T (f v) Q) : tp_T (tl_let ((tl_u u.1 a 7 x, u.2) : tl_S) f) Q := k _ (tp_put h (i := 3) (by decide) (by decide) rfl rfl)
theorem tq_g4 (h : tp_P u0 a r u) : u.1 a 8 = r 4 := h.1.1 4 (by decide)
theorem tq_p4 (h : tp_P u0 a r u) (k : ∀ v, tp_P u0 a (tp_up r 4 x) v → tp_T (f v) Q) : tp_T (tl_let ((tl_u u.1 a 8 x, u.2) : tl_S) f) Q := k _ (tp_put h (i := 4) (by decide) (by decide) rfl rfl)
theorem tq_g5 (h : tp_P u0 a r u) : u.1 a 9 = r 5 := h.1.1 5 (by decide)
theorem tq_p5 (h : tp_P u0 a r u) (k : ∀ v, tp_P u0 a (tp_up r 5 x) v → tp_T (f v) Q) : tp_T (tl_let ((tl_u u.1 a 9 x, u.2) : tl_S) f) Q := k _ (tp_put h (i := 5) (by decide) (by decide) rfl rfl)
theorem tq_g6 (h : tp_P u0 a r u) : u.1 a 10 = r 6 := h.1.1 6 (by decide)
theorem tq_g7 (h : tp_P u0 a r u) : u.1 a 11 = r 7 := h.1.1 7 (by decide)
theorem tq_p7 (h : tp_P u0 a r u) (k : ∀ v, tp_P u0 a (tp_up r 7 x) v → tp_T (f v) Q) : tp_T (tl_let ((tl_u u.1 a 11 x, u.2) : tl_S) f) Q := k _ (tp_put h (i := 7) (by decide) (by decide) rfl rfl)
theorem tq_g8 (h : tp_P u0 a r u) : u.1 (a + 4) 1 = r 8 := h.1.1 8 (by decide)
theorem tq_g9 (h : tp_P u0 a r u) : u.1 a 12 = r 9 := h.1.1 9 (by decide)
theorem tq_p9 (h : tp_P u0 a r u) (k : ∀ v, tp_P u0 a (tp_up r 9 x) v → tp_T (f v) Q) : tp_T (tl_let ((tl_u u.1 a 12 x, u.2) : tl_S) f) Q := k _ (tp_put h (i := 9) (by decide) (by decide) rfl rfl)
theorem tq_g10 (h : tp_P u0 a r u) : u.1 a 13 = r 10 := h.1.1 10 (by decide)
theorem tq_p10 (h : tp_P u0 a r u) (k : ∀ v, tp_P u0 a (tp_up r 10 x) v → tp_T (f v) Q) : tp_T (tl_let ((tl_u u.1 a 13 x, u.2) : tl_S) f) Q := k _ (tp_put h (i := 10) (by decide) (by decide) rfl rfl)
theorem tq_g11 (h : tp_P u0 a r u) : u.1 (a + 4) 2 = r 11 := h.1.1 11 (by decide)
theorem tq_g12 (h : tp_P u0 a r u) : u.1 (a + 4) 3 = r 12 := h.1.1 12 (by decide)
theorem tq_g13 (h : tp_P u0 a r u) : u.1 (a + 4) 4 = r 13 := h.1.1 13 (by decide)
theorem tq_g14 (h : tp_P u0 a r u) : u.1 (a + 4) 5 = r 14 := h.1.1 14 (by decide)
theorem tq_g15 (h : tp_P u0 a r u) : u.1 (a + 4) 6 = r 15 := h.1.1 15 (by decide)
theorem tq_g16 (h : tp_P u0 a r u) : u.1 a 14 = r 16 := h.1.1 16 (by decide)
theorem tq_p16 (h : tp_P u0 a r u) (k : ∀ v, tp_P u0 a (tp_up r 16 x) v → tp_T (f v) Q) : tp_T (tl_let ((tl_u u.1 a 14 x, u.2) : tl_S) f) Q := k _ (tp_put h (i := 16) (by decide) (by decide) rfl rfl)
theorem tq_g17 (h : tp_P u0 a r u) : u.1 a 15 = r 17 := h.1.1 17 (by decide)
theorem tq_p17 (h : tp_P u0 a r u) (k : ∀ v, tp_P u0 a (tp_up r 17 x) v → tp_T (f v) Q) : tp_T (tl_let ((tl_u u.1 a 15 x, u.2) : tl_S) f) Q := k _ (tp_put h (i := 17) (by decide) (by decide) rfl rfl)
theorem tq_gG0 (h : tp_P u0 a r u) {g : Nat} (hl : g < 3) : u.1 ((a + 1) + (11 + g)) 0 = r (18 + 2 * g) := by
  have e := h.1.1 (18 + 2 * g) (by omega)
  rw [(tp_of_g g hl).1, (tp_of_g g hl).2.1] at e
  rw [show ((a + 1) + (11 + g)) = a + (12 + g) by omega]
  exact e
theorem tq_pG0 (h : tp_P u0 a r u) {g : Nat} (hl : g < 3) (k : ∀ v, tp_P u0 a (tp_up r (18 + 2 * g) x) v → tp_T (f v) Q) : tp_T (tl_let ((tl_u u.1 ((a + 1) + (11 + g)) 0 x, u.2) : tl_S) f) Q :=
  k _ (tp_put h (i := 18 + 2 * g) (by omega) (by omega) (by rw [(tp_of_g g hl).1]; omega) (tp_of_g g hl).2.1.symm)
theorem tq_gG1 (h : tp_P u0 a r u) {g : Nat} (hl : g < 3) : u.1 ((a + 1) + (11 + g)) 1 = r (19 + 2 * g) := by
  have e := h.1.1 (19 + 2 * g) (by omega)
  rw [(tp_of_g g hl).2.2.1, (tp_of_g g hl).2.2.2] at e
  rw [show ((a + 1) + (11 + g)) = a + (12 + g) by omega]
  exact e
theorem tq_pG1 (h : tp_P u0 a r u) {g : Nat} (hl : g < 3) (k : ∀ v, tp_P u0 a (tp_up r (19 + 2 * g) x) v → tp_T (f v) Q) : tp_T (tl_let ((tl_u u.1 ((a + 1) + (11 + g)) 1 x, u.2) : tl_S) f) Q :=
  k _ (tp_put h (i := 19 + 2 * g) (by omega) (by omega) (by rw [(tp_of_g g hl).2.2.1]; omega) (tp_of_g g hl).2.2.2.symm)
theorem tq_gM0 (h : tp_P u0 a r u) {m : Nat} (hl : m < 6) : u.1 ((a + 2) + (13 + m)) 0 = r (24 + 4 * m) := by
  have e := h.1.1 (24 + 4 * m) (by omega)
  rw [(tp_of_m m hl).1.1, (tp_of_m m hl).1.2] at e
  rw [show ((a + 2) + (13 + m)) = a + (15 + m) by omega]
  exact e
theorem tq_pM0 (h : tp_P u0 a r u) {m : Nat} (hl : m < 6) (k : ∀ v, tp_P u0 a (tp_up r (24 + 4 * m) x) v → tp_T (f v) Q) : tp_T (tl_let ((tl_u u.1 ((a + 2) + (13 + m)) 0 x, u.2) : tl_S) f) Q :=
  k _ (tp_put h (i := 24 + 4 * m) (by omega) (by omega) (by rw [(tp_of_m m hl).1.1]; omega) (tp_of_m m hl).1.2.symm)
theorem tq_gM1 (h : tp_P u0 a r u) {m : Nat} (hl : m < 6) : u.1 ((a + 2) + (13 + m)) 1 = r (25 + 4 * m) := by
  have e := h.1.1 (25 + 4 * m) (by omega)
  rw [(tp_of_m m hl).2.1.1, (tp_of_m m hl).2.1.2] at e
  rw [show ((a + 2) + (13 + m)) = a + (15 + m) by omega]
  exact e
theorem tq_pM1 (h : tp_P u0 a r u) {m : Nat} (hl : m < 6) (k : ∀ v, tp_P u0 a (tp_up r (25 + 4 * m) x) v → tp_T (f v) Q) : tp_T (tl_let ((tl_u u.1 ((a + 2) + (13 + m)) 1 x, u.2) : tl_S) f) Q :=
  k _ (tp_put h (i := 25 + 4 * m) (by omega) (by omega) (by rw [(tp_of_m m hl).2.1.1]; omega) (tp_of_m m hl).2.1.2.symm)
theorem tq_gM2 (h : tp_P u0 a r u) {m : Nat} (hl : m < 6) : u.1 ((a + 2) + (13 + m)) 2 = r (26 + 4 * m) := by
  have e := h.1.1 (26 + 4 * m) (by omega)
  rw [(tp_of_m m hl).2.2.1.1, (tp_of_m m hl).2.2.1.2] at e
  rw [show ((a + 2) + (13 + m)) = a + (15 + m) by omega]
  exact e
theorem tq_pM2 (h : tp_P u0 a r u) {m : Nat} (hl : m < 6) (k : ∀ v, tp_P u0 a (tp_up r (26 + 4 * m) x) v → tp_T (f v) Q) : tp_T (tl_let ((tl_u u.1 ((a + 2) + (13 + m)) 2 x, u.2) : tl_S) f) Q :=
  k _ (tp_put h (i := 26 + 4 * m) (by omega) (by omega) (by rw [(tp_of_m m hl).2.2.1.1]; omega) (tp_of_m m hl).2.2.1.2.symm)
theorem tq_gM3 (h : tp_P u0 a r u) {m : Nat} (hl : m < 6) : u.1 ((a + 2) + (13 + m)) 3 = r (27 + 4 * m) := by
  have e := h.1.1 (27 + 4 * m) (by omega)
  rw [(tp_of_m m hl).2.2.2.1, (tp_of_m m hl).2.2.2.2] at e
  rw [show ((a + 2) + (13 + m)) = a + (15 + m) by omega]
  exact e
theorem tq_pM3 (h : tp_P u0 a r u) {m : Nat} (hl : m < 6) (k : ∀ v, tp_P u0 a (tp_up r (27 + 4 * m) x) v → tp_T (f v) Q) : tp_T (tl_let ((tl_u u.1 ((a + 2) + (13 + m)) 3 x, u.2) : tl_S) f) Q :=
  k _ (tp_put h (i := 27 + 4 * m) (by omega) (by omega) (by rw [(tp_of_m m hl).2.2.2.1]; omega) (tp_of_m m hl).2.2.2.2.symm)
theorem tq_gL0 (h : tp_P u0 a r u) {l : Nat} (hl : l < 8) : u.1 ((a + 3) + (18 + l)) 2 = r (48 + 4 * l) := by
  have e := h.1.1 (48 + 4 * l) (by omega)
  rw [(tp_of_l l hl).1.1, (tp_of_l l hl).1.2] at e
  rw [show ((a + 3) + (18 + l)) = a + (21 + l) by omega]
  exact e
theorem tq_pL0 (h : tp_P u0 a r u) {l : Nat} (hl : l < 8) (k : ∀ v, tp_P u0 a (tp_up r (48 + 4 * l) x) v → tp_T (f v) Q) : tp_T (tl_let ((tl_u u.1 ((a + 3) + (18 + l)) 2 x, u.2) : tl_S) f) Q :=
  k _ (tp_put h (i := 48 + 4 * l) (by omega) (by omega) (by rw [(tp_of_l l hl).1.1]; omega) (tp_of_l l hl).1.2.symm)
theorem tq_gL1 (h : tp_P u0 a r u) {l : Nat} (hl : l < 8) : u.1 ((a + 3) + (18 + l)) 3 = r (49 + 4 * l) := by
  have e := h.1.1 (49 + 4 * l) (by omega)
  rw [(tp_of_l l hl).2.1.1, (tp_of_l l hl).2.1.2] at e
  rw [show ((a + 3) + (18 + l)) = a + (21 + l) by omega]
  exact e
theorem tq_pL1 (h : tp_P u0 a r u) {l : Nat} (hl : l < 8) (k : ∀ v, tp_P u0 a (tp_up r (49 + 4 * l) x) v → tp_T (f v) Q) : tp_T (tl_let ((tl_u u.1 ((a + 3) + (18 + l)) 3 x, u.2) : tl_S) f) Q :=
  k _ (tp_put h (i := 49 + 4 * l) (by omega) (by omega) (by rw [(tp_of_l l hl).2.1.1]; omega) (tp_of_l l hl).2.1.2.symm)
theorem tq_gL2 (h : tp_P u0 a r u) {l : Nat} (hl : l < 8) : u.1 ((a + 3) + (18 + l)) 0 = r (50 + 4 * l) := by
  have e := h.1.1 (50 + 4 * l) (by omega)
  rw [(tp_of_l l hl).2.2.1.1, (tp_of_l l hl).2.2.1.2] at e
  rw [show ((a + 3) + (18 + l)) = a + (21 + l) by omega]
  exact e
theorem tq_pL2 (h : tp_P u0 a r u) {l : Nat} (hl : l < 8) (k : ∀ v, tp_P u0 a (tp_up r (50 + 4 * l) x) v → tp_T (f v) Q) : tp_T (tl_let ((tl_u u.1 ((a + 3) + (18 + l)) 0 x, u.2) : tl_S) f) Q :=
  k _ (tp_put h (i := 50 + 4 * l) (by omega) (by omega) (by rw [(tp_of_l l hl).2.2.1.1]; omega) (tp_of_l l hl).2.2.1.2.symm)
theorem tq_gL3 (h : tp_P u0 a r u) {l : Nat} (hl : l < 8) : u.1 ((a + 3) + (18 + l)) 1 = r (51 + 4 * l) := by
  have e := h.1.1 (51 + 4 * l) (by omega)
  rw [(tp_of_l l hl).2.2.2.1, (tp_of_l l hl).2.2.2.2] at e
  rw [show ((a + 3) + (18 + l)) = a + (21 + l) by omega]
  exact e
theorem tq_pL3 (h : tp_P u0 a r u) {l : Nat} (hl : l < 8) (k : ∀ v, tp_P u0 a (tp_up r (51 + 4 * l) x) v → tp_T (f v) Q) : tp_T (tl_let ((tl_u u.1 ((a + 3) + (18 + l)) 1 x, u.2) : tl_S) f) Q :=
  k _ (tp_put h (i := 51 + 4 * l) (by omega) (by omega) (by rw [(tp_of_l l hl).2.2.2.1]; omega) (tp_of_l l hl).2.2.2.2.symm)
end TPG
