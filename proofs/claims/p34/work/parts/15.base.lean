/-! Rows of numbers, small numbers, and how a function over the world is followed. -/
abbrev tp_R : Type := Nat → Int32
def tp_up (r : tp_R) (i : Nat) (x : Int32) : tp_R := fun j => if j = i then x else r j
theorem tp_us (r : tp_R) (i : Nat) (x : Int32) : tp_up r i x i = x := if_pos rfl
theorem tp_un {r : tp_R} {i j : Nat} {x : Int32} (h : j ≠ i) : tp_up r i x j = r j := if_neg h
theorem tp_uu (r : tp_R) (i : Nat) (x y : Int32) : tp_up (tp_up r i x) i y = tp_up r i y := by
  funext j
  unfold tp_up
  split <;> rfl
theorem tp_uc {r : tp_R} {i j : Nat} {x y : Int32} (h : i ≠ j) : tp_up (tp_up r i x) j y = tp_up (tp_up r j y) i x := by
  funext k
  unfold tp_up
  by_cases a : k = i
  · subst a
    rw [if_neg h, if_pos rfl, if_pos rfl]
  · rw [if_neg a, if_neg a]
theorem tp_ui (r : tp_R) (i : Nat) : tp_up r i (r i) = r := by
  funext j
  unfold tp_up
  split
  · subst_vars; rfl
  · rfl
abbrev tp_cl (x : Int32) : Nat := x.toNatClampNeg
theorem tp_k0 : (0 : Int32) = nI 0 := Eq.trans rfl rfl
theorem tp_k1 : (1 : Int32) = nI 1 := Eq.trans rfl rfl
theorem tp_k2 : (2 : Int32) = nI 2 := Eq.trans rfl rfl
theorem tp_k3 : (3 : Int32) = nI 3 := Eq.trans rfl rfl
theorem tp_k4 : (4 : Int32) = nI 4 := Eq.trans rfl rfl
theorem tp_k5 : (5 : Int32) = nI 5 := Eq.trans rfl rfl
theorem tp_k6 : (6 : Int32) = nI 6 := Eq.trans rfl rfl
theorem tp_k7 : (7 : Int32) = nI 7 := Eq.trans rfl rfl
theorem tp_k8 : (8 : Int32) = nI 8 := Eq.trans rfl rfl
theorem tp_k9 : (9 : Int32) = nI 9 := Eq.trans rfl rfl
theorem tp_k10 : (10 : Int32) = nI 10 := Eq.trans rfl rfl
theorem tp_k11 : (11 : Int32) = nI 11 := Eq.trans rfl rfl
theorem tp_k12 : (12 : Int32) = nI 12 := Eq.trans rfl rfl
theorem tp_k13 : (13 : Int32) = nI 13 := Eq.trans rfl rfl
theorem tp_k14 : (14 : Int32) = nI 14 := Eq.trans rfl rfl
theorem tp_k15 : (15 : Int32) = nI 15 := Eq.trans rfl rfl
theorem tp_k16 : (16 : Int32) = nI 16 := Eq.trans rfl rfl
theorem tp_k17 : (17 : Int32) = nI 17 := Eq.trans rfl rfl
theorem tp_k18 : (18 : Int32) = nI 18 := Eq.trans rfl rfl
theorem tp_k19 : (19 : Int32) = nI 19 := Eq.trans rfl rfl
theorem tp_k20 : (20 : Int32) = nI 20 := Eq.trans rfl rfl
theorem tp_k21 : (21 : Int32) = nI 21 := Eq.trans rfl rfl
theorem tp_k22 : (22 : Int32) = nI 22 := Eq.trans rfl rfl
theorem tp_k23 : (23 : Int32) = nI 23 := Eq.trans rfl rfl
theorem tp_k24 : (24 : Int32) = nI 24 := Eq.trans rfl rfl
theorem tp_k25 : (25 : Int32) = nI 25 := Eq.trans rfl rfl
theorem tp_k26 : (26 : Int32) = nI 26 := Eq.trans rfl rfl
theorem tp_k27 : (27 : Int32) = nI 27 := Eq.trans rfl rfl
theorem tp_k28 : (28 : Int32) = nI 28 := Eq.trans rfl rfl
theorem tp_k29 : (29 : Int32) = nI 29 := Eq.trans rfl rfl
theorem tp_k30 : (30 : Int32) = nI 30 := Eq.trans rfl rfl
theorem tp_k31 : (31 : Int32) = nI 31 := Eq.trans rfl rfl
theorem tp_k32 : (32 : Int32) = nI 32 := Eq.trans rfl rfl
theorem tp_k33 : (33 : Int32) = nI 33 := Eq.trans rfl rfl
theorem tp_k34 : (34 : Int32) = nI 34 := Eq.trans rfl rfl
theorem tp_k35 : (35 : Int32) = nI 35 := Eq.trans rfl rfl
theorem tp_k36 : (36 : Int32) = nI 36 := Eq.trans rfl rfl
theorem tp_k37 : (37 : Int32) = nI 37 := Eq.trans rfl rfl
theorem tp_k38 : (38 : Int32) = nI 38 := Eq.trans rfl rfl
theorem tp_k39 : (39 : Int32) = nI 39 := Eq.trans rfl rfl
theorem tp_k40 : (40 : Int32) = nI 40 := Eq.trans rfl rfl
theorem tp_k41 : (41 : Int32) = nI 41 := Eq.trans rfl rfl
theorem tp_k42 : (42 : Int32) = nI 42 := Eq.trans rfl rfl
theorem tp_k43 : (43 : Int32) = nI 43 := Eq.trans rfl rfl
theorem tp_k44 : (44 : Int32) = nI 44 := Eq.trans rfl rfl
theorem tp_k45 : (45 : Int32) = nI 45 := Eq.trans rfl rfl
theorem tp_k46 : (46 : Int32) = nI 46 := Eq.trans rfl rfl
theorem tp_k47 : (47 : Int32) = nI 47 := Eq.trans rfl rfl
theorem tp_k48 : (48 : Int32) = nI 48 := Eq.trans rfl rfl
theorem tp_k49 : (49 : Int32) = nI 49 := Eq.trans rfl rfl
theorem tp_k50 : (50 : Int32) = nI 50 := Eq.trans rfl rfl
theorem tp_k51 : (51 : Int32) = nI 51 := Eq.trans rfl rfl
theorem tp_k52 : (52 : Int32) = nI 52 := Eq.trans rfl rfl
theorem tp_k53 : (53 : Int32) = nI 53 := Eq.trans rfl rfl
theorem tp_k54 : (54 : Int32) = nI 54 := Eq.trans rfl rfl
theorem tp_k55 : (55 : Int32) = nI 55 := Eq.trans rfl rfl
theorem tp_k56 : (56 : Int32) = nI 56 := Eq.trans rfl rfl
theorem tp_k57 : (57 : Int32) = nI 57 := Eq.trans rfl rfl
theorem tp_k58 : (58 : Int32) = nI 58 := Eq.trans rfl rfl
theorem tp_k59 : (59 : Int32) = nI 59 := Eq.trans rfl rfl
theorem tp_k60 : (60 : Int32) = nI 60 := Eq.trans rfl rfl
theorem tp_k61 : (61 : Int32) = nI 61 := Eq.trans rfl rfl
theorem tp_k62 : (62 : Int32) = nI 62 := Eq.trans rfl rfl
theorem tp_k63 : (63 : Int32) = nI 63 := Eq.trans rfl rfl
theorem tp_k80 : (80 : Int32) = nI 80 := Eq.trans rfl rfl
theorem tp_k99 : (99 : Int32) = nI 99 := Eq.trans rfl rfl
theorem tp_k100 : (100 : Int32) = nI 100 := Eq.trans rfl rfl
theorem tp_k104 : (104 : Int32) = nI 104 := Eq.trans rfl rfl
theorem tp_k120 : (120 : Int32) = nI 120 := Eq.trans rfl rfl
theorem tp_k200 : (200 : Int32) = nI 200 := Eq.trans rfl rfl
theorem tp_k255 : (255 : Int32) = nI 255 := Eq.trans rfl rfl
theorem tp_k512 : (512 : Int32) = nI 512 := Eq.trans rfl rfl
theorem tp_k999 : (999 : Int32) = nI 999 := Eq.trans rfl rfl
theorem tp_k1000 : (1000 : Int32) = nI 1000 := Eq.trans rfl rfl
theorem tp_k1352 : (1352 : Int32) = nI 1352 := Eq.trans rfl rfl
theorem tp_k1440 : (1440 : Int32) = nI 1440 := Eq.trans rfl rfl
theorem tp_k9999 : (9999 : Int32) = nI 9999 := Eq.trans rfl rfl
theorem tp_k10000 : (10000 : Int32) = nI 10000 := Eq.trans rfl rfl
theorem tp_k65535 : (65535 : Int32) = nI 65535 := Eq.trans rfl rfl
theorem tp_k100000 : (100000 : Int32) = nI 100000 := Eq.trans rfl rfl
theorem tp_k1000000 : (1000000 : Int32) = nI 1000000 := Eq.trans rfl rfl
theorem tp_big : (2147483648 : Nat) = 2 ^ 31 := by decide
theorem tp_cn {n : Nat} (h : n < 2147483648) : (nI n).toNatClampNeg = n := nI_clamp h
theorem tp_le {a b : Nat} (ha : a < 2147483648) (hb : b < 2147483648) : (nI a ≤ nI b) = (a ≤ b) := propext (nI_leI ha hb)
theorem tp_lt {a b : Nat} (ha : a < 2147483648) (hb : b < 2147483648) : (nI a < nI b) = (a < b) := propext (nI_ltI ha hb)
theorem tp_eq {a b : Nat} (ha : a < 2147483648) (hb : b < 2147483648) : (nI a = nI b) = (a = b) := propext (nI_eq ha hb)
theorem tp_sb {a b : Nat} (h : b ≤ a) : nI a - nI b = nI (a - b) := pk_sub h
theorem tp_neg {n : Nat} (h : n < 2147483648) : (nI n < 0) = False := eq_false (nI_pos h)
theorem tp_m1i : ((-1 : Int32)).toInt = -1 := by decide
theorem tp_lei (x y : Int32) : (x ≤ y) = (x.toInt ≤ y.toInt) := propext Int32.le_iff_toInt_le
theorem tp_lti (x y : Int32) : (x < y) = (x.toInt < y.toInt) := propext Int32.lt_iff_toInt_lt
theorem tp_eqi (x y : Int32) : (x = y) = (x.toInt = y.toInt) := propext Int32.toInt_inj.symm
theorem tp_ti {n : Nat} (h : n < 2147483648) : (nI n).toInt = (n : Int) := nI_toInt h
theorem tp_bm {x : Int} (h1 : -2147483648 ≤ x) (h2 : x < 2147483648) : x.bmod (2 ^ 32) = x := by
  rw [Int.bmod_def]
  split <;> omega
theorem tp_tsub {x y : Int32} (h1 : -2147483648 ≤ x.toInt - y.toInt) (h2 : x.toInt - y.toInt < 2147483648) : (x - y).toInt = x.toInt - y.toInt := by
  rw [Int32.toInt_sub]; exact tp_bm h1 h2
theorem tp_tadd {x y : Int32} (h1 : -2147483648 ≤ x.toInt + y.toInt) (h2 : x.toInt + y.toInt < 2147483648) : (x + y).toInt = x.toInt + y.toInt := by
  rw [Int32.toInt_add]; exact tp_bm h1 h2
theorem tp_tneg {x : Int32} (h1 : -2147483648 < x.toInt) : (-x).toInt = -x.toInt := by
  have h2 := x.toInt_lt
  rw [Int32.toInt_neg]; exact tp_bm (by omega) (by omega)
theorem tp_m1n {n : Nat} (h : n < 2147483648) : (nI n = -1) = False := by
  rw [tp_eqi, tp_ti h, tp_m1i]
  exact eq_false (by omega)
theorem tp_n1m {n : Nat} (h : n < 2147483648) : (-1 = nI n) = False := by
  exact eq_false (fun e => (tp_m1n h).mp e.symm)
/-! ### how a function is followed -/
def tp_T {α : Type} (o : Option α) (Q : α → Prop) : Prop := ∃ v, o = some v ∧ Q v
section TPT
variable {α β γ : Type} {Q : α → Prop}
theorem tp_ret {v : α} (h : Q v) : tp_T (some v) Q := ⟨v, rfl, h⟩
theorem tp_let {v : β} {f : β → Option α} (h : ∀ x, x = v → tp_T (f x) Q) : tp_T (tl_let v f) Q := h v rfl
theorem tp_letv {v : β} {f : β → Option α} (h : tp_T (f v) Q) : tp_T (tl_let v f) Q := h
theorem tp_g {c : Prop} [Decidable c] {x : Option α} (hc : c) (h : tp_T x Q) : tp_T (tl_g c x) Q := by rw [tl_gs hc]; exact h
theorem tp_b {o : Option β} {f : β → Option α} {P : β → Prop} (h1 : tp_T o P) (h2 : ∀ v, P v → tp_T (f v) Q) : tp_T (tl_b o f) Q := by
  obtain ⟨v, e, hv⟩ := h1
  rw [tl_bs e]; exact h2 v hv
theorem tp_b2 {o : Option (β × γ)} {f : β → γ → Option α} {P : β × γ → Prop} (h1 : tp_T o P) (h2 : ∀ x v, P (x, v) → tp_T (f x v) Q) : tp_T (tl_b2 o f) Q := by
  obtain ⟨⟨x, v⟩, e, hv⟩ := h1
  rw [tl_b2s e]; exact h2 x v hv
theorem tp_be {o : Option β} {f : β → Option α} {v : β} (e : o = some v) (h2 : tp_T (f v) Q) : tp_T (tl_b o f) Q := by rw [tl_bs e]; exact h2
theorem tp_b2e {o : Option (β × γ)} {f : β → γ → Option α} {x : β} {v : γ} (e : o = some (x, v)) (h2 : tp_T (f x v) Q) : tp_T (tl_b2 o f) Q := by rw [tl_b2s e]; exact h2
theorem tp_if {c : Prop} [Decidable c] {x y : Option α} (h1 : c → tp_T x Q) (h2 : ¬ c → tp_T y Q) : tp_T (if c then x else y) Q := by
  split
  · exact h1 ‹_›
  · exact h2 ‹_›
theorem tp_ifp {c : Prop} [Decidable c] {x y : Option α} (hc : c) (h : tp_T x Q) : tp_T (if c then x else y) Q := by rw [if_pos hc]; exact h
theorem tp_ifn {c : Prop} [Decidable c] {x y : Option α} (hc : ¬ c) (h : tp_T y Q) : tp_T (if c then x else y) Q := by rw [if_neg hc]; exact h
theorem tp_mono {o : Option α} {P : α → Prop} (h : tp_T o P) (hq : ∀ v, P v → Q v) : tp_T o Q := by
  obtain ⟨v, e, hv⟩ := h
  exact ⟨v, e, hq v hv⟩
end TPT
/-- a guard on a place -/
theorem tp_ix {n N : Nat} (h : n < N) (hn : n < 2147483648) : ¬ (nI n < 0 ∨ N ≤ (nI n).toNatClampNeg) := by
  rw [tp_neg hn, tp_cn hn, false_or]; omega
/-! ### what a place of a row may hold -/
def tp_N (h : Nat) (x : Int32) : Prop := ∃ n, n ≤ h ∧ x = nI n
def tp_M (h : Nat) (x : Int32) : Prop := x = -1 ∨ tp_N h x
def tp_kd (i : Nat) : Nat × Nat :=
  if i < 18 then (if i = 0 then (1, 3) else if i = 1 then (1, 6) else if i = 2 then (1, 8) else if i = 4 then (1, 9999) else if i = 8 then (1, 6) else if i = 11 then (1, 2) else if i = 12 then (1, 59) else if i = 13 then (2, 7) else if i = 14 then (1, 99) else if i = 15 then (1, 1) else if i = 16 then (1, 12) else if i = 17 then (1, 1) else (0, 0))
  else if i < 24 then (if i % 2 = 0 then (1, 60) else (0, 0))
  else if i < 48 then (if i % 4 = 0 then (1, 2) else (0, 0))
  else if i < 80 then (if i % 4 = 0 then (1, 9) else if i % 4 = 1 then (1, 99) else if i % 4 = 2 then (2, 2) else (2, 59))
  else if i < 104 then (if i % 4 = 0 then (1, 1) else if i % 4 = 1 then (1, 7) else if i % 4 = 2 then (1, 99) else (2, 59))
  else (1, 0)
def tp_in (i : Nat) (x : Int32) : Prop := ((tp_kd i).1 = 1 → tp_N (tp_kd i).2 x) ∧ ((tp_kd i).1 = 2 → tp_M (tp_kd i).2 x)
theorem tp_in1 {i h : Nat} {x : Int32} (e : tp_kd i = (1, h)) : tp_in i x ↔ tp_N h x := by
  unfold tp_in
  rw [e]
  exact ⟨fun q => q.1 rfl, fun q => ⟨fun _ => q, fun w => (by cases w)⟩⟩
theorem tp_in2 {i h : Nat} {x : Int32} (e : tp_kd i = (2, h)) : tp_in i x ↔ tp_M h x := by
  unfold tp_in
  rw [e]
  exact ⟨fun q => q.2 rfl, fun q => ⟨fun w => (by cases w), fun _ => q⟩⟩
theorem tp_in0 {i : Nat} {x : Int32} (e : (tp_kd i).1 = 0) : tp_in i x := by
  unfold tp_in
  rw [e]
  exact ⟨fun w => (by cases w), fun w => (by cases w)⟩
theorem tp_N_of {h n : Nat} {x : Int32} (e : x = nI n) (hn : n ≤ h) : tp_N h x := ⟨n, hn, e⟩
theorem tp_N_cl {h : Nat} {x : Int32} (q : tp_N h x) (hh : h < 2147483648) : x = nI x.toNatClampNeg ∧ x.toNatClampNeg ≤ h := by
  obtain ⟨n, h1, h2⟩ := q
  subst h2
  rw [tp_cn (by omega)]
  exact ⟨rfl, h1⟩
theorem tp_xx {x : Int32} {b : Nat} (h : x = nI x.toNatClampNeg ∧ x.toNatClampNeg ≤ b) : ∃ n, n ≤ b ∧ x = nI n ∧ x.toNatClampNeg = n := ⟨_, h.2, h.1, rfl⟩
def tp_rng (r : tp_R) : Prop := ∀ i, tp_in i (r i)
theorem tp_rng_up {r : tp_R} {i : Nat} {x : Int32} (h : tp_rng r) (hx : tp_in i x) : tp_rng (tp_up r i x) := by
  intro j
  unfold tp_up
  split
  · subst_vars; exact hx
  · exact h j
