/-! Rows for the walks that a program prints: functions that say what a method's bytes compute, and the steps by which a walk follows them. -/
theorem tl_Tcl {z a K o K1 : Nat} (h : ∀ i, i < 1118 → tl_kinds[i]? = some K → tl_kinds[i + o]? = some K1) (hT : tl_T z a = some K) : tl_T z (a + o) = some K1 := by
  have hle := tl_T_le hT
  unfold tl_T at hT ⊢
  rw [if_pos hle] at hT
  rw [if_pos (by omega), show a + o - z = a - z + o by omega]
  have hlt : a - z < tl_kinds.length := (List.getElem?_eq_some_iff.mp hT).1
  exact h _ (by rw [show tl_kinds.length = 1118 by decide +kernel] at hlt; exact hlt) hT
def tl_chk (K K1 N : Nat) (f : Nat → Nat) : List Nat → Bool
  | [] => true
  | x :: t => (x != K || (List.range N).all (fun j => (x :: t)[f j]? == some K1)) && tl_chk K K1 N f t
theorem tl_chk_i {K K1 N : Nat} {f : Nat → Nat} : ∀ {l : List Nat}, tl_chk K K1 N f l = true → ∀ i, l[i]? = some K → ∀ j, j < N → l[i + f j]? = some K1
  | [], _, i, h, _, _ => by simp at h
  | x :: t, hc, i, h, j, hj => by
    simp only [tl_chk, Bool.and_eq_true, Bool.or_eq_true, bne_iff_ne, List.all_eq_true, List.mem_range, beq_iff_eq] at hc
    match i, h with
    | 0, h =>
      have e : x = K := by simpa using h
      rcases hc.1 with q | q
      · exact absurd e q
      · rw [Nat.zero_add]; exact q j hj
    | i + 1, h =>
      have h2 : t[i]? = some K := by simpa using h
      rw [show i + 1 + f j = (i + f j) + 1 by omega, List.getElem?_cons_succ]
      exact tl_chk_i hc.2 i h2 j hj
theorem tl_TclJ {z a K K1 N : Nat} (f : Nat → Nat) (h : ∀ i, i < 1118 → tl_kinds[i]? = some K → ∀ j, j < N → tl_kinds[i + f j]? = some K1) {j : Nat} (hT : tl_T z a = some K) (hj : j < N) : tl_T z (a + f j) = some K1 :=
  tl_Tcl (fun i hi hk => h i hi hk j hj) hT
theorem tt_9_0 {z a : Nat} (h : tl_T z a = some 9) : tl_T z (a + 1) = some 6 := tl_Tcl (fun i _ hi => tl_chk_i (N := 1) (f := fun _ => 1) (by decide +kernel : tl_chk 9 6 1 (fun _ => 1) tl_kinds = true) i hi 0 (by decide)) h
theorem tt_9_1 {z a : Nat} (h : tl_T z a = some 9) : tl_T z (a + 3) = some 0 := tl_Tcl (fun i _ hi => tl_chk_i (N := 1) (f := fun _ => 3) (by decide +kernel : tl_chk 9 0 1 (fun _ => 3) tl_kinds = true) i hi 0 (by decide)) h
theorem tt_9_2 {z a : Nat} (h : tl_T z a = some 9) : tl_T z (a + 4) = some 5 := tl_Tcl (fun i _ hi => tl_chk_i (N := 1) (f := fun _ => 4) (by decide +kernel : tl_chk 9 5 1 (fun _ => 4) tl_kinds = true) i hi 0 (by decide)) h
theorem tt_9_3 {z a : Nat} (h : tl_T z a = some 9) : tl_T z (a + 33) = some 5 := tl_Tcl (fun i _ hi => tl_chk_i (N := 1) (f := fun _ => 33) (by decide +kernel : tl_chk 9 5 1 (fun _ => 33) tl_kinds = true) i hi 0 (by decide)) h
theorem tt_9_4 {z a : Nat} (h : tl_T z a = some 9) : tl_T z (a + 62) = some 5 := tl_Tcl (fun i _ hi => tl_chk_i (N := 1) (f := fun _ => 62) (by decide +kernel : tl_chk 9 5 1 (fun _ => 62) tl_kinds = true) i hi 0 (by decide)) h
theorem tt_9_5 {z a : Nat} (h : tl_T z a = some 9) : tl_T z (a + 91) = some 2 := tl_Tcl (fun i _ hi => tl_chk_i (N := 1) (f := fun _ => 91) (by decide +kernel : tl_chk 9 2 1 (fun _ => 91) tl_kinds = true) i hi 0 (by decide)) h
theorem tt_9_6 {z a : Nat} (h : tl_T z a = some 9) : tl_T z (a + 499) = some 23 := tl_Tcl (fun i _ hi => tl_chk_i (N := 1) (f := fun _ => 499) (by decide +kernel : tl_chk 9 23 1 (fun _ => 499) tl_kinds = true) i hi 0 (by decide)) h
theorem tt_9_7 {z a : Nat} (h : tl_T z a = some 9) : tl_T z (a + 500) = some 16 := tl_Tcl (fun i _ hi => tl_chk_i (N := 1) (f := fun _ => 500) (by decide +kernel : tl_chk 9 16 1 (fun _ => 500) tl_kinds = true) i hi 0 (by decide)) h
theorem tt_6_0 {z a : Nat} (h : tl_T z a = some 6) : tl_T z (a + 1) = some 11 := tl_Tcl (fun i _ hi => tl_chk_i (N := 1) (f := fun _ => 1) (by decide +kernel : tl_chk 6 11 1 (fun _ => 1) tl_kinds = true) i hi 0 (by decide)) h
theorem tt_2_0 {z a : Nat} (h : tl_T z a = some 2) : tl_T z (a + 1) = some 22 := tl_Tcl (fun i _ hi => tl_chk_i (N := 1) (f := fun _ => 1) (by decide +kernel : tl_chk 2 22 1 (fun _ => 1) tl_kinds = true) i hi 0 (by decide)) h
theorem tt_3_0 {z a : Nat} (h : tl_T z a = some 3) : tl_T z (a + 1) = some 21 := tl_Tcl (fun i _ hi => tl_chk_i (N := 1) (f := fun _ => 1) (by decide +kernel : tl_chk 3 21 1 (fun _ => 1) tl_kinds = true) i hi 0 (by decide)) h
theorem tt_5_0 {z a : Nat} (h : tl_T z a = some 5) : tl_T z (a + 1) = some 18 := tl_Tcl (fun i _ hi => tl_chk_i (N := 1) (f := fun _ => 1) (by decide +kernel : tl_chk 5 18 1 (fun _ => 1) tl_kinds = true) i hi 0 (by decide)) h
theorem tt_5_1 {z a : Nat} (h : tl_T z a = some 5) : tl_T z (a + 2) = some 19 := tl_Tcl (fun i _ hi => tl_chk_i (N := 1) (f := fun _ => 2) (by decide +kernel : tl_chk 5 19 1 (fun _ => 2) tl_kinds = true) i hi 0 (by decide)) h
theorem tt_5_2 {z a : Nat} (h : tl_T z a = some 5) : tl_T z (a + 3) = some 20 := tl_Tcl (fun i _ hi => tl_chk_i (N := 1) (f := fun _ => 3) (by decide +kernel : tl_chk 5 20 1 (fun _ => 3) tl_kinds = true) i hi 0 (by decide)) h
theorem tt_5_3 {z a : Nat} (h : tl_T z a = some 5) : tl_T z (a + 4) = some 3 := tl_Tcl (fun i _ hi => tl_chk_i (N := 1) (f := fun _ => 4) (by decide +kernel : tl_chk 5 3 1 (fun _ => 4) tl_kinds = true) i hi 0 (by decide)) h
theorem ta_18 {z a j : Nat} (h : tl_T z a = some 18) (hj : j < 3) : tl_T z (a + (11 + j)) = some 1 := tl_TclJ (fun j => 11 + j) (fun i _ hi j hj => tl_chk_i (by decide +kernel : tl_chk 18 1 3 (fun j => 11 + j) tl_kinds = true) i hi j hj) h hj
theorem ta_19 {z a j : Nat} (h : tl_T z a = some 19) (hj : j < 6) : tl_T z (a + (13 + j)) = some 7 := tl_TclJ (fun j => 13 + j) (fun i _ hi j hj => tl_chk_i (by decide +kernel : tl_chk 19 7 6 (fun j => 13 + j) tl_kinds = true) i hi j hj) h hj
theorem ta_20 {z a j : Nat} (h : tl_T z a = some 20) (hj : j < 8) : tl_T z (a + (18 + j)) = some 4 := tl_TclJ (fun j => 18 + j) (fun i _ hi j hj => tl_chk_i (by decide +kernel : tl_chk 20 4 8 (fun j => 18 + j) tl_kinds = true) i hi j hj) h hj
theorem ta_22 {z a j : Nat} (h : tl_T z a = some 22) (hj : j < 14) : tl_T z (a + (1 + 29 * j)) = some 5 := tl_TclJ (fun j => 1 + 29 * j) (fun i _ hi j hj => tl_chk_i (by decide +kernel : tl_chk 22 5 14 (fun j => 1 + 29 * j) tl_kinds = true) i hi j hj) h hj
theorem ta_23 {z a j : Nat} (h : tl_T z a = some 23) (hj : j < 2) : tl_T z (a + (2 + 29 * j)) = some 5 := tl_TclJ (fun j => 2 + 29 * j) (fun i _ hi j hj => tl_chk_i (by decide +kernel : tl_chk 23 5 2 (fun j => 2 + 29 * j) tl_kinds = true) i hi j hj) h hj
theorem ta_21 {z a j : Nat} (h : tl_T z a = some 21) (hj : j < 6) : tl_T z (a + (1 + j)) = some 8 := tl_TclJ (fun j => 1 + j) (fun i _ hi j hj => tl_chk_i (by decide +kernel : tl_chk 21 8 6 (fun j => 1 + j) tl_kinds = true) i hi j hj) h hj
theorem ta_21b {z a b : Nat} (h : tl_T z a = some 21) (hb : a < b ∧ b < a + 7) : tl_T z b = some 8 := by
  have := ta_21 (j := b - a - 1) h (by omega)
  rwa [show a + (1 + (b - a - 1)) = b by omega] at this
theorem tl_inlt {i : Int32} {N : Nat} (h : vp_in i N) : i.toNatClampNeg < N := Nat.not_le.mp fun q => h (Or.inr q)
def tl_let {α β : Type} (v : α) (f : α → Option β) : Option β := f v
theorem tl_leteq {α β : Type} {v x : α} {f : α → Option β} {r : β} (hx : x = v) (h : tl_let v f = some r) : f x = some r := by subst hx; exact h
def tl_g {β : Type} (c : Prop) [Decidable c] (x : Option β) : Option β := if c then x else none
theorem tl_gi {β : Type} {c : Prop} [Decidable c] {x : Option β} {r : β} (h : tl_g c x = some r) : c ∧ x = some r := by
  unfold tl_g at h
  split at h
  · exact ⟨by assumption, h⟩
  · cases h
def tl_b {α β : Type} (o : Option α) (f : α → Option β) : Option β := match o with
  | some a => f a
  | none => none
theorem tl_bi {α β : Type} {o : Option α} {f : α → Option β} {r : β} (h : tl_b o f = some r) : ∃ a, o = some a ∧ f a = some r := by
  unfold tl_b at h
  split at h
  · exact ⟨_, rfl, h⟩
  · cases h
def tl_b2 {α β γ : Type} (o : Option (α × β)) (f : α → β → Option γ) : Option γ := match o with
  | some (a, b) => f a b
  | none => none
theorem tl_b2i {α β γ : Type} {o : Option (α × β)} {f : α → β → Option γ} {r : γ} (h : tl_b2 o f = some r) : ∃ a b, o = some (a, b) ∧ f a b = some r := by
  unfold tl_b2 at h
  split at h
  · exact ⟨_, _, rfl, h⟩
  · cases h
theorem tl_b2s {α β γ : Type} {o : Option (α × β)} {f : α → β → Option γ} {a : α} {b : β} (h : o = some (a, b)) : tl_b2 o f = f a b := by subst h; rfl
theorem tl_gs {β : Type} {c : Prop} [Decidable c] {x : Option β} (h : c) : tl_g c x = x := if_pos h
theorem tl_bs {α β : Type} {o : Option α} {f : α → Option β} {a : α} (h : o = some a) : tl_b o f = f a := by subst h; rfl
theorem tl_ip {α : Type} {c : Prop} [Decidable c] {x y : Option α} {r : α} (h : (if c then x else y) = some r) (hc : c) : x = some r := by rwa [if_pos hc] at h
theorem tl_in {α : Type} {c : Prop} [Decidable c] {x y : Option α} {r : α} (h : (if c then x else y) = some r) (hc : ¬ c) : y = some r := by rwa [if_neg hc] at h
/-- a place of an array -/
def tl_ix (i : Int32) (N : Nat) : Prop := ¬ (i < 0 ∨ N ≤ i.toNatClampNeg)
def tl_isB (x : Int32) : Prop := x = 0 ∨ x = 1
def tl_isC (x : Int32) : Prop := ¬ (x < 0 ∨ 65535 < x)
theorem tl_nB {x : Int32} (h : tl_isB x) : narrow .boolean (.int x) = .int x ∧ fits .boolean (.int x) = true := by
  rcases h with rfl | rfl <;> exact ⟨rfl, rfl⟩
theorem tl_nC {x : Int32} (h : tl_isC x) : narrow .char (.int x) = .int x := by
  obtain ⟨j, hj, rfl⟩ := nI_of (x := x) (fun q => h (Or.inl q))
  have h3 : ¬ nI 65535 < nI j := fun q => h (Or.inr q)
  have h4 : j ≤ 65535 := Nat.not_lt.mp (fun q => h3 ((nI_ltI (by omega) hj).mpr q))
  exact (pk_charN (by omega)).1
/-- more rounds than any loop here can make -/
def tl_F : Nat := 2000
section TLD
variable {E : tl_E} {M N : tl_M} {X : State → Array Value → Code → Prop} {Z : List Frame → Array Value → State → State → Prop} {k n pc a : Nat} {u : tl_S} {ls : List (Option Value)} {st : List Value}
theorem tl_geti {K f i : Nat} {C : String} {T : u_T} {NN : Nat} {ty : Nat → FieldType} (ck : tl_ck K C T NN ty) (hd : decode M.2.1 pc = .ok (.getfield i, 3)) (hw : Cond.fieldLink M.1.cls i (T f).1 (T f).2.1 (T f).2.2.1 ∈ tl_GW) (hf : f < NN) (ho : tl_off K f = none) (hT : tl_T E.2.1 a = some K)
    (kk : tl_R E M X Z k n (tl_HB E u) (pc + 3) ls (.int (u.1 a f) :: st)) : tl_R E M X Z k n (tl_HB E u) pc ls (.ref a :: st) :=
  tl_getf ck hd hw hf hT (by unfold tl_fv; rw [ho]) kk
theorem tl_getr {K f i o : Nat} {C : String} {T : u_T} {NN : Nat} {ty : Nat → FieldType} (ck : tl_ck K C T NN ty) (hd : decode M.2.1 pc = .ok (.getfield i, 3)) (hw : Cond.fieldLink M.1.cls i (T f).1 (T f).2.1 (T f).2.2.1 ∈ tl_GW) (hf : f < NN) (ho : tl_off K f = some o) (hT : tl_T E.2.1 a = some K)
    (kk : tl_R E M X Z k n (tl_HB E u) (pc + 3) ls (.ref (a + o) :: st)) : tl_R E M X Z k n (tl_HB E u) pc ls (.ref a :: st) :=
  tl_getf ck hd hw hf hT (by unfold tl_fv; rw [ho]) kk
theorem tl_puti {K f i : Nat} {C : String} {T : u_T} {NN : Nat} {ty : Nat → FieldType} {x : Int32} (ck : tl_ck K C T NN ty) (hd : decode M.2.1 pc = .ok (.putfield i, 3)) (hw : Cond.fieldLink M.1.cls i (T f).1 (T f).2.1 (T f).2.2.1 ∈ tl_GW) (hf : f < NN) (hfin : (T f).2.2.2 = false) (ho : tl_off K f = none) (hty : ty f = .int) (hT : tl_T E.2.1 a = some K)
    (kk : ∀ v, v = (tl_u u.1 a f x, u.2) → tl_R E M X Z k n (tl_HB E v) (pc + 3) ls st) : tl_R E M X Z k n (tl_HB E u) pc ls (.int x :: .ref a :: st) :=
  tl_put ck hd hw hf hfin ho (by rw [hty]; rfl) (by rw [hty]; rfl) hT (kk _ rfl)
theorem tl_putz {K f i : Nat} {C : String} {T : u_T} {NN : Nat} {ty : Nat → FieldType} {x : Int32} (ck : tl_ck K C T NN ty) (hd : decode M.2.1 pc = .ok (.putfield i, 3)) (hw : Cond.fieldLink M.1.cls i (T f).1 (T f).2.1 (T f).2.2.1 ∈ tl_GW) (hf : f < NN) (hfin : (T f).2.2.2 = false) (ho : tl_off K f = none) (hty : ty f = .boolean) (hx : tl_isB x) (hT : tl_T E.2.1 a = some K)
    (kk : ∀ v, v = (tl_u u.1 a f x, u.2) → tl_R E M X Z k n (tl_HB E v) (pc + 3) ls st) : tl_R E M X Z k n (tl_HB E u) pc ls (.int x :: .ref a :: st) :=
  tl_put ck hd hw hf hfin ho (by rw [hty]; exact (tl_nB hx).1) (by rw [hty]; exact (tl_nB hx).2) hT (kk _ rfl)
theorem tl_castK {i x : Int32} (hd : decode M.2.1 pc = .ok (.castore, 1)) (hT : tl_T E.2.1 a = some 11) (j : Nat) (hin : vp_in i 120) (hj : i.toNatClampNeg = j) (hx : tl_isC x)
    (kk : ∀ v, v = (tl_u u.1 a j x, u.2) → tl_R E M X Z k n (tl_HB E v) (pc + 1) ls st) : tl_R E M X Z k n (tl_HB E u) pc ls (.int x :: .int i :: .ref a :: st) :=
  tl_cast (fun _ _ => rfl) hd hT hin hj (tl_nC hx) (kk _ rfl)
theorem tl_zastK {i x : Int32} (hd : decode M.2.1 pc = .ok (.bastore, 1)) (hT : tl_T E.2.1 a = some 16) (j : Nat) (hin : vp_in i 2) (hj : i.toNatClampNeg = j) (hx : tl_isB x)
    (kk : ∀ v, v = (tl_u u.1 a j x, u.2) → tl_R E M X Z k n (tl_HB E v) (pc + 1) ls st) : tl_R E M X Z k n (tl_HB E u) pc ls (.int x :: .int i :: .ref a :: st) :=
  tl_zast (fun _ _ => rfl) hd hT hin hj (tl_nB hx).1 (kk _ rfl)
theorem tl_aastK {i : Int32} {b : Nat} (hd : decode M.2.1 pc = .ok (.aastore, 1)) (hT : tl_T E.2.1 a = some 21) (j : Nat) (hTb : tl_T E.2.1 b = some 8) (hin : vp_in i 6) (hj : i.toNatClampNeg = j)
    (kk : ∀ v, v = (u.1, tl_uO u.2.1 a j b, u.2.2) → tl_R E M X Z k n (tl_HB E v) (pc + 1) ls st) : tl_R E M X Z k n (tl_HB E u) pc ls (.ref b :: .int i :: .ref a :: st) :=
  tl_aast hd hT hTb hin hj (kk _ rfl)
theorem tl_ald18 {i : Int32} (hd : decode M.2.1 pc = .ok (.aaload, 1)) (hT : tl_T E.2.1 a = some 18) (j : Nat) (hin : vp_in i 3) (hj : i.toNatClampNeg = j)
    (kk : tl_R E M X Z k n (tl_HB E u) (pc + 1) ls (.ref (a + (11 + j)) :: st)) : tl_R E M X Z k n (tl_HB E u) pc ls (.int i :: .ref a :: st) :=
  tl_aald (t := 4) (C := RX1) (f := fun _ j => some (a + 11 + j)) (fun _ _ => rfl) (fun _ => rfl) hd hT hin hj (by rw [Nat.add_assoc]) kk
theorem tl_ald19 {i : Int32} (hd : decode M.2.1 pc = .ok (.aaload, 1)) (hT : tl_T E.2.1 a = some 19) (j : Nat) (hin : vp_in i 6) (hj : i.toNatClampNeg = j)
    (kk : tl_R E M X Z k n (tl_HB E u) (pc + 1) ls (.ref (a + (13 + j)) :: st)) : tl_R E M X Z k n (tl_HB E u) pc ls (.int i :: .ref a :: st) :=
  tl_aald (t := 5) (C := RX7) (f := fun _ j => some (a + 13 + j)) (fun _ _ => rfl) (fun _ => rfl) hd hT hin hj (by rw [Nat.add_assoc]) kk
theorem tl_ald20 {i : Int32} (hd : decode M.2.1 pc = .ok (.aaload, 1)) (hT : tl_T E.2.1 a = some 20) (j : Nat) (hin : vp_in i 8) (hj : i.toNatClampNeg = j)
    (kk : tl_R E M X Z k n (tl_HB E u) (pc + 1) ls (.ref (a + (18 + j)) :: st)) : tl_R E M X Z k n (tl_HB E u) pc ls (.int i :: .ref a :: st) :=
  tl_aald (t := 6) (C := RX4) (f := fun _ j => some (a + 18 + j)) (fun _ _ => rfl) (fun _ => rfl) hd hT hin hj (by rw [Nat.add_assoc]) kk
theorem tl_ald22 {i : Int32} (hd : decode M.2.1 pc = .ok (.aaload, 1)) (hT : tl_T E.2.1 a = some 22) (j : Nat) (hin : vp_in i 14) (hj : i.toNatClampNeg = j)
    (kk : tl_R E M X Z k n (tl_HB E u) (pc + 1) ls (.ref (a + (1 + 29 * j)) :: st)) : tl_R E M X Z k n (tl_HB E u) pc ls (.int i :: .ref a :: st) :=
  tl_aald (t := 8) (C := RX5) (f := fun _ j => some (a + 1 + 29 * j)) (fun _ _ => rfl) (fun _ => rfl) hd hT hin hj (by rw [Nat.add_assoc]) kk
theorem tl_ald23 {i : Int32} (hd : decode M.2.1 pc = .ok (.aaload, 1)) (hT : tl_T E.2.1 a = some 23) (j : Nat) (hin : vp_in i 2) (hj : i.toNatClampNeg = j)
    (kk : tl_R E M X Z k n (tl_HB E u) (pc + 1) ls (.ref (a + (2 + 29 * j)) :: st)) : tl_R E M X Z k n (tl_HB E u) pc ls (.int i :: .ref a :: st) :=
  tl_aald (t := 8) (C := RX5) (f := fun _ j => some (a + 2 + 29 * j)) (fun _ _ => rfl) (fun _ => rfl) hd hT hin hj (by rw [Nat.add_assoc]) kk
theorem tl_ald21 {i : Int32} (hd : decode M.2.1 pc = .ok (.aaload, 1)) (hT : tl_T E.2.1 a = some 21) (j : Nat) (hin : vp_in i 6) (hj : i.toNatClampNeg = j)
    (kk : tl_R E M X Z k n (tl_HB E u) (pc + 1) ls (.ref (u.2.1 a j) :: st)) : tl_R E M X Z k n (tl_HB E u) pc ls (.int i :: .ref a :: st) :=
  tl_aald (t := 7) (C := RX8) (f := fun u j => some (u.2.1 a j)) (fun _ _ => rfl) (fun _ => rfl) hd hT hin hj rfl kk
theorem tl_isto_n {q : Fin 4} {x : Int32} (hd : decode M.2.1 pc = .ok (.istore_n q, 1)) (hi : (q : Nat) < M.2.2.1) (kk : ∀ y, y = x → tl_R E M X Z k n (tl_HB E u) (pc + 1) (tl_st ls (q : Nat) (.int y)) st) : tl_R E M X Z k n (tl_HB E u) pc ls (.int x :: st) := tl_istore_n hd hi (kk _ rfl)
theorem tl_isto {i : Nat} {x : Int32} (hd : decode M.2.1 pc = .ok (.istore i, 2)) (hi : i < M.2.2.1) (kk : ∀ y, y = x → tl_R E M X Z k n (tl_HB E u) (pc + 2) (tl_st ls i (.int y)) st) : tl_R E M X Z k n (tl_HB E u) pc ls (.int x :: st) := tl_istore hd hi (kk _ rfl)
theorem tl_lsto_n {q : Fin 4} {x : Int64} (hd : decode M.2.1 pc = .ok (.lstore_n q, 1)) (hi : (q : Nat) + 1 < M.2.2.1) (kk : ∀ y, y = x → tl_R E M X Z k n (tl_HB E u) (pc + 1) (tl_st (tl_cl ls ((q : Nat) + 1)) (q : Nat) (.long y)) st) : tl_R E M X Z k n (tl_HB E u) pc ls (.long x :: st) := tl_lstore_n hd hi (kk _ rfl)
theorem tl_lsto {i : Nat} {x : Int64} (hd : decode M.2.1 pc = .ok (.lstore i, 2)) (hi : i + 1 < M.2.2.1) (kk : ∀ y, y = x → tl_R E M X Z k n (tl_HB E u) (pc + 2) (tl_st (tl_cl ls (i + 1)) i (.long y)) st) : tl_R E M X Z k n (tl_HB E u) pc ls (.long x :: st) := tl_lstore hd hi (kk _ rfl)
theorem tl_iincK {i : Nat} {q : Int} {x v : Int32} (hd : decode M.2.1 pc = .ok (.iinc i q, 3)) (hl : tl_ld ls i = some (.int x)) (hv : x + Int32.ofInt q = v) (hi : i < M.2.2.1) (kk : ∀ y, y = v → tl_R E M X Z k n (tl_HB E u) (pc + 3) (tl_st ls i (.int y)) st) : tl_R E M X Z k n (tl_HB E u) pc ls st := tl_iinc hd hl hv hi (kk _ rfl)
theorem tl_iretE {x r : Int32} {v : tl_S} {ty : FieldType} (hd : decode M.2.1 pc = .ok (.ireturn, 1)) (hr : M.2.2.2.1 = some ty) (hn : narrow ty (.int x) = .int x) (h : (some (x, u) : Option (Int32 × tl_S)) = some (r, v)) : tl_R E M X (tl_ZB E M (fun q w => q = some (.int r) ∧ w = v)) 0 0 (tl_HB E u) pc ls [.int x] := by
  cases h
  exact tl_iretB hd hr hn (Nat.zero_le _) (Nat.zero_le _) ⟨rfl, rfl⟩
theorem tl_lretE {x r : Int64} {v : tl_S} (hd : decode M.2.1 pc = .ok (.lreturn, 1)) (hr : M.2.2.2.1 = some .long) (h : (some (x, u) : Option (Int64 × tl_S)) = some (r, v)) : tl_R E M X (tl_ZB E M (fun q w => q = some (.long r) ∧ w = v)) 0 0 (tl_HB E u) pc ls [.long x] := by
  cases h
  exact tl_lretB hd hr (Nat.zero_le _) (Nat.zero_le _) ⟨rfl, rfl⟩
theorem tl_vretE {v : tl_S} (hd : decode M.2.1 pc = .ok (.return_, 1)) (hr : M.2.2.2.1 = none) (h : (some u : Option tl_S) = some v) : tl_R E M X (tl_ZB E M (fun q w => q = none ∧ w = v)) 0 0 (tl_HB E u) pc ls [] := by
  cases h
  exact tl_vretB hd hr (Nat.zero_le _) (Nat.zero_le _) ⟨rfl, rfl⟩
theorem tl_iS0 {i : Nat} {x : Int32} {v : tl_S} (hN : tl_MB E N [] u (fun r w => r = some (.int x) ∧ w = v)) (hd : decode M.2.1 pc = .ok (.invokestatic i, 3)) (hc : tl_cS M N i 0) (h0 : N.2.2.2.2.cells = 0 ∧ N.2.2.2.2.slots = 0) (hk : k ≤ M.2.2.2.2.cells ∧ n ≤ M.2.2.2.2.slots) (hr : (st.map fun v => v.category).sum ≤ 8)
    (kk : tl_R E M X Z k n (tl_HB E v) (pc + 3) ls (.int x :: st)) : tl_R E M X Z k n (tl_HB E u) pc ls (st) :=
  tl_callS0 hN hd hc (by rw [h0.1, h0.2]; exact hk) hr (fun r w q => by obtain ⟨e1, e2⟩ := q; subst e1; subst e2; rw [h0.1, h0.2]; exact kk)
theorem tl_iN0 {i : Nat} {x : Int32} {v : tl_S} (hN : tl_MB E N [] u (fun r w => r = some (.int x) ∧ w = v)) (hd : decode M.2.1 pc = .ok (.invokestatic i, 3)) (hc : tl_cN M N i 0) (h0 : N.2.2.2.2.cells = 0 ∧ N.2.2.2.2.slots = 0) (hk : k ≤ M.2.2.2.2.cells ∧ n ≤ M.2.2.2.2.slots) (hr : (st.map fun v => v.category).sum ≤ 8)
    (kk : tl_R E M X Z k n (tl_HB E v) (pc + 3) ls (.int x :: st)) : tl_R E M X Z k n (tl_HB E u) pc ls (st) :=
  tl_callN0 hN hd hc (by rw [h0.1, h0.2]; exact hk) hr (fun r w q => by obtain ⟨e1, e2⟩ := q; subst e1; subst e2; rw [h0.1, h0.2]; exact kk)
theorem tl_iV0 {i o K : Nat} {x : Int32} {v : tl_S} {C : String} {T : u_T} {NN : Nat} {ty : Nat → FieldType} (ck : tl_ck K C T NN ty) (hC : N.1.cls = C) (hT : tl_T E.2.1 o = some K) (hN : tl_MB E N (.ref o :: []) u (fun r w => r = some (.int x) ∧ w = v)) (hd : decode M.2.1 pc = .ok (.invokevirtual i, 3)) (hc : tl_cV M N i 0) (h0 : N.2.2.2.2.cells = 0 ∧ N.2.2.2.2.slots = 0) (hk : k ≤ M.2.2.2.2.cells ∧ n ≤ M.2.2.2.2.slots) (hr : (st.map fun v => v.category).sum ≤ 8)
    (kk : tl_R E M X Z k n (tl_HB E v) (pc + 3) ls (.int x :: st)) : tl_R E M X Z k n (tl_HB E u) pc ls (.ref o :: st) :=
  tl_callV0 ck hC hT hN hd hc (by rw [h0.1, h0.2]; exact hk) hr (fun r w q => by obtain ⟨e1, e2⟩ := q; subst e1; subst e2; rw [h0.1, h0.2]; exact kk)
theorem tl_lS0 {i : Nat} {x : Int64} {v : tl_S} (hN : tl_MB E N [] u (fun r w => r = some (.long x) ∧ w = v)) (hd : decode M.2.1 pc = .ok (.invokestatic i, 3)) (hc : tl_cS M N i 0) (h0 : N.2.2.2.2.cells = 0 ∧ N.2.2.2.2.slots = 0) (hk : k ≤ M.2.2.2.2.cells ∧ n ≤ M.2.2.2.2.slots) (hr : (st.map fun v => v.category).sum ≤ 8)
    (kk : tl_R E M X Z k n (tl_HB E v) (pc + 3) ls (.long x :: st)) : tl_R E M X Z k n (tl_HB E u) pc ls (st) :=
  tl_callS0 hN hd hc (by rw [h0.1, h0.2]; exact hk) hr (fun r w q => by obtain ⟨e1, e2⟩ := q; subst e1; subst e2; rw [h0.1, h0.2]; exact kk)
theorem tl_lN0 {i : Nat} {x : Int64} {v : tl_S} (hN : tl_MB E N [] u (fun r w => r = some (.long x) ∧ w = v)) (hd : decode M.2.1 pc = .ok (.invokestatic i, 3)) (hc : tl_cN M N i 0) (h0 : N.2.2.2.2.cells = 0 ∧ N.2.2.2.2.slots = 0) (hk : k ≤ M.2.2.2.2.cells ∧ n ≤ M.2.2.2.2.slots) (hr : (st.map fun v => v.category).sum ≤ 8)
    (kk : tl_R E M X Z k n (tl_HB E v) (pc + 3) ls (.long x :: st)) : tl_R E M X Z k n (tl_HB E u) pc ls (st) :=
  tl_callN0 hN hd hc (by rw [h0.1, h0.2]; exact hk) hr (fun r w q => by obtain ⟨e1, e2⟩ := q; subst e1; subst e2; rw [h0.1, h0.2]; exact kk)
theorem tl_lV0 {i o K : Nat} {x : Int64} {v : tl_S} {C : String} {T : u_T} {NN : Nat} {ty : Nat → FieldType} (ck : tl_ck K C T NN ty) (hC : N.1.cls = C) (hT : tl_T E.2.1 o = some K) (hN : tl_MB E N (.ref o :: []) u (fun r w => r = some (.long x) ∧ w = v)) (hd : decode M.2.1 pc = .ok (.invokevirtual i, 3)) (hc : tl_cV M N i 0) (h0 : N.2.2.2.2.cells = 0 ∧ N.2.2.2.2.slots = 0) (hk : k ≤ M.2.2.2.2.cells ∧ n ≤ M.2.2.2.2.slots) (hr : (st.map fun v => v.category).sum ≤ 8)
    (kk : tl_R E M X Z k n (tl_HB E v) (pc + 3) ls (.long x :: st)) : tl_R E M X Z k n (tl_HB E u) pc ls (.ref o :: st) :=
  tl_callV0 ck hC hT hN hd hc (by rw [h0.1, h0.2]; exact hk) hr (fun r w q => by obtain ⟨e1, e2⟩ := q; subst e1; subst e2; rw [h0.1, h0.2]; exact kk)
theorem tl_vS0 {i : Nat} {v : tl_S} (hN : tl_MB E N [] u (fun r w => r = none ∧ w = v)) (hd : decode M.2.1 pc = .ok (.invokestatic i, 3)) (hc : tl_cS M N i 0) (h0 : N.2.2.2.2.cells = 0 ∧ N.2.2.2.2.slots = 0) (hk : k ≤ M.2.2.2.2.cells ∧ n ≤ M.2.2.2.2.slots) (hr : (st.map fun v => v.category).sum ≤ 8)
    (kk : tl_R E M X Z k n (tl_HB E v) (pc + 3) ls (st)) : tl_R E M X Z k n (tl_HB E u) pc ls (st) :=
  tl_callS0 hN hd hc (by rw [h0.1, h0.2]; exact hk) hr (fun r w q => by obtain ⟨e1, e2⟩ := q; subst e1; subst e2; rw [h0.1, h0.2]; exact kk)
theorem tl_vN0 {i : Nat} {v : tl_S} (hN : tl_MB E N [] u (fun r w => r = none ∧ w = v)) (hd : decode M.2.1 pc = .ok (.invokestatic i, 3)) (hc : tl_cN M N i 0) (h0 : N.2.2.2.2.cells = 0 ∧ N.2.2.2.2.slots = 0) (hk : k ≤ M.2.2.2.2.cells ∧ n ≤ M.2.2.2.2.slots) (hr : (st.map fun v => v.category).sum ≤ 8)
    (kk : tl_R E M X Z k n (tl_HB E v) (pc + 3) ls (st)) : tl_R E M X Z k n (tl_HB E u) pc ls (st) :=
  tl_callN0 hN hd hc (by rw [h0.1, h0.2]; exact hk) hr (fun r w q => by obtain ⟨e1, e2⟩ := q; subst e1; subst e2; rw [h0.1, h0.2]; exact kk)
theorem tl_vV0 {i o K : Nat} {v : tl_S} {C : String} {T : u_T} {NN : Nat} {ty : Nat → FieldType} (ck : tl_ck K C T NN ty) (hC : N.1.cls = C) (hT : tl_T E.2.1 o = some K) (hN : tl_MB E N (.ref o :: []) u (fun r w => r = none ∧ w = v)) (hd : decode M.2.1 pc = .ok (.invokevirtual i, 3)) (hc : tl_cV M N i 0) (h0 : N.2.2.2.2.cells = 0 ∧ N.2.2.2.2.slots = 0) (hk : k ≤ M.2.2.2.2.cells ∧ n ≤ M.2.2.2.2.slots) (hr : (st.map fun v => v.category).sum ≤ 8)
    (kk : tl_R E M X Z k n (tl_HB E v) (pc + 3) ls (st)) : tl_R E M X Z k n (tl_HB E u) pc ls (.ref o :: st) :=
  tl_callV0 ck hC hT hN hd hc (by rw [h0.1, h0.2]; exact hk) hr (fun r w q => by obtain ⟨e1, e2⟩ := q; subst e1; subst e2; rw [h0.1, h0.2]; exact kk)
theorem tl_iS1 {a0 : Value} {i : Nat} {x : Int32} {v : tl_S} (hN : tl_MB E N [a0] u (fun r w => r = some (.int x) ∧ w = v)) (hd : decode M.2.1 pc = .ok (.invokestatic i, 3)) (hc : tl_cS M N i 1) (h0 : N.2.2.2.2.cells = 0 ∧ N.2.2.2.2.slots = 0) (hk : k ≤ M.2.2.2.2.cells ∧ n ≤ M.2.2.2.2.slots) (hr : (st.map fun v => v.category).sum ≤ 8)
    (kk : tl_R E M X Z k n (tl_HB E v) (pc + 3) ls (.int x :: st)) : tl_R E M X Z k n (tl_HB E u) pc ls (a0 :: st) :=
  tl_callS1 hN hd hc (by rw [h0.1, h0.2]; exact hk) hr (fun r w q => by obtain ⟨e1, e2⟩ := q; subst e1; subst e2; rw [h0.1, h0.2]; exact kk)
theorem tl_iN1 {a0 : Value} {i : Nat} {x : Int32} {v : tl_S} (hN : tl_MB E N [a0] u (fun r w => r = some (.int x) ∧ w = v)) (hd : decode M.2.1 pc = .ok (.invokestatic i, 3)) (hc : tl_cN M N i 1) (h0 : N.2.2.2.2.cells = 0 ∧ N.2.2.2.2.slots = 0) (hk : k ≤ M.2.2.2.2.cells ∧ n ≤ M.2.2.2.2.slots) (hr : (st.map fun v => v.category).sum ≤ 8)
    (kk : tl_R E M X Z k n (tl_HB E v) (pc + 3) ls (.int x :: st)) : tl_R E M X Z k n (tl_HB E u) pc ls (a0 :: st) :=
  tl_callN1 hN hd hc (by rw [h0.1, h0.2]; exact hk) hr (fun r w q => by obtain ⟨e1, e2⟩ := q; subst e1; subst e2; rw [h0.1, h0.2]; exact kk)
theorem tl_iV1 {a0 : Value} {i o K : Nat} {x : Int32} {v : tl_S} {C : String} {T : u_T} {NN : Nat} {ty : Nat → FieldType} (ck : tl_ck K C T NN ty) (hC : N.1.cls = C) (hT : tl_T E.2.1 o = some K) (hN : tl_MB E N (.ref o :: [a0]) u (fun r w => r = some (.int x) ∧ w = v)) (hd : decode M.2.1 pc = .ok (.invokevirtual i, 3)) (hc : tl_cV M N i 1) (h0 : N.2.2.2.2.cells = 0 ∧ N.2.2.2.2.slots = 0) (hk : k ≤ M.2.2.2.2.cells ∧ n ≤ M.2.2.2.2.slots) (hr : (st.map fun v => v.category).sum ≤ 8)
    (kk : tl_R E M X Z k n (tl_HB E v) (pc + 3) ls (.int x :: st)) : tl_R E M X Z k n (tl_HB E u) pc ls (a0 :: .ref o :: st) :=
  tl_callV1 ck hC hT hN hd hc (by rw [h0.1, h0.2]; exact hk) hr (fun r w q => by obtain ⟨e1, e2⟩ := q; subst e1; subst e2; rw [h0.1, h0.2]; exact kk)
theorem tl_lS1 {a0 : Value} {i : Nat} {x : Int64} {v : tl_S} (hN : tl_MB E N [a0] u (fun r w => r = some (.long x) ∧ w = v)) (hd : decode M.2.1 pc = .ok (.invokestatic i, 3)) (hc : tl_cS M N i 1) (h0 : N.2.2.2.2.cells = 0 ∧ N.2.2.2.2.slots = 0) (hk : k ≤ M.2.2.2.2.cells ∧ n ≤ M.2.2.2.2.slots) (hr : (st.map fun v => v.category).sum ≤ 8)
    (kk : tl_R E M X Z k n (tl_HB E v) (pc + 3) ls (.long x :: st)) : tl_R E M X Z k n (tl_HB E u) pc ls (a0 :: st) :=
  tl_callS1 hN hd hc (by rw [h0.1, h0.2]; exact hk) hr (fun r w q => by obtain ⟨e1, e2⟩ := q; subst e1; subst e2; rw [h0.1, h0.2]; exact kk)
theorem tl_lN1 {a0 : Value} {i : Nat} {x : Int64} {v : tl_S} (hN : tl_MB E N [a0] u (fun r w => r = some (.long x) ∧ w = v)) (hd : decode M.2.1 pc = .ok (.invokestatic i, 3)) (hc : tl_cN M N i 1) (h0 : N.2.2.2.2.cells = 0 ∧ N.2.2.2.2.slots = 0) (hk : k ≤ M.2.2.2.2.cells ∧ n ≤ M.2.2.2.2.slots) (hr : (st.map fun v => v.category).sum ≤ 8)
    (kk : tl_R E M X Z k n (tl_HB E v) (pc + 3) ls (.long x :: st)) : tl_R E M X Z k n (tl_HB E u) pc ls (a0 :: st) :=
  tl_callN1 hN hd hc (by rw [h0.1, h0.2]; exact hk) hr (fun r w q => by obtain ⟨e1, e2⟩ := q; subst e1; subst e2; rw [h0.1, h0.2]; exact kk)
theorem tl_lV1 {a0 : Value} {i o K : Nat} {x : Int64} {v : tl_S} {C : String} {T : u_T} {NN : Nat} {ty : Nat → FieldType} (ck : tl_ck K C T NN ty) (hC : N.1.cls = C) (hT : tl_T E.2.1 o = some K) (hN : tl_MB E N (.ref o :: [a0]) u (fun r w => r = some (.long x) ∧ w = v)) (hd : decode M.2.1 pc = .ok (.invokevirtual i, 3)) (hc : tl_cV M N i 1) (h0 : N.2.2.2.2.cells = 0 ∧ N.2.2.2.2.slots = 0) (hk : k ≤ M.2.2.2.2.cells ∧ n ≤ M.2.2.2.2.slots) (hr : (st.map fun v => v.category).sum ≤ 8)
    (kk : tl_R E M X Z k n (tl_HB E v) (pc + 3) ls (.long x :: st)) : tl_R E M X Z k n (tl_HB E u) pc ls (a0 :: .ref o :: st) :=
  tl_callV1 ck hC hT hN hd hc (by rw [h0.1, h0.2]; exact hk) hr (fun r w q => by obtain ⟨e1, e2⟩ := q; subst e1; subst e2; rw [h0.1, h0.2]; exact kk)
theorem tl_vS1 {a0 : Value} {i : Nat} {v : tl_S} (hN : tl_MB E N [a0] u (fun r w => r = none ∧ w = v)) (hd : decode M.2.1 pc = .ok (.invokestatic i, 3)) (hc : tl_cS M N i 1) (h0 : N.2.2.2.2.cells = 0 ∧ N.2.2.2.2.slots = 0) (hk : k ≤ M.2.2.2.2.cells ∧ n ≤ M.2.2.2.2.slots) (hr : (st.map fun v => v.category).sum ≤ 8)
    (kk : tl_R E M X Z k n (tl_HB E v) (pc + 3) ls (st)) : tl_R E M X Z k n (tl_HB E u) pc ls (a0 :: st) :=
  tl_callS1 hN hd hc (by rw [h0.1, h0.2]; exact hk) hr (fun r w q => by obtain ⟨e1, e2⟩ := q; subst e1; subst e2; rw [h0.1, h0.2]; exact kk)
theorem tl_vN1 {a0 : Value} {i : Nat} {v : tl_S} (hN : tl_MB E N [a0] u (fun r w => r = none ∧ w = v)) (hd : decode M.2.1 pc = .ok (.invokestatic i, 3)) (hc : tl_cN M N i 1) (h0 : N.2.2.2.2.cells = 0 ∧ N.2.2.2.2.slots = 0) (hk : k ≤ M.2.2.2.2.cells ∧ n ≤ M.2.2.2.2.slots) (hr : (st.map fun v => v.category).sum ≤ 8)
    (kk : tl_R E M X Z k n (tl_HB E v) (pc + 3) ls (st)) : tl_R E M X Z k n (tl_HB E u) pc ls (a0 :: st) :=
  tl_callN1 hN hd hc (by rw [h0.1, h0.2]; exact hk) hr (fun r w q => by obtain ⟨e1, e2⟩ := q; subst e1; subst e2; rw [h0.1, h0.2]; exact kk)
theorem tl_vV1 {a0 : Value} {i o K : Nat} {v : tl_S} {C : String} {T : u_T} {NN : Nat} {ty : Nat → FieldType} (ck : tl_ck K C T NN ty) (hC : N.1.cls = C) (hT : tl_T E.2.1 o = some K) (hN : tl_MB E N (.ref o :: [a0]) u (fun r w => r = none ∧ w = v)) (hd : decode M.2.1 pc = .ok (.invokevirtual i, 3)) (hc : tl_cV M N i 1) (h0 : N.2.2.2.2.cells = 0 ∧ N.2.2.2.2.slots = 0) (hk : k ≤ M.2.2.2.2.cells ∧ n ≤ M.2.2.2.2.slots) (hr : (st.map fun v => v.category).sum ≤ 8)
    (kk : tl_R E M X Z k n (tl_HB E v) (pc + 3) ls (st)) : tl_R E M X Z k n (tl_HB E u) pc ls (a0 :: .ref o :: st) :=
  tl_callV1 ck hC hT hN hd hc (by rw [h0.1, h0.2]; exact hk) hr (fun r w q => by obtain ⟨e1, e2⟩ := q; subst e1; subst e2; rw [h0.1, h0.2]; exact kk)
theorem tl_iS2 {a0 b0 : Value} {i : Nat} {x : Int32} {v : tl_S} (hN : tl_MB E N [a0, b0] u (fun r w => r = some (.int x) ∧ w = v)) (hd : decode M.2.1 pc = .ok (.invokestatic i, 3)) (hc : tl_cS M N i 2) (h0 : N.2.2.2.2.cells = 0 ∧ N.2.2.2.2.slots = 0) (hk : k ≤ M.2.2.2.2.cells ∧ n ≤ M.2.2.2.2.slots) (hr : (st.map fun v => v.category).sum ≤ 8)
    (kk : tl_R E M X Z k n (tl_HB E v) (pc + 3) ls (.int x :: st)) : tl_R E M X Z k n (tl_HB E u) pc ls (b0 :: a0 :: st) :=
  tl_callS2 hN hd hc (by rw [h0.1, h0.2]; exact hk) hr (fun r w q => by obtain ⟨e1, e2⟩ := q; subst e1; subst e2; rw [h0.1, h0.2]; exact kk)
theorem tl_iN2 {a0 b0 : Value} {i : Nat} {x : Int32} {v : tl_S} (hN : tl_MB E N [a0, b0] u (fun r w => r = some (.int x) ∧ w = v)) (hd : decode M.2.1 pc = .ok (.invokestatic i, 3)) (hc : tl_cN M N i 2) (h0 : N.2.2.2.2.cells = 0 ∧ N.2.2.2.2.slots = 0) (hk : k ≤ M.2.2.2.2.cells ∧ n ≤ M.2.2.2.2.slots) (hr : (st.map fun v => v.category).sum ≤ 8)
    (kk : tl_R E M X Z k n (tl_HB E v) (pc + 3) ls (.int x :: st)) : tl_R E M X Z k n (tl_HB E u) pc ls (b0 :: a0 :: st) :=
  tl_callN2 hN hd hc (by rw [h0.1, h0.2]; exact hk) hr (fun r w q => by obtain ⟨e1, e2⟩ := q; subst e1; subst e2; rw [h0.1, h0.2]; exact kk)
theorem tl_iV2 {a0 b0 : Value} {i o K : Nat} {x : Int32} {v : tl_S} {C : String} {T : u_T} {NN : Nat} {ty : Nat → FieldType} (ck : tl_ck K C T NN ty) (hC : N.1.cls = C) (hT : tl_T E.2.1 o = some K) (hN : tl_MB E N (.ref o :: [a0, b0]) u (fun r w => r = some (.int x) ∧ w = v)) (hd : decode M.2.1 pc = .ok (.invokevirtual i, 3)) (hc : tl_cV M N i 2) (h0 : N.2.2.2.2.cells = 0 ∧ N.2.2.2.2.slots = 0) (hk : k ≤ M.2.2.2.2.cells ∧ n ≤ M.2.2.2.2.slots) (hr : (st.map fun v => v.category).sum ≤ 8)
    (kk : tl_R E M X Z k n (tl_HB E v) (pc + 3) ls (.int x :: st)) : tl_R E M X Z k n (tl_HB E u) pc ls (b0 :: a0 :: .ref o :: st) :=
  tl_callV2 ck hC hT hN hd hc (by rw [h0.1, h0.2]; exact hk) hr (fun r w q => by obtain ⟨e1, e2⟩ := q; subst e1; subst e2; rw [h0.1, h0.2]; exact kk)
theorem tl_lS2 {a0 b0 : Value} {i : Nat} {x : Int64} {v : tl_S} (hN : tl_MB E N [a0, b0] u (fun r w => r = some (.long x) ∧ w = v)) (hd : decode M.2.1 pc = .ok (.invokestatic i, 3)) (hc : tl_cS M N i 2) (h0 : N.2.2.2.2.cells = 0 ∧ N.2.2.2.2.slots = 0) (hk : k ≤ M.2.2.2.2.cells ∧ n ≤ M.2.2.2.2.slots) (hr : (st.map fun v => v.category).sum ≤ 8)
    (kk : tl_R E M X Z k n (tl_HB E v) (pc + 3) ls (.long x :: st)) : tl_R E M X Z k n (tl_HB E u) pc ls (b0 :: a0 :: st) :=
  tl_callS2 hN hd hc (by rw [h0.1, h0.2]; exact hk) hr (fun r w q => by obtain ⟨e1, e2⟩ := q; subst e1; subst e2; rw [h0.1, h0.2]; exact kk)
theorem tl_lN2 {a0 b0 : Value} {i : Nat} {x : Int64} {v : tl_S} (hN : tl_MB E N [a0, b0] u (fun r w => r = some (.long x) ∧ w = v)) (hd : decode M.2.1 pc = .ok (.invokestatic i, 3)) (hc : tl_cN M N i 2) (h0 : N.2.2.2.2.cells = 0 ∧ N.2.2.2.2.slots = 0) (hk : k ≤ M.2.2.2.2.cells ∧ n ≤ M.2.2.2.2.slots) (hr : (st.map fun v => v.category).sum ≤ 8)
    (kk : tl_R E M X Z k n (tl_HB E v) (pc + 3) ls (.long x :: st)) : tl_R E M X Z k n (tl_HB E u) pc ls (b0 :: a0 :: st) :=
  tl_callN2 hN hd hc (by rw [h0.1, h0.2]; exact hk) hr (fun r w q => by obtain ⟨e1, e2⟩ := q; subst e1; subst e2; rw [h0.1, h0.2]; exact kk)
theorem tl_lV2 {a0 b0 : Value} {i o K : Nat} {x : Int64} {v : tl_S} {C : String} {T : u_T} {NN : Nat} {ty : Nat → FieldType} (ck : tl_ck K C T NN ty) (hC : N.1.cls = C) (hT : tl_T E.2.1 o = some K) (hN : tl_MB E N (.ref o :: [a0, b0]) u (fun r w => r = some (.long x) ∧ w = v)) (hd : decode M.2.1 pc = .ok (.invokevirtual i, 3)) (hc : tl_cV M N i 2) (h0 : N.2.2.2.2.cells = 0 ∧ N.2.2.2.2.slots = 0) (hk : k ≤ M.2.2.2.2.cells ∧ n ≤ M.2.2.2.2.slots) (hr : (st.map fun v => v.category).sum ≤ 8)
    (kk : tl_R E M X Z k n (tl_HB E v) (pc + 3) ls (.long x :: st)) : tl_R E M X Z k n (tl_HB E u) pc ls (b0 :: a0 :: .ref o :: st) :=
  tl_callV2 ck hC hT hN hd hc (by rw [h0.1, h0.2]; exact hk) hr (fun r w q => by obtain ⟨e1, e2⟩ := q; subst e1; subst e2; rw [h0.1, h0.2]; exact kk)
theorem tl_vS2 {a0 b0 : Value} {i : Nat} {v : tl_S} (hN : tl_MB E N [a0, b0] u (fun r w => r = none ∧ w = v)) (hd : decode M.2.1 pc = .ok (.invokestatic i, 3)) (hc : tl_cS M N i 2) (h0 : N.2.2.2.2.cells = 0 ∧ N.2.2.2.2.slots = 0) (hk : k ≤ M.2.2.2.2.cells ∧ n ≤ M.2.2.2.2.slots) (hr : (st.map fun v => v.category).sum ≤ 8)
    (kk : tl_R E M X Z k n (tl_HB E v) (pc + 3) ls (st)) : tl_R E M X Z k n (tl_HB E u) pc ls (b0 :: a0 :: st) :=
  tl_callS2 hN hd hc (by rw [h0.1, h0.2]; exact hk) hr (fun r w q => by obtain ⟨e1, e2⟩ := q; subst e1; subst e2; rw [h0.1, h0.2]; exact kk)
theorem tl_vN2 {a0 b0 : Value} {i : Nat} {v : tl_S} (hN : tl_MB E N [a0, b0] u (fun r w => r = none ∧ w = v)) (hd : decode M.2.1 pc = .ok (.invokestatic i, 3)) (hc : tl_cN M N i 2) (h0 : N.2.2.2.2.cells = 0 ∧ N.2.2.2.2.slots = 0) (hk : k ≤ M.2.2.2.2.cells ∧ n ≤ M.2.2.2.2.slots) (hr : (st.map fun v => v.category).sum ≤ 8)
    (kk : tl_R E M X Z k n (tl_HB E v) (pc + 3) ls (st)) : tl_R E M X Z k n (tl_HB E u) pc ls (b0 :: a0 :: st) :=
  tl_callN2 hN hd hc (by rw [h0.1, h0.2]; exact hk) hr (fun r w q => by obtain ⟨e1, e2⟩ := q; subst e1; subst e2; rw [h0.1, h0.2]; exact kk)
theorem tl_vV2 {a0 b0 : Value} {i o K : Nat} {v : tl_S} {C : String} {T : u_T} {NN : Nat} {ty : Nat → FieldType} (ck : tl_ck K C T NN ty) (hC : N.1.cls = C) (hT : tl_T E.2.1 o = some K) (hN : tl_MB E N (.ref o :: [a0, b0]) u (fun r w => r = none ∧ w = v)) (hd : decode M.2.1 pc = .ok (.invokevirtual i, 3)) (hc : tl_cV M N i 2) (h0 : N.2.2.2.2.cells = 0 ∧ N.2.2.2.2.slots = 0) (hk : k ≤ M.2.2.2.2.cells ∧ n ≤ M.2.2.2.2.slots) (hr : (st.map fun v => v.category).sum ≤ 8)
    (kk : tl_R E M X Z k n (tl_HB E v) (pc + 3) ls (st)) : tl_R E M X Z k n (tl_HB E u) pc ls (b0 :: a0 :: .ref o :: st) :=
  tl_callV2 ck hC hT hN hd hc (by rw [h0.1, h0.2]; exact hk) hr (fun r w q => by obtain ⟨e1, e2⟩ := q; subst e1; subst e2; rw [h0.1, h0.2]; exact kk)
theorem tl_iS3 {a0 b0 c0 : Value} {i : Nat} {x : Int32} {v : tl_S} (hN : tl_MB E N [a0, b0, c0] u (fun r w => r = some (.int x) ∧ w = v)) (hd : decode M.2.1 pc = .ok (.invokestatic i, 3)) (hc : tl_cS M N i 3) (h0 : N.2.2.2.2.cells = 0 ∧ N.2.2.2.2.slots = 0) (hk : k ≤ M.2.2.2.2.cells ∧ n ≤ M.2.2.2.2.slots) (hr : (st.map fun v => v.category).sum ≤ 8)
    (kk : tl_R E M X Z k n (tl_HB E v) (pc + 3) ls (.int x :: st)) : tl_R E M X Z k n (tl_HB E u) pc ls (c0 :: b0 :: a0 :: st) :=
  tl_callS3 hN hd hc (by rw [h0.1, h0.2]; exact hk) hr (fun r w q => by obtain ⟨e1, e2⟩ := q; subst e1; subst e2; rw [h0.1, h0.2]; exact kk)
theorem tl_iN3 {a0 b0 c0 : Value} {i : Nat} {x : Int32} {v : tl_S} (hN : tl_MB E N [a0, b0, c0] u (fun r w => r = some (.int x) ∧ w = v)) (hd : decode M.2.1 pc = .ok (.invokestatic i, 3)) (hc : tl_cN M N i 3) (h0 : N.2.2.2.2.cells = 0 ∧ N.2.2.2.2.slots = 0) (hk : k ≤ M.2.2.2.2.cells ∧ n ≤ M.2.2.2.2.slots) (hr : (st.map fun v => v.category).sum ≤ 8)
    (kk : tl_R E M X Z k n (tl_HB E v) (pc + 3) ls (.int x :: st)) : tl_R E M X Z k n (tl_HB E u) pc ls (c0 :: b0 :: a0 :: st) :=
  tl_callN3 hN hd hc (by rw [h0.1, h0.2]; exact hk) hr (fun r w q => by obtain ⟨e1, e2⟩ := q; subst e1; subst e2; rw [h0.1, h0.2]; exact kk)
theorem tl_iV3 {a0 b0 c0 : Value} {i o K : Nat} {x : Int32} {v : tl_S} {C : String} {T : u_T} {NN : Nat} {ty : Nat → FieldType} (ck : tl_ck K C T NN ty) (hC : N.1.cls = C) (hT : tl_T E.2.1 o = some K) (hN : tl_MB E N (.ref o :: [a0, b0, c0]) u (fun r w => r = some (.int x) ∧ w = v)) (hd : decode M.2.1 pc = .ok (.invokevirtual i, 3)) (hc : tl_cV M N i 3) (h0 : N.2.2.2.2.cells = 0 ∧ N.2.2.2.2.slots = 0) (hk : k ≤ M.2.2.2.2.cells ∧ n ≤ M.2.2.2.2.slots) (hr : (st.map fun v => v.category).sum ≤ 8)
    (kk : tl_R E M X Z k n (tl_HB E v) (pc + 3) ls (.int x :: st)) : tl_R E M X Z k n (tl_HB E u) pc ls (c0 :: b0 :: a0 :: .ref o :: st) :=
  tl_callV3 ck hC hT hN hd hc (by rw [h0.1, h0.2]; exact hk) hr (fun r w q => by obtain ⟨e1, e2⟩ := q; subst e1; subst e2; rw [h0.1, h0.2]; exact kk)
theorem tl_lS3 {a0 b0 c0 : Value} {i : Nat} {x : Int64} {v : tl_S} (hN : tl_MB E N [a0, b0, c0] u (fun r w => r = some (.long x) ∧ w = v)) (hd : decode M.2.1 pc = .ok (.invokestatic i, 3)) (hc : tl_cS M N i 3) (h0 : N.2.2.2.2.cells = 0 ∧ N.2.2.2.2.slots = 0) (hk : k ≤ M.2.2.2.2.cells ∧ n ≤ M.2.2.2.2.slots) (hr : (st.map fun v => v.category).sum ≤ 8)
    (kk : tl_R E M X Z k n (tl_HB E v) (pc + 3) ls (.long x :: st)) : tl_R E M X Z k n (tl_HB E u) pc ls (c0 :: b0 :: a0 :: st) :=
  tl_callS3 hN hd hc (by rw [h0.1, h0.2]; exact hk) hr (fun r w q => by obtain ⟨e1, e2⟩ := q; subst e1; subst e2; rw [h0.1, h0.2]; exact kk)
theorem tl_lN3 {a0 b0 c0 : Value} {i : Nat} {x : Int64} {v : tl_S} (hN : tl_MB E N [a0, b0, c0] u (fun r w => r = some (.long x) ∧ w = v)) (hd : decode M.2.1 pc = .ok (.invokestatic i, 3)) (hc : tl_cN M N i 3) (h0 : N.2.2.2.2.cells = 0 ∧ N.2.2.2.2.slots = 0) (hk : k ≤ M.2.2.2.2.cells ∧ n ≤ M.2.2.2.2.slots) (hr : (st.map fun v => v.category).sum ≤ 8)
    (kk : tl_R E M X Z k n (tl_HB E v) (pc + 3) ls (.long x :: st)) : tl_R E M X Z k n (tl_HB E u) pc ls (c0 :: b0 :: a0 :: st) :=
  tl_callN3 hN hd hc (by rw [h0.1, h0.2]; exact hk) hr (fun r w q => by obtain ⟨e1, e2⟩ := q; subst e1; subst e2; rw [h0.1, h0.2]; exact kk)
theorem tl_lV3 {a0 b0 c0 : Value} {i o K : Nat} {x : Int64} {v : tl_S} {C : String} {T : u_T} {NN : Nat} {ty : Nat → FieldType} (ck : tl_ck K C T NN ty) (hC : N.1.cls = C) (hT : tl_T E.2.1 o = some K) (hN : tl_MB E N (.ref o :: [a0, b0, c0]) u (fun r w => r = some (.long x) ∧ w = v)) (hd : decode M.2.1 pc = .ok (.invokevirtual i, 3)) (hc : tl_cV M N i 3) (h0 : N.2.2.2.2.cells = 0 ∧ N.2.2.2.2.slots = 0) (hk : k ≤ M.2.2.2.2.cells ∧ n ≤ M.2.2.2.2.slots) (hr : (st.map fun v => v.category).sum ≤ 8)
    (kk : tl_R E M X Z k n (tl_HB E v) (pc + 3) ls (.long x :: st)) : tl_R E M X Z k n (tl_HB E u) pc ls (c0 :: b0 :: a0 :: .ref o :: st) :=
  tl_callV3 ck hC hT hN hd hc (by rw [h0.1, h0.2]; exact hk) hr (fun r w q => by obtain ⟨e1, e2⟩ := q; subst e1; subst e2; rw [h0.1, h0.2]; exact kk)
theorem tl_vS3 {a0 b0 c0 : Value} {i : Nat} {v : tl_S} (hN : tl_MB E N [a0, b0, c0] u (fun r w => r = none ∧ w = v)) (hd : decode M.2.1 pc = .ok (.invokestatic i, 3)) (hc : tl_cS M N i 3) (h0 : N.2.2.2.2.cells = 0 ∧ N.2.2.2.2.slots = 0) (hk : k ≤ M.2.2.2.2.cells ∧ n ≤ M.2.2.2.2.slots) (hr : (st.map fun v => v.category).sum ≤ 8)
    (kk : tl_R E M X Z k n (tl_HB E v) (pc + 3) ls (st)) : tl_R E M X Z k n (tl_HB E u) pc ls (c0 :: b0 :: a0 :: st) :=
  tl_callS3 hN hd hc (by rw [h0.1, h0.2]; exact hk) hr (fun r w q => by obtain ⟨e1, e2⟩ := q; subst e1; subst e2; rw [h0.1, h0.2]; exact kk)
theorem tl_vN3 {a0 b0 c0 : Value} {i : Nat} {v : tl_S} (hN : tl_MB E N [a0, b0, c0] u (fun r w => r = none ∧ w = v)) (hd : decode M.2.1 pc = .ok (.invokestatic i, 3)) (hc : tl_cN M N i 3) (h0 : N.2.2.2.2.cells = 0 ∧ N.2.2.2.2.slots = 0) (hk : k ≤ M.2.2.2.2.cells ∧ n ≤ M.2.2.2.2.slots) (hr : (st.map fun v => v.category).sum ≤ 8)
    (kk : tl_R E M X Z k n (tl_HB E v) (pc + 3) ls (st)) : tl_R E M X Z k n (tl_HB E u) pc ls (c0 :: b0 :: a0 :: st) :=
  tl_callN3 hN hd hc (by rw [h0.1, h0.2]; exact hk) hr (fun r w q => by obtain ⟨e1, e2⟩ := q; subst e1; subst e2; rw [h0.1, h0.2]; exact kk)
theorem tl_vV3 {a0 b0 c0 : Value} {i o K : Nat} {v : tl_S} {C : String} {T : u_T} {NN : Nat} {ty : Nat → FieldType} (ck : tl_ck K C T NN ty) (hC : N.1.cls = C) (hT : tl_T E.2.1 o = some K) (hN : tl_MB E N (.ref o :: [a0, b0, c0]) u (fun r w => r = none ∧ w = v)) (hd : decode M.2.1 pc = .ok (.invokevirtual i, 3)) (hc : tl_cV M N i 3) (h0 : N.2.2.2.2.cells = 0 ∧ N.2.2.2.2.slots = 0) (hk : k ≤ M.2.2.2.2.cells ∧ n ≤ M.2.2.2.2.slots) (hr : (st.map fun v => v.category).sum ≤ 8)
    (kk : tl_R E M X Z k n (tl_HB E v) (pc + 3) ls (st)) : tl_R E M X Z k n (tl_HB E u) pc ls (c0 :: b0 :: a0 :: .ref o :: st) :=
  tl_callV3 ck hC hT hN hd hc (by rw [h0.1, h0.2]; exact hk) hr (fun r w q => by obtain ⟨e1, e2⟩ := q; subst e1; subst e2; rw [h0.1, h0.2]; exact kk)
theorem tl_iS4 {a0 b0 c0 d0 : Value} {i : Nat} {x : Int32} {v : tl_S} (hN : tl_MB E N [a0, b0, c0, d0] u (fun r w => r = some (.int x) ∧ w = v)) (hd : decode M.2.1 pc = .ok (.invokestatic i, 3)) (hc : tl_cS M N i 4) (h0 : N.2.2.2.2.cells = 0 ∧ N.2.2.2.2.slots = 0) (hk : k ≤ M.2.2.2.2.cells ∧ n ≤ M.2.2.2.2.slots) (hr : (st.map fun v => v.category).sum ≤ 8)
    (kk : tl_R E M X Z k n (tl_HB E v) (pc + 3) ls (.int x :: st)) : tl_R E M X Z k n (tl_HB E u) pc ls (d0 :: c0 :: b0 :: a0 :: st) :=
  tl_callS4 hN hd hc (by rw [h0.1, h0.2]; exact hk) hr (fun r w q => by obtain ⟨e1, e2⟩ := q; subst e1; subst e2; rw [h0.1, h0.2]; exact kk)
theorem tl_iN4 {a0 b0 c0 d0 : Value} {i : Nat} {x : Int32} {v : tl_S} (hN : tl_MB E N [a0, b0, c0, d0] u (fun r w => r = some (.int x) ∧ w = v)) (hd : decode M.2.1 pc = .ok (.invokestatic i, 3)) (hc : tl_cN M N i 4) (h0 : N.2.2.2.2.cells = 0 ∧ N.2.2.2.2.slots = 0) (hk : k ≤ M.2.2.2.2.cells ∧ n ≤ M.2.2.2.2.slots) (hr : (st.map fun v => v.category).sum ≤ 8)
    (kk : tl_R E M X Z k n (tl_HB E v) (pc + 3) ls (.int x :: st)) : tl_R E M X Z k n (tl_HB E u) pc ls (d0 :: c0 :: b0 :: a0 :: st) :=
  tl_callN4 hN hd hc (by rw [h0.1, h0.2]; exact hk) hr (fun r w q => by obtain ⟨e1, e2⟩ := q; subst e1; subst e2; rw [h0.1, h0.2]; exact kk)
theorem tl_iV4 {a0 b0 c0 d0 : Value} {i o K : Nat} {x : Int32} {v : tl_S} {C : String} {T : u_T} {NN : Nat} {ty : Nat → FieldType} (ck : tl_ck K C T NN ty) (hC : N.1.cls = C) (hT : tl_T E.2.1 o = some K) (hN : tl_MB E N (.ref o :: [a0, b0, c0, d0]) u (fun r w => r = some (.int x) ∧ w = v)) (hd : decode M.2.1 pc = .ok (.invokevirtual i, 3)) (hc : tl_cV M N i 4) (h0 : N.2.2.2.2.cells = 0 ∧ N.2.2.2.2.slots = 0) (hk : k ≤ M.2.2.2.2.cells ∧ n ≤ M.2.2.2.2.slots) (hr : (st.map fun v => v.category).sum ≤ 8)
    (kk : tl_R E M X Z k n (tl_HB E v) (pc + 3) ls (.int x :: st)) : tl_R E M X Z k n (tl_HB E u) pc ls (d0 :: c0 :: b0 :: a0 :: .ref o :: st) :=
  tl_callV4 ck hC hT hN hd hc (by rw [h0.1, h0.2]; exact hk) hr (fun r w q => by obtain ⟨e1, e2⟩ := q; subst e1; subst e2; rw [h0.1, h0.2]; exact kk)
theorem tl_lS4 {a0 b0 c0 d0 : Value} {i : Nat} {x : Int64} {v : tl_S} (hN : tl_MB E N [a0, b0, c0, d0] u (fun r w => r = some (.long x) ∧ w = v)) (hd : decode M.2.1 pc = .ok (.invokestatic i, 3)) (hc : tl_cS M N i 4) (h0 : N.2.2.2.2.cells = 0 ∧ N.2.2.2.2.slots = 0) (hk : k ≤ M.2.2.2.2.cells ∧ n ≤ M.2.2.2.2.slots) (hr : (st.map fun v => v.category).sum ≤ 8)
    (kk : tl_R E M X Z k n (tl_HB E v) (pc + 3) ls (.long x :: st)) : tl_R E M X Z k n (tl_HB E u) pc ls (d0 :: c0 :: b0 :: a0 :: st) :=
  tl_callS4 hN hd hc (by rw [h0.1, h0.2]; exact hk) hr (fun r w q => by obtain ⟨e1, e2⟩ := q; subst e1; subst e2; rw [h0.1, h0.2]; exact kk)
theorem tl_lN4 {a0 b0 c0 d0 : Value} {i : Nat} {x : Int64} {v : tl_S} (hN : tl_MB E N [a0, b0, c0, d0] u (fun r w => r = some (.long x) ∧ w = v)) (hd : decode M.2.1 pc = .ok (.invokestatic i, 3)) (hc : tl_cN M N i 4) (h0 : N.2.2.2.2.cells = 0 ∧ N.2.2.2.2.slots = 0) (hk : k ≤ M.2.2.2.2.cells ∧ n ≤ M.2.2.2.2.slots) (hr : (st.map fun v => v.category).sum ≤ 8)
    (kk : tl_R E M X Z k n (tl_HB E v) (pc + 3) ls (.long x :: st)) : tl_R E M X Z k n (tl_HB E u) pc ls (d0 :: c0 :: b0 :: a0 :: st) :=
  tl_callN4 hN hd hc (by rw [h0.1, h0.2]; exact hk) hr (fun r w q => by obtain ⟨e1, e2⟩ := q; subst e1; subst e2; rw [h0.1, h0.2]; exact kk)
theorem tl_lV4 {a0 b0 c0 d0 : Value} {i o K : Nat} {x : Int64} {v : tl_S} {C : String} {T : u_T} {NN : Nat} {ty : Nat → FieldType} (ck : tl_ck K C T NN ty) (hC : N.1.cls = C) (hT : tl_T E.2.1 o = some K) (hN : tl_MB E N (.ref o :: [a0, b0, c0, d0]) u (fun r w => r = some (.long x) ∧ w = v)) (hd : decode M.2.1 pc = .ok (.invokevirtual i, 3)) (hc : tl_cV M N i 4) (h0 : N.2.2.2.2.cells = 0 ∧ N.2.2.2.2.slots = 0) (hk : k ≤ M.2.2.2.2.cells ∧ n ≤ M.2.2.2.2.slots) (hr : (st.map fun v => v.category).sum ≤ 8)
    (kk : tl_R E M X Z k n (tl_HB E v) (pc + 3) ls (.long x :: st)) : tl_R E M X Z k n (tl_HB E u) pc ls (d0 :: c0 :: b0 :: a0 :: .ref o :: st) :=
  tl_callV4 ck hC hT hN hd hc (by rw [h0.1, h0.2]; exact hk) hr (fun r w q => by obtain ⟨e1, e2⟩ := q; subst e1; subst e2; rw [h0.1, h0.2]; exact kk)
theorem tl_vS4 {a0 b0 c0 d0 : Value} {i : Nat} {v : tl_S} (hN : tl_MB E N [a0, b0, c0, d0] u (fun r w => r = none ∧ w = v)) (hd : decode M.2.1 pc = .ok (.invokestatic i, 3)) (hc : tl_cS M N i 4) (h0 : N.2.2.2.2.cells = 0 ∧ N.2.2.2.2.slots = 0) (hk : k ≤ M.2.2.2.2.cells ∧ n ≤ M.2.2.2.2.slots) (hr : (st.map fun v => v.category).sum ≤ 8)
    (kk : tl_R E M X Z k n (tl_HB E v) (pc + 3) ls (st)) : tl_R E M X Z k n (tl_HB E u) pc ls (d0 :: c0 :: b0 :: a0 :: st) :=
  tl_callS4 hN hd hc (by rw [h0.1, h0.2]; exact hk) hr (fun r w q => by obtain ⟨e1, e2⟩ := q; subst e1; subst e2; rw [h0.1, h0.2]; exact kk)
theorem tl_vN4 {a0 b0 c0 d0 : Value} {i : Nat} {v : tl_S} (hN : tl_MB E N [a0, b0, c0, d0] u (fun r w => r = none ∧ w = v)) (hd : decode M.2.1 pc = .ok (.invokestatic i, 3)) (hc : tl_cN M N i 4) (h0 : N.2.2.2.2.cells = 0 ∧ N.2.2.2.2.slots = 0) (hk : k ≤ M.2.2.2.2.cells ∧ n ≤ M.2.2.2.2.slots) (hr : (st.map fun v => v.category).sum ≤ 8)
    (kk : tl_R E M X Z k n (tl_HB E v) (pc + 3) ls (st)) : tl_R E M X Z k n (tl_HB E u) pc ls (d0 :: c0 :: b0 :: a0 :: st) :=
  tl_callN4 hN hd hc (by rw [h0.1, h0.2]; exact hk) hr (fun r w q => by obtain ⟨e1, e2⟩ := q; subst e1; subst e2; rw [h0.1, h0.2]; exact kk)
theorem tl_vV4 {a0 b0 c0 d0 : Value} {i o K : Nat} {v : tl_S} {C : String} {T : u_T} {NN : Nat} {ty : Nat → FieldType} (ck : tl_ck K C T NN ty) (hC : N.1.cls = C) (hT : tl_T E.2.1 o = some K) (hN : tl_MB E N (.ref o :: [a0, b0, c0, d0]) u (fun r w => r = none ∧ w = v)) (hd : decode M.2.1 pc = .ok (.invokevirtual i, 3)) (hc : tl_cV M N i 4) (h0 : N.2.2.2.2.cells = 0 ∧ N.2.2.2.2.slots = 0) (hk : k ≤ M.2.2.2.2.cells ∧ n ≤ M.2.2.2.2.slots) (hr : (st.map fun v => v.category).sum ≤ 8)
    (kk : tl_R E M X Z k n (tl_HB E v) (pc + 3) ls (st)) : tl_R E M X Z k n (tl_HB E u) pc ls (d0 :: c0 :: b0 :: a0 :: .ref o :: st) :=
  tl_callV4 ck hC hT hN hd hc (by rw [h0.1, h0.2]; exact hk) hr (fun r w q => by obtain ⟨e1, e2⟩ := q; subst e1; subst e2; rw [h0.1, h0.2]; exact kk)
theorem tl_iS5 {a0 b0 c0 d0 e0 : Value} {i : Nat} {x : Int32} {v : tl_S} (hN : tl_MB E N [a0, b0, c0, d0, e0] u (fun r w => r = some (.int x) ∧ w = v)) (hd : decode M.2.1 pc = .ok (.invokestatic i, 3)) (hc : tl_cS M N i 5) (h0 : N.2.2.2.2.cells = 0 ∧ N.2.2.2.2.slots = 0) (hk : k ≤ M.2.2.2.2.cells ∧ n ≤ M.2.2.2.2.slots) (hr : (st.map fun v => v.category).sum ≤ 8)
    (kk : tl_R E M X Z k n (tl_HB E v) (pc + 3) ls (.int x :: st)) : tl_R E M X Z k n (tl_HB E u) pc ls (e0 :: d0 :: c0 :: b0 :: a0 :: st) :=
  tl_callS5 hN hd hc (by rw [h0.1, h0.2]; exact hk) hr (fun r w q => by obtain ⟨e1, e2⟩ := q; subst e1; subst e2; rw [h0.1, h0.2]; exact kk)
theorem tl_iN5 {a0 b0 c0 d0 e0 : Value} {i : Nat} {x : Int32} {v : tl_S} (hN : tl_MB E N [a0, b0, c0, d0, e0] u (fun r w => r = some (.int x) ∧ w = v)) (hd : decode M.2.1 pc = .ok (.invokestatic i, 3)) (hc : tl_cN M N i 5) (h0 : N.2.2.2.2.cells = 0 ∧ N.2.2.2.2.slots = 0) (hk : k ≤ M.2.2.2.2.cells ∧ n ≤ M.2.2.2.2.slots) (hr : (st.map fun v => v.category).sum ≤ 8)
    (kk : tl_R E M X Z k n (tl_HB E v) (pc + 3) ls (.int x :: st)) : tl_R E M X Z k n (tl_HB E u) pc ls (e0 :: d0 :: c0 :: b0 :: a0 :: st) :=
  tl_callN5 hN hd hc (by rw [h0.1, h0.2]; exact hk) hr (fun r w q => by obtain ⟨e1, e2⟩ := q; subst e1; subst e2; rw [h0.1, h0.2]; exact kk)
theorem tl_iV5 {a0 b0 c0 d0 e0 : Value} {i o K : Nat} {x : Int32} {v : tl_S} {C : String} {T : u_T} {NN : Nat} {ty : Nat → FieldType} (ck : tl_ck K C T NN ty) (hC : N.1.cls = C) (hT : tl_T E.2.1 o = some K) (hN : tl_MB E N (.ref o :: [a0, b0, c0, d0, e0]) u (fun r w => r = some (.int x) ∧ w = v)) (hd : decode M.2.1 pc = .ok (.invokevirtual i, 3)) (hc : tl_cV M N i 5) (h0 : N.2.2.2.2.cells = 0 ∧ N.2.2.2.2.slots = 0) (hk : k ≤ M.2.2.2.2.cells ∧ n ≤ M.2.2.2.2.slots) (hr : (st.map fun v => v.category).sum ≤ 8)
    (kk : tl_R E M X Z k n (tl_HB E v) (pc + 3) ls (.int x :: st)) : tl_R E M X Z k n (tl_HB E u) pc ls (e0 :: d0 :: c0 :: b0 :: a0 :: .ref o :: st) :=
  tl_callV5 ck hC hT hN hd hc (by rw [h0.1, h0.2]; exact hk) hr (fun r w q => by obtain ⟨e1, e2⟩ := q; subst e1; subst e2; rw [h0.1, h0.2]; exact kk)
theorem tl_lS5 {a0 b0 c0 d0 e0 : Value} {i : Nat} {x : Int64} {v : tl_S} (hN : tl_MB E N [a0, b0, c0, d0, e0] u (fun r w => r = some (.long x) ∧ w = v)) (hd : decode M.2.1 pc = .ok (.invokestatic i, 3)) (hc : tl_cS M N i 5) (h0 : N.2.2.2.2.cells = 0 ∧ N.2.2.2.2.slots = 0) (hk : k ≤ M.2.2.2.2.cells ∧ n ≤ M.2.2.2.2.slots) (hr : (st.map fun v => v.category).sum ≤ 8)
    (kk : tl_R E M X Z k n (tl_HB E v) (pc + 3) ls (.long x :: st)) : tl_R E M X Z k n (tl_HB E u) pc ls (e0 :: d0 :: c0 :: b0 :: a0 :: st) :=
  tl_callS5 hN hd hc (by rw [h0.1, h0.2]; exact hk) hr (fun r w q => by obtain ⟨e1, e2⟩ := q; subst e1; subst e2; rw [h0.1, h0.2]; exact kk)
theorem tl_lN5 {a0 b0 c0 d0 e0 : Value} {i : Nat} {x : Int64} {v : tl_S} (hN : tl_MB E N [a0, b0, c0, d0, e0] u (fun r w => r = some (.long x) ∧ w = v)) (hd : decode M.2.1 pc = .ok (.invokestatic i, 3)) (hc : tl_cN M N i 5) (h0 : N.2.2.2.2.cells = 0 ∧ N.2.2.2.2.slots = 0) (hk : k ≤ M.2.2.2.2.cells ∧ n ≤ M.2.2.2.2.slots) (hr : (st.map fun v => v.category).sum ≤ 8)
    (kk : tl_R E M X Z k n (tl_HB E v) (pc + 3) ls (.long x :: st)) : tl_R E M X Z k n (tl_HB E u) pc ls (e0 :: d0 :: c0 :: b0 :: a0 :: st) :=
  tl_callN5 hN hd hc (by rw [h0.1, h0.2]; exact hk) hr (fun r w q => by obtain ⟨e1, e2⟩ := q; subst e1; subst e2; rw [h0.1, h0.2]; exact kk)
theorem tl_lV5 {a0 b0 c0 d0 e0 : Value} {i o K : Nat} {x : Int64} {v : tl_S} {C : String} {T : u_T} {NN : Nat} {ty : Nat → FieldType} (ck : tl_ck K C T NN ty) (hC : N.1.cls = C) (hT : tl_T E.2.1 o = some K) (hN : tl_MB E N (.ref o :: [a0, b0, c0, d0, e0]) u (fun r w => r = some (.long x) ∧ w = v)) (hd : decode M.2.1 pc = .ok (.invokevirtual i, 3)) (hc : tl_cV M N i 5) (h0 : N.2.2.2.2.cells = 0 ∧ N.2.2.2.2.slots = 0) (hk : k ≤ M.2.2.2.2.cells ∧ n ≤ M.2.2.2.2.slots) (hr : (st.map fun v => v.category).sum ≤ 8)
    (kk : tl_R E M X Z k n (tl_HB E v) (pc + 3) ls (.long x :: st)) : tl_R E M X Z k n (tl_HB E u) pc ls (e0 :: d0 :: c0 :: b0 :: a0 :: .ref o :: st) :=
  tl_callV5 ck hC hT hN hd hc (by rw [h0.1, h0.2]; exact hk) hr (fun r w q => by obtain ⟨e1, e2⟩ := q; subst e1; subst e2; rw [h0.1, h0.2]; exact kk)
theorem tl_vS5 {a0 b0 c0 d0 e0 : Value} {i : Nat} {v : tl_S} (hN : tl_MB E N [a0, b0, c0, d0, e0] u (fun r w => r = none ∧ w = v)) (hd : decode M.2.1 pc = .ok (.invokestatic i, 3)) (hc : tl_cS M N i 5) (h0 : N.2.2.2.2.cells = 0 ∧ N.2.2.2.2.slots = 0) (hk : k ≤ M.2.2.2.2.cells ∧ n ≤ M.2.2.2.2.slots) (hr : (st.map fun v => v.category).sum ≤ 8)
    (kk : tl_R E M X Z k n (tl_HB E v) (pc + 3) ls (st)) : tl_R E M X Z k n (tl_HB E u) pc ls (e0 :: d0 :: c0 :: b0 :: a0 :: st) :=
  tl_callS5 hN hd hc (by rw [h0.1, h0.2]; exact hk) hr (fun r w q => by obtain ⟨e1, e2⟩ := q; subst e1; subst e2; rw [h0.1, h0.2]; exact kk)
theorem tl_vN5 {a0 b0 c0 d0 e0 : Value} {i : Nat} {v : tl_S} (hN : tl_MB E N [a0, b0, c0, d0, e0] u (fun r w => r = none ∧ w = v)) (hd : decode M.2.1 pc = .ok (.invokestatic i, 3)) (hc : tl_cN M N i 5) (h0 : N.2.2.2.2.cells = 0 ∧ N.2.2.2.2.slots = 0) (hk : k ≤ M.2.2.2.2.cells ∧ n ≤ M.2.2.2.2.slots) (hr : (st.map fun v => v.category).sum ≤ 8)
    (kk : tl_R E M X Z k n (tl_HB E v) (pc + 3) ls (st)) : tl_R E M X Z k n (tl_HB E u) pc ls (e0 :: d0 :: c0 :: b0 :: a0 :: st) :=
  tl_callN5 hN hd hc (by rw [h0.1, h0.2]; exact hk) hr (fun r w q => by obtain ⟨e1, e2⟩ := q; subst e1; subst e2; rw [h0.1, h0.2]; exact kk)
theorem tl_vV5 {a0 b0 c0 d0 e0 : Value} {i o K : Nat} {v : tl_S} {C : String} {T : u_T} {NN : Nat} {ty : Nat → FieldType} (ck : tl_ck K C T NN ty) (hC : N.1.cls = C) (hT : tl_T E.2.1 o = some K) (hN : tl_MB E N (.ref o :: [a0, b0, c0, d0, e0]) u (fun r w => r = none ∧ w = v)) (hd : decode M.2.1 pc = .ok (.invokevirtual i, 3)) (hc : tl_cV M N i 5) (h0 : N.2.2.2.2.cells = 0 ∧ N.2.2.2.2.slots = 0) (hk : k ≤ M.2.2.2.2.cells ∧ n ≤ M.2.2.2.2.slots) (hr : (st.map fun v => v.category).sum ≤ 8)
    (kk : tl_R E M X Z k n (tl_HB E v) (pc + 3) ls (st)) : tl_R E M X Z k n (tl_HB E u) pc ls (e0 :: d0 :: c0 :: b0 :: a0 :: .ref o :: st) :=
  tl_callV5 ck hC hT hN hd hc (by rw [h0.1, h0.2]; exact hk) hr (fun r w q => by obtain ⟨e1, e2⟩ := q; subst e1; subst e2; rw [h0.1, h0.2]; exact kk)
theorem tl_iS6 {a0 b0 c0 d0 e0 f0 : Value} {i : Nat} {x : Int32} {v : tl_S} (hN : tl_MB E N [a0, b0, c0, d0, e0, f0] u (fun r w => r = some (.int x) ∧ w = v)) (hd : decode M.2.1 pc = .ok (.invokestatic i, 3)) (hc : tl_cS M N i 6) (h0 : N.2.2.2.2.cells = 0 ∧ N.2.2.2.2.slots = 0) (hk : k ≤ M.2.2.2.2.cells ∧ n ≤ M.2.2.2.2.slots) (hr : (st.map fun v => v.category).sum ≤ 8)
    (kk : tl_R E M X Z k n (tl_HB E v) (pc + 3) ls (.int x :: st)) : tl_R E M X Z k n (tl_HB E u) pc ls (f0 :: e0 :: d0 :: c0 :: b0 :: a0 :: st) :=
  tl_callS6 hN hd hc (by rw [h0.1, h0.2]; exact hk) hr (fun r w q => by obtain ⟨e1, e2⟩ := q; subst e1; subst e2; rw [h0.1, h0.2]; exact kk)
theorem tl_iN6 {a0 b0 c0 d0 e0 f0 : Value} {i : Nat} {x : Int32} {v : tl_S} (hN : tl_MB E N [a0, b0, c0, d0, e0, f0] u (fun r w => r = some (.int x) ∧ w = v)) (hd : decode M.2.1 pc = .ok (.invokestatic i, 3)) (hc : tl_cN M N i 6) (h0 : N.2.2.2.2.cells = 0 ∧ N.2.2.2.2.slots = 0) (hk : k ≤ M.2.2.2.2.cells ∧ n ≤ M.2.2.2.2.slots) (hr : (st.map fun v => v.category).sum ≤ 8)
    (kk : tl_R E M X Z k n (tl_HB E v) (pc + 3) ls (.int x :: st)) : tl_R E M X Z k n (tl_HB E u) pc ls (f0 :: e0 :: d0 :: c0 :: b0 :: a0 :: st) :=
  tl_callN6 hN hd hc (by rw [h0.1, h0.2]; exact hk) hr (fun r w q => by obtain ⟨e1, e2⟩ := q; subst e1; subst e2; rw [h0.1, h0.2]; exact kk)
theorem tl_iV6 {a0 b0 c0 d0 e0 f0 : Value} {i o K : Nat} {x : Int32} {v : tl_S} {C : String} {T : u_T} {NN : Nat} {ty : Nat → FieldType} (ck : tl_ck K C T NN ty) (hC : N.1.cls = C) (hT : tl_T E.2.1 o = some K) (hN : tl_MB E N (.ref o :: [a0, b0, c0, d0, e0, f0]) u (fun r w => r = some (.int x) ∧ w = v)) (hd : decode M.2.1 pc = .ok (.invokevirtual i, 3)) (hc : tl_cV M N i 6) (h0 : N.2.2.2.2.cells = 0 ∧ N.2.2.2.2.slots = 0) (hk : k ≤ M.2.2.2.2.cells ∧ n ≤ M.2.2.2.2.slots) (hr : (st.map fun v => v.category).sum ≤ 8)
    (kk : tl_R E M X Z k n (tl_HB E v) (pc + 3) ls (.int x :: st)) : tl_R E M X Z k n (tl_HB E u) pc ls (f0 :: e0 :: d0 :: c0 :: b0 :: a0 :: .ref o :: st) :=
  tl_callV6 ck hC hT hN hd hc (by rw [h0.1, h0.2]; exact hk) hr (fun r w q => by obtain ⟨e1, e2⟩ := q; subst e1; subst e2; rw [h0.1, h0.2]; exact kk)
theorem tl_lS6 {a0 b0 c0 d0 e0 f0 : Value} {i : Nat} {x : Int64} {v : tl_S} (hN : tl_MB E N [a0, b0, c0, d0, e0, f0] u (fun r w => r = some (.long x) ∧ w = v)) (hd : decode M.2.1 pc = .ok (.invokestatic i, 3)) (hc : tl_cS M N i 6) (h0 : N.2.2.2.2.cells = 0 ∧ N.2.2.2.2.slots = 0) (hk : k ≤ M.2.2.2.2.cells ∧ n ≤ M.2.2.2.2.slots) (hr : (st.map fun v => v.category).sum ≤ 8)
    (kk : tl_R E M X Z k n (tl_HB E v) (pc + 3) ls (.long x :: st)) : tl_R E M X Z k n (tl_HB E u) pc ls (f0 :: e0 :: d0 :: c0 :: b0 :: a0 :: st) :=
  tl_callS6 hN hd hc (by rw [h0.1, h0.2]; exact hk) hr (fun r w q => by obtain ⟨e1, e2⟩ := q; subst e1; subst e2; rw [h0.1, h0.2]; exact kk)
theorem tl_lN6 {a0 b0 c0 d0 e0 f0 : Value} {i : Nat} {x : Int64} {v : tl_S} (hN : tl_MB E N [a0, b0, c0, d0, e0, f0] u (fun r w => r = some (.long x) ∧ w = v)) (hd : decode M.2.1 pc = .ok (.invokestatic i, 3)) (hc : tl_cN M N i 6) (h0 : N.2.2.2.2.cells = 0 ∧ N.2.2.2.2.slots = 0) (hk : k ≤ M.2.2.2.2.cells ∧ n ≤ M.2.2.2.2.slots) (hr : (st.map fun v => v.category).sum ≤ 8)
    (kk : tl_R E M X Z k n (tl_HB E v) (pc + 3) ls (.long x :: st)) : tl_R E M X Z k n (tl_HB E u) pc ls (f0 :: e0 :: d0 :: c0 :: b0 :: a0 :: st) :=
  tl_callN6 hN hd hc (by rw [h0.1, h0.2]; exact hk) hr (fun r w q => by obtain ⟨e1, e2⟩ := q; subst e1; subst e2; rw [h0.1, h0.2]; exact kk)
theorem tl_lV6 {a0 b0 c0 d0 e0 f0 : Value} {i o K : Nat} {x : Int64} {v : tl_S} {C : String} {T : u_T} {NN : Nat} {ty : Nat → FieldType} (ck : tl_ck K C T NN ty) (hC : N.1.cls = C) (hT : tl_T E.2.1 o = some K) (hN : tl_MB E N (.ref o :: [a0, b0, c0, d0, e0, f0]) u (fun r w => r = some (.long x) ∧ w = v)) (hd : decode M.2.1 pc = .ok (.invokevirtual i, 3)) (hc : tl_cV M N i 6) (h0 : N.2.2.2.2.cells = 0 ∧ N.2.2.2.2.slots = 0) (hk : k ≤ M.2.2.2.2.cells ∧ n ≤ M.2.2.2.2.slots) (hr : (st.map fun v => v.category).sum ≤ 8)
    (kk : tl_R E M X Z k n (tl_HB E v) (pc + 3) ls (.long x :: st)) : tl_R E M X Z k n (tl_HB E u) pc ls (f0 :: e0 :: d0 :: c0 :: b0 :: a0 :: .ref o :: st) :=
  tl_callV6 ck hC hT hN hd hc (by rw [h0.1, h0.2]; exact hk) hr (fun r w q => by obtain ⟨e1, e2⟩ := q; subst e1; subst e2; rw [h0.1, h0.2]; exact kk)
theorem tl_vS6 {a0 b0 c0 d0 e0 f0 : Value} {i : Nat} {v : tl_S} (hN : tl_MB E N [a0, b0, c0, d0, e0, f0] u (fun r w => r = none ∧ w = v)) (hd : decode M.2.1 pc = .ok (.invokestatic i, 3)) (hc : tl_cS M N i 6) (h0 : N.2.2.2.2.cells = 0 ∧ N.2.2.2.2.slots = 0) (hk : k ≤ M.2.2.2.2.cells ∧ n ≤ M.2.2.2.2.slots) (hr : (st.map fun v => v.category).sum ≤ 8)
    (kk : tl_R E M X Z k n (tl_HB E v) (pc + 3) ls (st)) : tl_R E M X Z k n (tl_HB E u) pc ls (f0 :: e0 :: d0 :: c0 :: b0 :: a0 :: st) :=
  tl_callS6 hN hd hc (by rw [h0.1, h0.2]; exact hk) hr (fun r w q => by obtain ⟨e1, e2⟩ := q; subst e1; subst e2; rw [h0.1, h0.2]; exact kk)
theorem tl_vN6 {a0 b0 c0 d0 e0 f0 : Value} {i : Nat} {v : tl_S} (hN : tl_MB E N [a0, b0, c0, d0, e0, f0] u (fun r w => r = none ∧ w = v)) (hd : decode M.2.1 pc = .ok (.invokestatic i, 3)) (hc : tl_cN M N i 6) (h0 : N.2.2.2.2.cells = 0 ∧ N.2.2.2.2.slots = 0) (hk : k ≤ M.2.2.2.2.cells ∧ n ≤ M.2.2.2.2.slots) (hr : (st.map fun v => v.category).sum ≤ 8)
    (kk : tl_R E M X Z k n (tl_HB E v) (pc + 3) ls (st)) : tl_R E M X Z k n (tl_HB E u) pc ls (f0 :: e0 :: d0 :: c0 :: b0 :: a0 :: st) :=
  tl_callN6 hN hd hc (by rw [h0.1, h0.2]; exact hk) hr (fun r w q => by obtain ⟨e1, e2⟩ := q; subst e1; subst e2; rw [h0.1, h0.2]; exact kk)
theorem tl_vV6 {a0 b0 c0 d0 e0 f0 : Value} {i o K : Nat} {v : tl_S} {C : String} {T : u_T} {NN : Nat} {ty : Nat → FieldType} (ck : tl_ck K C T NN ty) (hC : N.1.cls = C) (hT : tl_T E.2.1 o = some K) (hN : tl_MB E N (.ref o :: [a0, b0, c0, d0, e0, f0]) u (fun r w => r = none ∧ w = v)) (hd : decode M.2.1 pc = .ok (.invokevirtual i, 3)) (hc : tl_cV M N i 6) (h0 : N.2.2.2.2.cells = 0 ∧ N.2.2.2.2.slots = 0) (hk : k ≤ M.2.2.2.2.cells ∧ n ≤ M.2.2.2.2.slots) (hr : (st.map fun v => v.category).sum ≤ 8)
    (kk : tl_R E M X Z k n (tl_HB E v) (pc + 3) ls (st)) : tl_R E M X Z k n (tl_HB E u) pc ls (f0 :: e0 :: d0 :: c0 :: b0 :: a0 :: .ref o :: st) :=
  tl_callV6 ck hC hT hN hd hc (by rw [h0.1, h0.2]; exact hk) hr (fun r w q => by obtain ⟨e1, e2⟩ := q; subst e1; subst e2; rw [h0.1, h0.2]; exact kk)
theorem tl_iS7 {a0 b0 c0 d0 e0 f0 g0 : Value} {i : Nat} {x : Int32} {v : tl_S} (hN : tl_MB E N [a0, b0, c0, d0, e0, f0, g0] u (fun r w => r = some (.int x) ∧ w = v)) (hd : decode M.2.1 pc = .ok (.invokestatic i, 3)) (hc : tl_cS M N i 7) (h0 : N.2.2.2.2.cells = 0 ∧ N.2.2.2.2.slots = 0) (hk : k ≤ M.2.2.2.2.cells ∧ n ≤ M.2.2.2.2.slots) (hr : (st.map fun v => v.category).sum ≤ 8)
    (kk : tl_R E M X Z k n (tl_HB E v) (pc + 3) ls (.int x :: st)) : tl_R E M X Z k n (tl_HB E u) pc ls (g0 :: f0 :: e0 :: d0 :: c0 :: b0 :: a0 :: st) :=
  tl_callS7 hN hd hc (by rw [h0.1, h0.2]; exact hk) hr (fun r w q => by obtain ⟨e1, e2⟩ := q; subst e1; subst e2; rw [h0.1, h0.2]; exact kk)
theorem tl_iN7 {a0 b0 c0 d0 e0 f0 g0 : Value} {i : Nat} {x : Int32} {v : tl_S} (hN : tl_MB E N [a0, b0, c0, d0, e0, f0, g0] u (fun r w => r = some (.int x) ∧ w = v)) (hd : decode M.2.1 pc = .ok (.invokestatic i, 3)) (hc : tl_cN M N i 7) (h0 : N.2.2.2.2.cells = 0 ∧ N.2.2.2.2.slots = 0) (hk : k ≤ M.2.2.2.2.cells ∧ n ≤ M.2.2.2.2.slots) (hr : (st.map fun v => v.category).sum ≤ 8)
    (kk : tl_R E M X Z k n (tl_HB E v) (pc + 3) ls (.int x :: st)) : tl_R E M X Z k n (tl_HB E u) pc ls (g0 :: f0 :: e0 :: d0 :: c0 :: b0 :: a0 :: st) :=
  tl_callN7 hN hd hc (by rw [h0.1, h0.2]; exact hk) hr (fun r w q => by obtain ⟨e1, e2⟩ := q; subst e1; subst e2; rw [h0.1, h0.2]; exact kk)
theorem tl_lS7 {a0 b0 c0 d0 e0 f0 g0 : Value} {i : Nat} {x : Int64} {v : tl_S} (hN : tl_MB E N [a0, b0, c0, d0, e0, f0, g0] u (fun r w => r = some (.long x) ∧ w = v)) (hd : decode M.2.1 pc = .ok (.invokestatic i, 3)) (hc : tl_cS M N i 7) (h0 : N.2.2.2.2.cells = 0 ∧ N.2.2.2.2.slots = 0) (hk : k ≤ M.2.2.2.2.cells ∧ n ≤ M.2.2.2.2.slots) (hr : (st.map fun v => v.category).sum ≤ 8)
    (kk : tl_R E M X Z k n (tl_HB E v) (pc + 3) ls (.long x :: st)) : tl_R E M X Z k n (tl_HB E u) pc ls (g0 :: f0 :: e0 :: d0 :: c0 :: b0 :: a0 :: st) :=
  tl_callS7 hN hd hc (by rw [h0.1, h0.2]; exact hk) hr (fun r w q => by obtain ⟨e1, e2⟩ := q; subst e1; subst e2; rw [h0.1, h0.2]; exact kk)
theorem tl_lN7 {a0 b0 c0 d0 e0 f0 g0 : Value} {i : Nat} {x : Int64} {v : tl_S} (hN : tl_MB E N [a0, b0, c0, d0, e0, f0, g0] u (fun r w => r = some (.long x) ∧ w = v)) (hd : decode M.2.1 pc = .ok (.invokestatic i, 3)) (hc : tl_cN M N i 7) (h0 : N.2.2.2.2.cells = 0 ∧ N.2.2.2.2.slots = 0) (hk : k ≤ M.2.2.2.2.cells ∧ n ≤ M.2.2.2.2.slots) (hr : (st.map fun v => v.category).sum ≤ 8)
    (kk : tl_R E M X Z k n (tl_HB E v) (pc + 3) ls (.long x :: st)) : tl_R E M X Z k n (tl_HB E u) pc ls (g0 :: f0 :: e0 :: d0 :: c0 :: b0 :: a0 :: st) :=
  tl_callN7 hN hd hc (by rw [h0.1, h0.2]; exact hk) hr (fun r w q => by obtain ⟨e1, e2⟩ := q; subst e1; subst e2; rw [h0.1, h0.2]; exact kk)
theorem tl_vS7 {a0 b0 c0 d0 e0 f0 g0 : Value} {i : Nat} {v : tl_S} (hN : tl_MB E N [a0, b0, c0, d0, e0, f0, g0] u (fun r w => r = none ∧ w = v)) (hd : decode M.2.1 pc = .ok (.invokestatic i, 3)) (hc : tl_cS M N i 7) (h0 : N.2.2.2.2.cells = 0 ∧ N.2.2.2.2.slots = 0) (hk : k ≤ M.2.2.2.2.cells ∧ n ≤ M.2.2.2.2.slots) (hr : (st.map fun v => v.category).sum ≤ 8)
    (kk : tl_R E M X Z k n (tl_HB E v) (pc + 3) ls (st)) : tl_R E M X Z k n (tl_HB E u) pc ls (g0 :: f0 :: e0 :: d0 :: c0 :: b0 :: a0 :: st) :=
  tl_callS7 hN hd hc (by rw [h0.1, h0.2]; exact hk) hr (fun r w q => by obtain ⟨e1, e2⟩ := q; subst e1; subst e2; rw [h0.1, h0.2]; exact kk)
theorem tl_vN7 {a0 b0 c0 d0 e0 f0 g0 : Value} {i : Nat} {v : tl_S} (hN : tl_MB E N [a0, b0, c0, d0, e0, f0, g0] u (fun r w => r = none ∧ w = v)) (hd : decode M.2.1 pc = .ok (.invokestatic i, 3)) (hc : tl_cN M N i 7) (h0 : N.2.2.2.2.cells = 0 ∧ N.2.2.2.2.slots = 0) (hk : k ≤ M.2.2.2.2.cells ∧ n ≤ M.2.2.2.2.slots) (hr : (st.map fun v => v.category).sum ≤ 8)
    (kk : tl_R E M X Z k n (tl_HB E v) (pc + 3) ls (st)) : tl_R E M X Z k n (tl_HB E u) pc ls (g0 :: f0 :: e0 :: d0 :: c0 :: b0 :: a0 :: st) :=
  tl_callN7 hN hd hc (by rw [h0.1, h0.2]; exact hk) hr (fun r w q => by obtain ⟨e1, e2⟩ := q; subst e1; subst e2; rw [h0.1, h0.2]; exact kk)

theorem tl_mmin {i : Nat} {x y : Int32} (hd : decode M.2.1 pc = .ok (.invokestatic i, 3)) (hl : Cond.methodLink M.1.cls i yJ9_min_7cf53 ∈ tl_GW) (hc : k ≤ M.2.2.2.2.cells ∧ n ≤ M.2.2.2.2.slots) (hf : 1 ≤ M.2.2.2.2.frames) (hlo : 36 ≤ M.2.2.2.2.locals) (hr : (st.map fun v => v.category).sum ≤ 8)
    (kk : tl_R E M X Z k n (tl_HB E u) (pc + 3) ls (.int (if y < x then y else x) :: st)) : tl_R E M X Z k n (tl_HB E u) pc ls (.int y :: .int x :: st) := by
  intro p e s m args below meth c hC hX H la locs hH hS hL
  have hts := hC.2.2.2.2.2.1
  exact va_mmin hC.1 hC.2.1 (hC.2.2.2.1.trans hL.2.1.symm) hC.2.2.2.2.1 (hts _ hl) (hts _ sm_J9_min_7cf53) (hts _ in_J9) (hts _ cd_J9_min_7cf53) hf (by omega) hc.1 hc.2 hd (kk p e s m args below meth c hC hX H la locs hH hS hL)
theorem tl_mmax {i : Nat} {x y : Int32} (hd : decode M.2.1 pc = .ok (.invokestatic i, 3)) (hl : Cond.methodLink M.1.cls i yJ9_max_7cf53 ∈ tl_GW) (hc : k ≤ M.2.2.2.2.cells ∧ n ≤ M.2.2.2.2.slots) (hf : 1 ≤ M.2.2.2.2.frames) (hlo : 36 ≤ M.2.2.2.2.locals) (hr : (st.map fun v => v.category).sum ≤ 8)
    (kk : tl_R E M X Z k n (tl_HB E u) (pc + 3) ls (.int (if x < y then y else x) :: st)) : tl_R E M X Z k n (tl_HB E u) pc ls (.int y :: .int x :: st) := by
  intro p e s m args below meth c hC hX H la locs hH hS hL
  have hts := hC.2.2.2.2.2.1
  exact va_mmax hC.1 hC.2.1 (hC.2.2.2.1.trans hL.2.1.symm) hC.2.2.2.2.1 (hts _ hl) (hts _ sm_J9_max_7cf53) (hts _ in_J9) (hts _ cd_J9_max_7cf53) hf (by omega) hc.1 hc.2 hd (kk p e s m args below meth c hC hX H la locs hH hS hL)
theorem tl_mabs {i : Nat} {x : Int32} (hd : decode M.2.1 pc = .ok (.invokestatic i, 3)) (hl : Cond.methodLink M.1.cls i yJ9_abs_0f7a4 ∈ tl_GW) (hc : k ≤ M.2.2.2.2.cells ∧ n ≤ M.2.2.2.2.slots) (hf : 1 ≤ M.2.2.2.2.frames) (hlo : 36 ≤ M.2.2.2.2.locals) (hr : (st.map fun v => v.category).sum ≤ 8)
    (kk : tl_R E M X Z k n (tl_HB E u) (pc + 3) ls (.int (if 0 ≤ x then x else 0 - x) :: st)) : tl_R E M X Z k n (tl_HB E u) pc ls (.int x :: st) := by
  intro p e s m args below meth c hC hX H la locs hH hS hL
  have hts := hC.2.2.2.2.2.1
  exact va_mabs hC.1 hC.2.1 (hC.2.2.2.1.trans hL.2.1.symm) hC.2.2.2.2.1 (hts _ hl) (hts _ sm_J9_abs_0f7a4) (hts _ in_J9) (hts _ cd_J9_abs_0f7a4) hf (by omega) hc.1 hc.2 hd (kk p e s m args below meth c hC hX H la locs hH hS hL)
theorem tl_ldcw {i : Nat} {v : Int32} (hd : decode M.2.1 pc = .ok (.ldc_w i, 3)) (hw : Cond.constant M.1.cls i v ∈ tl_GW) (kk : tl_R E M X Z k n (tl_HB E u) (pc + 3) ls (.int v :: st)) : tl_R E M X Z k n (tl_HB E u) pc ls st :=
  fun p e s m args below meth c hC hX H la locs hH hS hL => lv_ldcw hC.1 hC.2.1 hC.2.2.2.2.1 (hC.2.2.2.2.2.1 _ hw) hd (kk p e s m args below meth c hC hX H la locs hH hS hL)
end TLD
