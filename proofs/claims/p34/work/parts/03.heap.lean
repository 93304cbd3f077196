/-! The world as numbers by address and place: objects' fields, arrays' elements; what the references are is fixed by the address, but for the rows of orders. -/
abbrev tl_S : Type := (Nat → Nat → Int32) × (Nat → Nat → Nat) × (Nat → Nat → Int64)
def tl_u (I : Nat → Nat → Int32) (a k : Nat) (x : Int32) : Nat → Nat → Int32 := fun q j => if q = a ∧ j = k then x else I q j
def tl_uO (O : Nat → Nat → Nat) (a k v : Nat) : Nat → Nat → Nat := fun q j => if q = a ∧ j = k then v else O q j
def tl_uL (L : Nat → Nat → Int64) (a k : Nat) (x : Int64) : Nat → Nat → Int64 := fun q j => if q = a ∧ j = k then x else L q j
def tl_n : Nat → Nat
  | 0 => 5 | 1 => 2 | 2 => 3 | 3 => 7 | 4 => 4 | 5 => 16 | 6 => 3 | 7 => 4 | 8 => 5 | 9 => 8 | _ => 11
def tl_off : Nat → Nat → Option Nat
  | 2, 0 => some 1
  | 3, 0 => some 1
  | 5, 0 => some 1
  | 5, 1 => some 2
  | 5, 2 => some 3
  | 5, 3 => some 4
  | 6, 0 => some 1
  | 9, 0 => some 1
  | 9, 1 => some 3
  | 9, 2 => some 4
  | 9, 3 => some 33
  | 9, 4 => some 62
  | 9, 5 => some 91
  | 9, 6 => some 499
  | 9, 7 => some 500
  | _, _ => none
def tl_fv (K a : Nat) (I : Nat → Nat → Int32) (k : Nat) : Value := match tl_off K k with
  | some o => .ref (a + o)
  | none => .int (I a k)
def tl_fs (K a : Nat) (I : Nat → Nat → Int32) : List Value := (List.range (tl_n K)).map (tl_fv K a I)
def tl_ce (dA : Nat → ClassId) : Nat → Nat → tl_S → va_E
  | 11, a, u => .inl (dA 1, 120, .inl (u.1 a))
  | 12, a, u => .inl (dA 0, 120, .inl (u.1 a))
  | 13, a, u => .inl (dA 0, 104, .inl (u.1 a))
  | 14, a, u => .inl (dA 0, 1456, .inl (u.1 a))
  | 15, a, u => .inl (dA 0, 208, .inl (u.1 a))
  | 16, a, u => .inl (dA 2, 2, .inl (u.1 a))
  | 17, a, u => .inl (dA 3, 1, .inr (.inl (u.2.2 a)))
  | 18, a, _ => .inl (dA 4, 3, .inr (.inr (.inr (.inr (fun j => some (a + 11 + j))))))
  | 19, a, _ => .inl (dA 5, 6, .inr (.inr (.inr (.inr (fun j => some (a + 13 + j))))))
  | 20, a, _ => .inl (dA 6, 8, .inr (.inr (.inr (.inr (fun j => some (a + 18 + j))))))
  | 21, a, u => .inl (dA 7, 6, .inr (.inr (.inr (.inr (fun j => some (u.2.1 a j))))))
  | 22, a, _ => .inl (dA 8, 14, .inr (.inr (.inr (.inr (fun j => some (a + 1 + 29 * j))))))
  | 23, a, _ => .inl (dA 8, 2, .inr (.inr (.inr (.inr (fun j => some (a + 2 + 29 * j))))))
  | K, a, u => .inr (K, tl_fs K a u.1)
theorem tl_ce_c {dA : Nat → ClassId} {K a : Nat} {u v : tl_S} (h1 : u.1 a = v.1 a) (h2 : u.2.1 a = v.2.1 a) (h3 : u.2.2 a = v.2.2 a) : tl_ce dA K a u = tl_ce dA K a v := by
  have h4 : tl_fs K a u.1 = tl_fs K a v.1 := by
    unfold tl_fs
    congr 1
    funext k
    unfold tl_fv
    rw [h1]
  unfold tl_ce
  split <;> simp only [h1, h2, h3, h4]
def tl_mk : List Nat := [5, 18, 19, 20, 3, 21, 8, 8, 8, 8, 8, 8, 1, 1, 1, 7, 7, 7, 7, 7, 7, 4, 4, 4, 4, 4, 4, 4, 4]
def tl_kind1 : List Nat := [9, 6, 11, 0] ++ (tl_mk ++ tl_mk ++ tl_mk) ++ [2, 22] ++ (tl_mk ++ tl_mk ++ tl_mk ++ tl_mk ++ tl_mk ++ tl_mk ++ tl_mk ++ tl_mk ++ tl_mk ++ tl_mk ++ tl_mk ++ tl_mk ++ tl_mk ++ tl_mk) ++ [23, 16] ++ (tl_mk ++ tl_mk)
/-- two objects of the class, one behind the other -/
def tl_kinds : List Nat := tl_kind1 ++ tl_kind1
/-- the kind of the thing at the address q, of a world that begins at z -/
def tl_T (z q : Nat) : Option Nat := if z ≤ q then tl_kinds[q - z]? else none
theorem tl_T_le {z q K : Nat} (h : tl_T z q = some K) : z ≤ q := by
  unfold tl_T at h
  split at h
  · assumption
  · cases h
def tl_HB (E : tl_E) (u : tl_S) (H : Heap) : Prop := ∀ (q K : Nat), tl_T E.2.1 q = some K → va_at E.2.2.1 vwCl (q, tl_ce E.2.2.2 K q u) H
theorem tl_HB_put {E : tl_E} {u v : tl_S} {H H1 : Heap} {a K : Nat} (h : tl_HB E u H) (hT : tl_T E.2.1 a = some K) (hnew : va_at E.2.2.1 vwCl (a, tl_ce E.2.2.2 K a v) H1) (ho : ∀ q : Nat, q ≠ a → H1[q]? = H[q]?)
    (h1 : ∀ q, q ≠ a → u.1 q = v.1 q) (h2 : ∀ q, q ≠ a → u.2.1 q = v.2.1 q) (h3 : ∀ q, q ≠ a → u.2.2 q = v.2.2 q) : tl_HB E v H1 := by
  intro q K1 hq
  by_cases e : q = a
  · subst e
    cases hT.symm.trans hq
    exact hnew
  · rw [← tl_ce_c (h1 q e) (h2 q e) (h3 q e)]
    exact (h q K1 hq).kept (ho q e)
theorem tl_P1 {D : va_G} {a : Nat} {e : va_E} {H : Heap} (h : va_at D vwCl (a, e) H) : va_P D vwCl [(a, e)] H := by
  intro k q hk
  match k, hk with
  | 0, hk => cases hk; exact h
/-- a class of the table: its row, its words, its fields' types and names -/
def tl_ck (K : Nat) (C : String) (T : u_T) (N : Nat) (ty : Nat → FieldType) : Prop := K < 10 ∧ vwCl[K]? = some (C, T, N) ∧ (∀ w ∈ u_ws C T N, w ∈ tl_GW) ∧ (∀ k, k < N → parseFieldDescriptor (T k).2.2.1 = some (ty k)) ∧ (∀ a, a < N → ∀ b, b < N → a ≠ b → (T a).2.1 ≠ (T b).2.1) ∧ N = tl_n K
theorem tl_ck0 : tl_ck 0 RX0 TX0 5 tyX0 := ⟨by decide, rfl, fun w hw => tl_inGW ((by decide +kernel : ∀ w ∈ u_ws RX0 TX0 5, w ∈ tables_1) w hw) ((by decide +kernel : ∀ w ∈ u_ws RX0 TX0 5, goodWord w = true) w hw), tyX0_ok, nmX0, rfl⟩
theorem tl_ck1 : tl_ck 1 RX1 TX1 2 tyX1 := ⟨by decide, rfl, fun w hw => tl_inGW ((by decide +kernel : ∀ w ∈ u_ws RX1 TX1 2, w ∈ tables_1) w hw) ((by decide +kernel : ∀ w ∈ u_ws RX1 TX1 2, goodWord w = true) w hw), tyX1_ok, nmX1, rfl⟩
theorem tl_ck2 : tl_ck 2 RX2 TX2 3 tyX2 := ⟨by decide, rfl, fun w hw => tl_inGW ((by decide +kernel : ∀ w ∈ u_ws RX2 TX2 3, w ∈ tables_1) w hw) ((by decide +kernel : ∀ w ∈ u_ws RX2 TX2 3, goodWord w = true) w hw), tyX2_ok, nmX2, rfl⟩
theorem tl_ck3 : tl_ck 3 RX3 TX3 7 tyX3 := ⟨by decide, rfl, fun w hw => tl_inGW ((by decide +kernel : ∀ w ∈ u_ws RX3 TX3 7, w ∈ tables_1) w hw) ((by decide +kernel : ∀ w ∈ u_ws RX3 TX3 7, goodWord w = true) w hw), tyX3_ok, nmX3, rfl⟩
theorem tl_ck4 : tl_ck 4 RX4 TX4 4 tyX4 := ⟨by decide, rfl, fun w hw => tl_inGW ((by decide +kernel : ∀ w ∈ u_ws RX4 TX4 4, w ∈ tables_1) w hw) ((by decide +kernel : ∀ w ∈ u_ws RX4 TX4 4, goodWord w = true) w hw), tyX4_ok, nmX4, rfl⟩
theorem tl_ck5 : tl_ck 5 RX5 TX5 16 tyX5 := ⟨by decide, rfl, fun w hw => tl_inGW ((by decide +kernel : ∀ w ∈ u_ws RX5 TX5 16, w ∈ tables_1) w hw) ((by decide +kernel : ∀ w ∈ u_ws RX5 TX5 16, goodWord w = true) w hw), tyX5_ok, nmX5, rfl⟩
theorem tl_ck6 : tl_ck 6 RX6 TX6 3 tyX6 := ⟨by decide, rfl, fun w hw => tl_inGW ((by decide +kernel : ∀ w ∈ u_ws RX6 TX6 3, w ∈ tables_1) w hw) ((by decide +kernel : ∀ w ∈ u_ws RX6 TX6 3, goodWord w = true) w hw), tyX6_ok, nmX6, rfl⟩
theorem tl_ck7 : tl_ck 7 RX7 TX7 4 tyX7 := ⟨by decide, rfl, fun w hw => tl_inGW ((by decide +kernel : ∀ w ∈ u_ws RX7 TX7 4, w ∈ tables_1) w hw) ((by decide +kernel : ∀ w ∈ u_ws RX7 TX7 4, goodWord w = true) w hw), tyX7_ok, nmX7, rfl⟩
theorem tl_ck8 : tl_ck 8 RX8 TX8 5 tyX8 := ⟨by decide, rfl, fun w hw => tl_inGW ((by decide +kernel : ∀ w ∈ u_ws RX8 TX8 5, w ∈ tables_1) w hw) ((by decide +kernel : ∀ w ∈ u_ws RX8 TX8 5, goodWord w = true) w hw), tyX8_ok, nmX8, rfl⟩
theorem tl_ck9 : tl_ck 9 RX9 TX9 8 tyX9 := ⟨by decide, rfl, fun w hw => tl_inGW ((by decide +kernel : ∀ w ∈ u_ws RX9 TX9 8, w ∈ tables_1) w hw) ((by decide +kernel : ∀ w ∈ u_ws RX9 TX9 8, goodWord w = true) w hw), tyX9_ok, nmX9, rfl⟩
theorem tl_ce_obj {dA : Nat → ClassId} {K a : Nat} {u : tl_S} (h : K < 10) : tl_ce dA K a u = .inr (K, tl_fs K a u.1) := by
  unfold tl_ce
  split <;> first | omega | rfl
theorem tl_fs_at {K a k : Nat} {I : Nat → Nat → Int32} (h : k < tl_n K) : (tl_fs K a I)[k]? = some (tl_fv K a I k) := by
  simp [tl_fs, h]
theorem tl_fs_set {K a k : Nat} {I : Nat → Nat → Int32} {x : Int32} (ho : tl_off K k = none) : (tl_fs K a I).set k (.int x) = tl_fs K a (tl_u I a k x) := by
  apply List.ext_getElem
  · simp [tl_fs]
  · intro j h1 h2
    simp only [List.getElem_set, tl_fs, List.getElem_map, List.getElem_range]
    by_cases e : k = j
    · subst e
      simp [tl_fv, ho, tl_u]
    · simp only [e, if_false]
      unfold tl_fv
      split
      · rfl
      · simp [tl_u, Ne.symm e]
section TLH
variable {E : tl_E} {M : tl_M} {X : State → Array Value → Code → Prop} {Z : List Frame → Array Value → State → State → Prop} {k n pc a : Nat} {u : tl_S} {ls : List (Option Value)} {st : List Value}
theorem tl_getf {K f i : Nat} {C : String} {T : u_T} {N : Nat} {ty : Nat → FieldType} {v : Value} (ck : tl_ck K C T N ty) (hd : decode M.2.1 pc = .ok (.getfield i, 3)) (hw : Cond.fieldLink M.1.cls i (T f).1 (T f).2.1 (T f).2.2.1 ∈ tl_GW) (hf : f < N) (hT : tl_T E.2.1 a = some K) (hv : tl_fv K a u.1 f = v)
    (kk : tl_R E M X Z k n (tl_HB E u) (pc + 3) ls (v :: st)) : tl_R E M X Z k n (tl_HB E u) pc ls (.ref a :: st) := by
  intro p e s m args below meth c hC hX H la locs hH hS hL
  obtain ⟨c0, c1, c2, c3, c4, c5⟩ := ck
  have hat := hH a K hT
  rw [tl_ce_obj c0] at hat
  exact va_get hC.1 hC.2.1 (hC.2.2.2.2.2.1) c2 hC.2.2.2.2.1 hC.2.2.2.2.2.2.2.2.1.1 (tl_P1 hat) 0 rfl c1 f hf (hC.2.2.2.2.2.1 _ hw) (fun _ h => h) (by rw [← hv]; exact tl_fs_at (by omega)) hd (kk p e s m args below meth c hC hX H la locs hH hS hL)
theorem tl_put {K f i : Nat} {C : String} {T : u_T} {N : Nat} {ty : Nat → FieldType} {x : Int32} (ck : tl_ck K C T N ty) (hd : decode M.2.1 pc = .ok (.putfield i, 3)) (hw : Cond.fieldLink M.1.cls i (T f).1 (T f).2.1 (T f).2.2.1 ∈ tl_GW) (hf : f < N) (hfin : (T f).2.2.2 = false) (ho : tl_off K f = none)
    (hn : narrow (ty f) (.int x) = .int x) (hfit : fits (ty f) (.int x) = true) (hT : tl_T E.2.1 a = some K)
    (kk : tl_R E M X Z k n (tl_HB E (tl_u u.1 a f x, u.2)) (pc + 3) ls st) : tl_R E M X Z k n (tl_HB E u) pc ls (.int x :: .ref a :: st) := by
  intro p e s m args below meth c hC hX H la locs hH hS hL
  obtain ⟨c0, c1, c2, c3, c4, c5⟩ := ck
  have hts := hC.2.2.2.2.2.1
  have hK := hC.2.2.2.2.2.2.2.2.1.1
  have hat := hH a K hT
  rw [tl_ce_obj c0] at hat
  have hap := va_apart (own := M.1.cls) hts c2 ty c3 c4 hK c1
  obtain ⟨r, h1, cell, q1, q2, q3, q4⟩ := hat
  have hr : r = (C, T, N) := Option.some.inj (h1.symm.trans c1)
  subst hr
  obtain ⟨hSl, hfc, kC, hkC, hkind⟩ := hK.1 K _ c1
  obtain ⟨cf, kf, fi, fd, hi, hsl⟩ := hSl f hf
  have hlay := hts _ (c2 _ (u_in_lay hf))
  unfold u_lay at hlay
  rw [if_neg (by rw [hfin]; decide)] at hlay
  have hst := (u_facts hfc hkC (u_lays hts c2 hf) hi).1
  have h6 := u_store hfc hkC hkind hlay hi (c3 f hf) hn hfit
  refine W.putK hC.1 hC.2.1 (f := fd) ⟨hC.2.2.2.2.1, hts _ hw, ⟨_, _, _, hi⟩, hst⟩ (by rw [q2]; exact h6) q1 q3 (by rw [hsl]; exact k2_hasslot (q4 f hf)) rfl rfl hd fun H' e1 e2 e3 => ?_
  rw [hsl] at e1 ⊢
  refine kk p e s m args below meth c hC hX H' la _ ?_ (hS.put e2 e3 (tl_T_le hT)) hL
  refine tl_HB_put hH hT ?_ e3 (fun q hq => by funext j; simp [tl_u, hq]) (fun _ _ => rfl) (fun _ _ => rfl)
  rw [tl_ce_obj c0]
  refine ⟨_, c1, t_OB.to (V := updV (vp_V (tl_fs K a u.1)) f (.int x)) ⟨_, e1, q2, q3, t_set q4 hap hf (.int x)⟩ (fun j _ => ?_)⟩
  rw [vp_updV_set (by simp [tl_fs]; omega), tl_fs_set ho]
theorem tl_cald {K N j : Nat} {i : Int32} (hce : ∀ (dA : Nat → ClassId) (u : tl_S), tl_ce dA K a u = .inl (dA 1, N, .inl (u.1 a))) (hd : decode M.2.1 pc = .ok (.caload, 1)) (hT : tl_T E.2.1 a = some K) (hin : vp_in i N) (hj : i.toNatClampNeg = j)
    (kk : tl_R E M X Z k n (tl_HB E u) (pc + 1) ls (.int (u.1 a j) :: st)) : tl_R E M X Z k n (tl_HB E u) pc ls (.int i :: .ref a :: st) := by
  intro p e s m args below meth c hC hX H la locs hH hS hL
  have hat := hH a K hT
  rw [hce] at hat
  subst hj
  exact va_cald hC.1 hC.2.1 hC.2.2.2.2.2.2.2.2.1.1 (tl_P1 hat) 0 1 rfl rfl hin hd (kk p e s m args below meth c hC hX H la locs hH hS hL)
theorem tl_zald {K N j : Nat} {i : Int32} (hce : ∀ (dA : Nat → ClassId) (u : tl_S), tl_ce dA K a u = .inl (dA 2, N, .inl (u.1 a))) (hd : decode M.2.1 pc = .ok (.baload, 1)) (hT : tl_T E.2.1 a = some K) (hin : vp_in i N) (hj : i.toNatClampNeg = j)
    (kk : tl_R E M X Z k n (tl_HB E u) (pc + 1) ls (.int (u.1 a j) :: st)) : tl_R E M X Z k n (tl_HB E u) pc ls (.int i :: .ref a :: st) := by
  intro p e s m args below meth c hC hX H la locs hH hS hL
  have hat := hH a K hT
  rw [hce] at hat
  subst hj
  exact va_zald hC.1 hC.2.1 hC.2.2.2.2.2.2.2.2.1.1 (tl_P1 hat) 0 2 rfl rfl hin hd (kk p e s m args below meth c hC hX H la locs hH hS hL)
theorem tl_cast {K N j : Nat} {i x : Int32} (hce : ∀ (dA : Nat → ClassId) (u : tl_S), tl_ce dA K a u = .inl (dA 1, N, .inl (u.1 a))) (hd : decode M.2.1 pc = .ok (.castore, 1)) (hT : tl_T E.2.1 a = some K) (hin : vp_in i N) (hj : i.toNatClampNeg = j) (hx : narrow .char (.int x) = .int x) 
    (kk : tl_R E M X Z k n (tl_HB E (tl_u u.1 a j x, u.2)) (pc + 1) ls st) : tl_R E M X Z k n (tl_HB E u) pc ls (.int x :: .int i :: .ref a :: st) := by
  intro p e s m args below meth c hC hX H la locs hH hS hL
  have hat := hH a K hT
  rw [hce] at hat
  subst hj
  have hK := hC.2.2.2.2.2.2.2.2.1.1
  refine W.cast hC.1 hC.2.1 hat ((hK.2 1 _ rfl).1 N (fun j => .int (u.1 a j))) (fun q => by cases q) (by show ¬ (i < 0 ∨ (arrV _ _ _).slots.size ≤ _); rw [arrV_size]; exact hin) rfl rfl hd fun H1 e1 z oq => ?_
  refine kk p e s m args below meth c hC hX H1 la _ ?_ (hS.put z oq (tl_T_le hT)) hL
  refine tl_HB_put hH hT ?_ oq (fun q hq => by funext j; simp [tl_u, hq]) (fun _ _ => rfl) (fun _ _ => rfl)
  rw [hce]
  show H1[a]? = some (vp_cell _ _)
  rw [e1]
  show some ((vp_cell _ _).setSlot _ _) = _
  rw [vp_cell_i, vp_cell_i, arrV_store]
  congr 2
  funext q
  by_cases hq : q = i.toNatClampNeg
  · subst hq
    simp [updV, tl_u, hx]
  · simp [updV, tl_u, hq]
theorem tl_zast {K N j : Nat} {i x : Int32} (hce : ∀ (dA : Nat → ClassId) (u : tl_S), tl_ce dA K a u = .inl (dA 2, N, .inl (u.1 a))) (hd : decode M.2.1 pc = .ok (.bastore, 1)) (hT : tl_T E.2.1 a = some K) (hin : vp_in i N) (hj : i.toNatClampNeg = j) (hx : narrow .boolean (.int x) = .int x) 
    (kk : tl_R E M X Z k n (tl_HB E (tl_u u.1 a j x, u.2)) (pc + 1) ls st) : tl_R E M X Z k n (tl_HB E u) pc ls (.int x :: .int i :: .ref a :: st) := by
  intro p e s m args below meth c hC hX H la locs hH hS hL
  have hat := hH a K hT
  rw [hce] at hat
  subst hj
  have hK := hC.2.2.2.2.2.2.2.2.1.1
  refine W.zast hC.1 hC.2.1 hat ((hK.2 2 _ rfl).1 N (fun j => .int (u.1 a j))) (fun q => by cases q) (by show ¬ (i < 0 ∨ (arrV _ _ _).slots.size ≤ _); rw [arrV_size]; exact hin) rfl rfl hd fun H1 e1 z oq => ?_
  refine kk p e s m args below meth c hC hX H1 la _ ?_ (hS.put z oq (tl_T_le hT)) hL
  refine tl_HB_put hH hT ?_ oq (fun q hq => by funext j; simp [tl_u, hq]) (fun _ _ => rfl) (fun _ _ => rfl)
  rw [hce]
  show H1[a]? = some (vp_cell _ _)
  rw [e1]
  show some ((vp_cell _ _).setSlot _ _) = _
  rw [vp_cell_i, vp_cell_i, arrV_store]
  congr 2
  funext q
  by_cases hq : q = i.toNatClampNeg
  · subst hq
    simp [updV, tl_u, hx]
  · simp [updV, tl_u, hq]
theorem tl_aald {K N t j b : Nat} {i : Int32} {C : String} {f : tl_S → Nat → Option Nat} (hce : ∀ (dA : Nat → ClassId) (u : tl_S), tl_ce dA K a u = .inl (dA t, N, .inr (.inr (.inr (.inr (f u)))))) (ht : ∀ dA : Nat → ClassId, (tl_tys dA)[t]? = some (dA t, .object C)) (hd : decode M.2.1 pc = .ok (.aaload, 1)) (hT : tl_T E.2.1 a = some K) (hin : vp_in i N) (hj : i.toNatClampNeg = j) (hb : f u j = some b)
    (kk : tl_R E M X Z k n (tl_HB E u) (pc + 1) ls (.ref b :: st)) : tl_R E M X Z k n (tl_HB E u) pc ls (.int i :: .ref a :: st) := by
  intro p e s m args below meth c hC hX H la locs hH hS hL
  have hat := hH a K hT
  rw [hce] at hat
  subst hj
  refine va_aldq hC.1 hC.2.1 hC.2.2.2.2.2.2.2.2.1.1 (tl_P1 hat) 0 t rfl (ht _) hin hd ?_
  rw [hb]
  exact kk p e s m args below meth c hC hX H la locs hH hS hL
/-- a row of orders: an order is put at its place -/
theorem tl_aast {j b : Nat} {i : Int32} (hd : decode M.2.1 pc = .ok (.aastore, 1)) (hT : tl_T E.2.1 a = some 21) (hTb : tl_T E.2.1 b = some 8) (hin : vp_in i 6) (hj : i.toNatClampNeg = j)
    (kk : tl_R E M X Z k n (tl_HB E (u.1, tl_uO u.2.1 a j b, u.2.2)) (pc + 1) ls st) : tl_R E M X Z k n (tl_HB E u) pc ls (.ref b :: .int i :: .ref a :: st) := by
  intro p e s m args below meth c hC hX H la locs hH hS hL
  have hat := hH a 21 hT
  have hatb := hH b 8 hTb
  subst hj
  have hK := hC.2.2.2.2.2.2.2.2.1.1
  have hlt : i.toNatClampNeg < 6 := Nat.not_le.mp fun q => hin (Or.inr q)
  have h0 : ¬ i < 0 := fun q => hin (Or.inl q)
  obtain ⟨r', hr', cellV, g1, g2, g3, -⟩ := hatb
  have hr2 : r' = (RX8, TX8, 5) := Option.some.inj (hr'.symm.trans (show vwCl[8]? = some (RX8, TX8, 5) from rfl))
  have hcls := (hK.1 8 (RX8, TX8, 5) rfl).2
  obtain ⟨kA, comp, k1, k2, k3, -⟩ := (hK.2 7 _ rfl).2
  have hcomp : comp = E.2.2.1.1 8 := Option.some.inj (k3.symm.trans hcls.1)
  subst hcomp
  obtain ⟨kC, hkC, -⟩ := hcls.2
  refine W.aast hC.1 hC.2.1 hat (fun q h => by cases h) (fun h => by cases h) k1 k2 rfl hkC ⟨h0, by show _ < (arrV _ _ _).slots.size; rw [arrV_size]; exact hlt⟩ g1 (fun q h => by rw [g3] at h; cases h) (by rw [g2]; exact hkC) (by rw [g2]; exact va_assign hcls) rfl rfl hd fun H1 e1 z oq => ?_
  refine kk p e s m args below meth c hC hX H1 la _ ?_ (hS.put z oq (tl_T_le hT)) hL
  refine tl_HB_put hH hT ?_ oq (fun _ _ => rfl) (fun q hq => by funext j; simp [tl_uO, hq]) (fun _ _ => rfl)
  show H1[a]? = some (vp_cell _ _)
  rw [e1]
  show some ((vp_cell _ _).setSlot _ _) = _
  rw [vp_cell_q, vp_cell_q, arrV_store]
  congr 2
  funext q
  by_cases hq : q = i.toNatClampNeg
  · subst hq
    simp [updV, tl_uO, va_rf]
  · simp [updV, tl_uO, hq]
theorem tl_alenC {v : Int32} (hd : decode M.2.1 pc = .ok (.arraylength, 1)) (hT : tl_T E.2.1 a = some 11) (hv : Int32.ofNat 120 = v)
    (kk : tl_R E M X Z k n (tl_HB E u) (pc + 1) ls (.int v :: st)) : tl_R E M X Z k n (tl_HB E u) pc ls (.ref a :: st) := by
  intro p e s m args below meth c hC hX H la locs hH hS hL
  exact va_alen hC.1 hC.2.1 hC.2.2.2.2.2.2.2.2.1.1 (tl_P1 (hH a 11 hT)) 0 1 rfl rfl hv hd (kk p e s m args below meth c hC hX H la locs hH hS hL)
end TLH
