/-! The world in the making: cells are made one behind the other. -/
def tl_fu (F : Nat → va_E) (a : Nat) (e : va_E) : Nat → va_E := fun q => if q = a then e else F q
def tl_G (E : tl_E) (F : Nat → va_E) (n : Nat) (H : Heap) : Prop := H.size = n ∧ ∀ q, E.2.1 ≤ q → q < n → va_at E.2.2.1 vwCl (q, F q) H
theorem tl_fus (F : Nat → va_E) (a : Nat) (e : va_E) : tl_fu F a e a = e := if_pos rfl
theorem tl_fun {F : Nat → va_E} {a q : Nat} {e : va_E} (h : q ≠ a) : tl_fu F a e q = F q := if_neg h
theorem tg_push {E : tl_E} {F : Nat → va_E} {n : Nat} {H H1 : Heap} {e : va_E} (h : tl_G E F n H) (hz : H1.size = n + 1) (ho : ∀ q : Nat, q < n → H1[q]? = H[q]?) (hn : va_at E.2.2.1 vwCl (n, e) H1) : tl_G E (tl_fu F n e) (n + 1) H1 := by
  refine ⟨hz, fun q h1 h2 => ?_⟩
  unfold tl_fu
  by_cases c : q = n
  · rw [if_pos c, c]; exact hn
  · rw [if_neg c]
    exact (h.2 q h1 (by omega)).kept (ho q (by omega))
theorem tg_set {E : tl_E} {F : Nat → va_E} {n a : Nat} {H H1 : Heap} {e : va_E} (h : tl_G E F n H) (hz : H1.size = H.size) (ho : ∀ q : Nat, q ≠ a → H1[q]? = H[q]?) (hn : va_at E.2.2.1 vwCl (a, e) H1) : tl_G E (tl_fu F a e) n H1 := by
  refine ⟨hz.trans h.1, fun q h1 h2 => ?_⟩
  unfold tl_fu
  by_cases c : q = a
  · rw [if_pos c, c]; exact hn
  · rw [if_neg c]
    exact (h.2 q h1 h2).kept (ho q c)
section TLG
variable {E : tl_E} {M N : tl_M} {X : State → Array Value → Code → Prop} {Z : List Frame → Array Value → State → State → Prop} {k n pc sz a : Nat} {F F1 : Nat → va_E} {ls : List (Option Value)} {st rest : List Value} {HP : Heap → Prop}
theorem tg_obj {i : Nat} (hd : decode M.2.1 pc = .ok (.invokespecial i, 3)) (hw : Cond.methodLink M.1.cls i Lib.objectInit ∈ tl_GW) (hf : 1 ≤ M.2.2.2.2.frames) (hl2 : 2 * (0 : Nat) + (st.map fun v => v.category).sum + 12 ≤ M.2.2.2.2.locals) (kk : tl_R E M X Z k n HP (pc + 3) ls st) : tl_R E M X Z k n HP pc ls (.ref a :: st) := by
  intro p e s m args below meth c hC hX H la locs hH hS hL
  have hts := hC.2.2.2.2.2.1
  exact W.objInit hC.1 hC.2.1 hC.2.2.2.2.1 (hts _ hw) (hts _ im_objInit) (hts _ cd_objInit) rfl (show la.size = _ from hL.2.1.trans hC.2.2.2.1.symm) rfl hd hf hl2 (kk p e s m args below meth c hC hX H la locs hH hS hL)
theorem tg_new {K i NN : Nat} {C : String} {T : u_T} {ty : Nat → FieldType} {fs : List Value} (ck : tl_ck K C T NN ty) (hd : decode M.2.1 pc = .ok (.new i, 3)) (hcl : Cond.classLink M.1.cls i C ∈ tl_GW) (hins : Cond.instantiable C NN ∈ tl_GW) (hini : Cond.initialized C ∈ tl_GW) (hfs : ∀ j, j < NN → defaultValue (ty j) = vp_V fs j) (hc : k + 1 ≤ M.2.2.2.2.cells) (hs : n + NN ≤ M.2.2.2.2.slots)
    (kk : tl_R E M X Z (k + 1) (n + NN) (tl_G E (tl_fu F sz (.inr (K, fs))) (sz + 1)) (pc + 3) ls (.ref sz :: st)) : tl_R E M X Z k n (tl_G E F sz) pc ls st := by
  intro p e s m args below meth c hC hX H la locs hH hS hL
  obtain ⟨c0, c1, c2, c3, c4, c5⟩ := ck
  have hts := hC.2.2.2.2.2.1
  have hK := hC.2.2.2.2.2.2.2.2.1.1
  have hKn := hK.1 K _ c1
  obtain ⟨hz, hH⟩ := hH
  subst hz
  refine W.newcK hC.1 hC.2.1 hC.2.2.2.2.1 (hts _ hcl) (hts _ hins) (hts _ hini) rfl hd hc hs hKn.2.1 rfl fun H1 kC hkC e1 z1 o1 => ?_
  exact kk p e s m args below meth c hC hX H1 la locs (tg_push ⟨rfl, hH⟩ z1 o1 ⟨_, c1, (u_born ty hts c2 hKn hkC e1 c3).to hfs⟩) ⟨Nat.le_trans hS.1 (by omega), fun x h1 h2 => (o1 x (Nat.lt_of_lt_of_le h1 hS.1)).trans (hS.2.1 x h1 h2), hS.2.2⟩ hL
theorem tg_newa {atype : ArrayType} {t NN : Nat} {ty : FieldType} {nn : Int32} {a0 : vp_A} (hd : decode M.2.1 pc = .ok (.newarray atype, 2)) (harr : Cond.arrayClass (newarray.typeOf atype) ∈ tl_GW) (hty : newarray.typeOf atype = ty) (htys : (tl_tys E.2.2.2)[t]? = some (E.2.2.2 t, ty)) (hprim : ∀ (s : State) (c : ClassId), va_RA s c ty → s.vm.findClass ("[" ++ ty.toString) = some c) (ha : ∀ cA : ClassId, vp_cell cA a0 = arrV cA NN (fun _ => defaultValue ty)) (hn : ¬ nn < 0) (hN : nn.toNatClampNeg = NN) (hbytes : NN * componentBytes ty ≤ 536870912) (hc : k + 1 ≤ M.2.2.2.2.cells) (hs : n + NN ≤ M.2.2.2.2.slots)
    (kk : tl_R E M X Z (k + 1) (n + NN) (tl_G E (tl_fu F sz (.inl (E.2.2.2 t, a0))) (sz + 1)) (pc + 2) ls (.ref sz :: st)) : tl_R E M X Z k n (tl_G E F sz) pc ls (.int nn :: st) := by
  intro p e s m args below meth c hC hX H la locs hH hS hL
  subst hty
  have hts := hC.2.2.2.2.2.1
  have hK := hC.2.2.2.2.2.2.2.2.1.1
  obtain ⟨hz, hH⟩ := hH
  subst hz
  refine va_newaK hC.1 hC.2.1 (hts _ harr) rfl hd rfl hn hN hbytes hc hs rfl fun H1 cA e1 z1 o1 hAr hNm => ?_
  have hcA : cA = E.2.2.2 t := Option.some.inj (hNm.symm.trans (hprim s _ (hK.2 t _ htys).2))
  subst hcA
  refine kk p e s m args below meth c hC hX H1 la locs (tg_push ⟨rfl, hH⟩ z1 o1 ?_) ⟨Nat.le_trans hS.1 (by omega), fun x h1 h2 => (o1 x (Nat.lt_of_lt_of_le h1 hS.1)).trans (hS.2.1 x h1 h2), hS.2.2⟩ hL
  show H1[H.size]? = some (vp_cell _ _)
  rw [ha]; exact e1
theorem tg_newq {i t NN : Nat} {C : String} {nn : Int32} (hd : decode M.2.1 pc = .ok (.anewarray i, 3)) (hcl : Cond.classLink M.1.cls i C ∈ tl_GW) (hA : C ∈ tl_NA) (htys : (tl_tys E.2.2.2)[t]? = some (E.2.2.2 t, .object C)) (hn : ¬ nn < 0) (hN : nn.toNatClampNeg = NN) (hbytes : NN * 4 ≤ 536870912) (hc : k + 1 ≤ M.2.2.2.2.cells) (hs : n + NN ≤ M.2.2.2.2.slots)
    (kk : tl_R E M X Z (k + 1) (n + NN) (tl_G E (tl_fu F sz (.inl (E.2.2.2 t, NN, .inr (.inr (.inr (.inr (fun _ => none))))))) (sz + 1)) (pc + 3) ls (.ref sz :: st)) : tl_R E M X Z k n (tl_G E F sz) pc ls (.int nn :: st) := by
  intro p e s m args below meth c hC hX H la locs hH hS hL
  subst hN
  have hts := hC.2.2.2.2.2.1
  have hKK := hC.2.2.2.2.2.2.2.2.1
  obtain ⟨hz, hH⟩ := hH
  subst hz
  refine W.anew hC.1 hC.2.1 hC.2.2.2.2.1 (hts _ hcl) (va_AO.use (hKK.2.1 C hA)) rfl hd rfl hn hbytes hc hs fun cA kA comp f1 f2 f3 f4 => ?_
  obtain ⟨kA', comp', -, -, -, g4⟩ : ∃ (kA : Class) (comp : ClassId), s.vm.classes[E.2.2.2 t]? = some kA ∧ kA.kind = .array comp (.object C) ∧ s.vm.findClass C = some comp ∧ s.vm.findClass ("[" ++ (FieldType.object C).toString) = some (E.2.2.2 t) := (hKK.1.2 t _ htys).2
  have hcA : cA = E.2.2.2 t := Option.some.inj (f1.symm.trans g4)
  subst hcA
  generalize hH1 : H.push ({ cls := E.2.2.2 t, slots := Array.replicate nn.toNatClampNeg .null, vm := .none } : Cell) = H1
  have z1 : H1.size = H.size + 1 := by rw [← hH1, Array.size_push]
  have e1 : H1[H.size]? = some (arrV (E.2.2.2 t) nn.toNatClampNeg (fun _ => .null)) := by rw [← hH1, Array.getElem?_push_size, ← arrV_new]
  have o1 : ∀ q : Nat, q < H.size → H1[q]? = H[q]? := fun q hq => by rw [← hH1, Array.getElem?_push, if_neg (Nat.ne_of_lt hq)]
  refine kk p e s m args below meth c hC hX H1 la locs (tg_push ⟨rfl, hH⟩ z1 o1 ?_) ⟨Nat.le_trans hS.1 (by omega), fun x h1 h2 => (o1 x (Nat.lt_of_lt_of_le h1 hS.1)).trans (hS.2.1 x h1 h2), hS.2.2⟩ hL
  show H1[H.size]? = some (vp_cell _ _)
  rw [vp_cell_q]
  exact e1
theorem tg_get {K f i NN : Nat} {C : String} {T : u_T} {ty : Nat → FieldType} {v : Value} {fs : List Value} (ck : tl_ck K C T NN ty) (hd : decode M.2.1 pc = .ok (.getfield i, 3)) (hw : Cond.fieldLink M.1.cls i (T f).1 (T f).2.1 (T f).2.2.1 ∈ tl_GW) (hf : f < NN) (hFa : F a = .inr (K, fs)) (hv : fs[f]? = some v) (ha : E.2.1 ≤ a ∧ a < sz)
    (kk : tl_R E M X Z k n (tl_G E F sz) (pc + 3) ls (v :: st)) : tl_R E M X Z k n (tl_G E F sz) pc ls (.ref a :: st) := by
  intro p e s m args below meth c hC hX H la locs hH hS hL
  obtain ⟨c0, c1, c2, c3, c4, c5⟩ := ck
  have hat := hH.2 a ha.1 ha.2
  rw [hFa] at hat
  exact va_get hC.1 hC.2.1 (hC.2.2.2.2.2.1) c2 hC.2.2.2.2.1 hC.2.2.2.2.2.2.2.2.1.1 (tl_P1 hat) 0 rfl c1 f hf (hC.2.2.2.2.2.1 _ hw) (fun _ h => h) hv hd (kk p e s m args below meth c hC hX H la locs hH hS hL)
theorem tg_put {K f i NN : Nat} {C : String} {T : u_T} {ty : Nat → FieldType} {v : Value} {fs : List Value} (ck : tl_ck K C T NN ty) (hd : decode M.2.1 pc = .ok (.putfield i, 3)) (hw : Cond.fieldLink M.1.cls i (T f).1 (T f).2.1 (T f).2.2.1 ∈ tl_GW) (hf : f < NN) (hfin : (T f).2.2.2 = false) (hn : narrow (ty f) v = v) (hfit : fits (ty f) v = true) (hFa : F a = .inr (K, fs)) (hlf : f < fs.length) (ha : E.2.1 ≤ a ∧ a < sz)
    (kk : tl_R E M X Z k n (tl_G E (tl_fu F a (.inr (K, fs.set f v))) sz) (pc + 3) ls st) : tl_R E M X Z k n (tl_G E F sz) pc ls (v :: .ref a :: st) := by
  intro p e s m args below meth c hC hX H la locs hH hS hL
  obtain ⟨c0, c1, c2, c3, c4, c5⟩ := ck
  have hts := hC.2.2.2.2.2.1
  have hK := hC.2.2.2.2.2.2.2.2.1.1
  have hat := hH.2 a ha.1 ha.2
  rw [hFa] at hat
  have hap := va_apart (own := M.1.cls) hts c2 ty c3 c4 hK c1
  obtain ⟨r, h1, cell, q1, q2, q3, q4⟩ := hat
  have hr : r = (C, T, NN) := Option.some.inj (h1.symm.trans c1)
  subst hr
  obtain ⟨hSl, hfc, kC, hkC, hkind⟩ := hK.1 K _ c1
  obtain ⟨cf, kf, fi, fd, hi, hsl⟩ := hSl f hf
  have hlay := hts _ (c2 _ (u_in_lay hf))
  unfold u_lay at hlay
  rw [if_neg (by rw [hfin]; decide)] at hlay
  have hst := (u_facts hfc hkC (u_lays hts c2 hf) hi).1
  have h6 := u_store hfc hkC hkind hlay hi (c3 f hf) hn hfit
  refine W.putK hC.1 hC.2.1 (f := fd) ⟨hC.2.2.2.2.1, hts _ hw, ⟨_, _, _, hi⟩, hst⟩ (by rw [q2]; exact h6) q1 q3 (by rw [hsl]; exact k2_hasslot (q4 f hf)) rfl rfl hd fun H' e1 e2 e3 => ?_
  rw [hsl] at e1 ⊢
  exact kk p e s m args below meth c hC hX H' la _ (tg_set hH e2 e3 ⟨_, c1, t_OB.to (V := updV (vp_V fs) f v) ⟨_, e1, q2, q3, t_set q4 hap hf v⟩ (fun j _ => vp_updV_set hlf v j)⟩) (hS.put e2 e3 ha.1) hL
theorem tg_putF {K f i NN : Nat} {C : String} {T : u_T} {ty : Nat → FieldType} {v : Value} {fs : List Value} (ck : tl_ck K C T NN ty) (hd : decode M.2.1 pc = .ok (.putfield i, 3)) (hw : Cond.fieldLink M.1.cls i (T f).1 (T f).2.1 (T f).2.2.1 ∈ tl_GW) (hf : f < NN) (hfin : (T f).2.2.2 = true) (hdecl : (T f).1 = M.1.cls) (hini : M.1.name = "<init>") (hn : narrow (ty f) v = v) (hfit : fits (ty f) v = true) (hFa : F a = .inr (K, fs)) (hlf : f < fs.length) (ha : E.2.1 ≤ a ∧ a < sz)
    (kk : tl_R E M X Z k n (tl_G E (tl_fu F a (.inr (K, fs.set f v))) sz) (pc + 3) ls st) : tl_R E M X Z k n (tl_G E F sz) pc ls (v :: .ref a :: st) := by
  intro p e s m args below meth c hC hX H la locs hH hS hL
  obtain ⟨c0, c1, c2, c3, c4, c5⟩ := ck
  have hts := hC.2.2.2.2.2.1
  have hown := hC.2.2.2.2.1
  have hK := hC.2.2.2.2.2.2.2.2.1.1
  have hat := hH.2 a ha.1 ha.2
  rw [hFa] at hat
  have hap := va_apart (own := M.1.cls) hts c2 ty c3 c4 hK c1
  obtain ⟨r, h1, cell, q1, q2, q3, q4⟩ := hat
  have hr : r = (C, T, NN) := Option.some.inj (h1.symm.trans c1)
  subst hr
  obtain ⟨hSl, hfc, kC, hkC, hkind⟩ := hK.1 K _ c1
  obtain ⟨cf, kf, fi, fd, hi, hsl⟩ := hSl f hf
  have hlay := hts _ (c2 _ (u_in_lay hf))
  unfold u_lay at hlay
  rw [if_pos hfin] at hlay
  have hst := (u_facts hfc hkC (u_lays hts c2 hf) hi).1
  have hcf : m.cls = cf := by
    obtain ⟨_, _, c', _, _, _, -, -, hf', -, -, -, hown2, -⟩ := Cond.laysFinal_spec hlay
    have e1 : c' = cf := by have := hi.symm.trans hf'; simp at this; exact this.1.symm
    rw [hdecl] at hown2
    rw [← e1]; exact Option.some.inj (hown.symm.trans hown2)
  have h6 := u_fits hfc hkC hkind (Or.inr hlay) hi (c3 f hf) hn hfit
  refine W.putFinK hC.1 hC.2.1 hown (hts _ hw) hi hst hcf (hC.2.2.2.2.2.2.2.1.trans hini) (by rw [q2]; exact h6) q1 q3 (by rw [hsl]; exact k2_hasslot (q4 f hf)) rfl rfl hd fun H' e1 e2 e3 => ?_
  rw [hsl] at e1 ⊢
  exact kk p e s m args below meth c hC hX H' la _ (tg_set hH e2 e3 ⟨_, c1, t_OB.to (V := updV (vp_V fs) f v) ⟨_, e1, q2, q3, t_set q4 hap hf v⟩ (fun j _ => vp_updV_set hlf v j)⟩) (hS.put e2 e3 ha.1) hL
/-- a reference into a row -/
theorem tg_aast {t K NN N1 j b : Nat} {C : String} {T : u_T} {ty : Nat → FieldType} {i : Int32} {f : Nat → Option Nat} {fs : List Value} (ck : tl_ck K C T NN ty) (hd : decode M.2.1 pc = .ok (.aastore, 1)) (hFa : F a = .inl (E.2.2.2 t, N1, .inr (.inr (.inr (.inr f))))) (htys : (tl_tys E.2.2.2)[t]? = some (E.2.2.2 t, .object C)) (hFb : F b = .inr (K, fs)) (hi : i = nI j) (hj : j < N1) (hj2 : j < 2147483648) (ha : E.2.1 ≤ a ∧ a < sz) (hb : E.2.1 ≤ b ∧ b < sz)
    (kk : tl_R E M X Z k n (tl_G E (tl_fu F a (.inl (E.2.2.2 t, N1, .inr (.inr (.inr (.inr (fun q => if q = j then some b else f q))))))) sz) (pc + 1) ls st) : tl_R E M X Z k n (tl_G E F sz) pc ls (.ref b :: .int i :: .ref a :: st) := by
  intro p e s m args below meth c hC hX H la locs hH hS hL
  obtain ⟨c0, c1, c2, c3, c4, c5⟩ := ck
  have hat := hH.2 a ha.1 ha.2
  rw [hFa] at hat
  have hatb := hH.2 b hb.1 hb.2
  rw [hFb] at hatb
  have hin : vp_in i N1 := by rw [hi]; exact tp_ix hj hj2
  have hcl : i.toNatClampNeg = j := by rw [hi]; exact nI_clamp hj2
  subst hcl
  have hK := hC.2.2.2.2.2.2.2.2.1.1
  have h0 : ¬ i < 0 := fun q => hin (Or.inl q)
  obtain ⟨r', hr', cellV, g1, g2, g3, -⟩ := hatb
  have hcls := (hK.1 K _ c1).2
  obtain ⟨kA, comp, k1, k2, k3, -⟩ : ∃ (kA : Class) (comp : ClassId), s.vm.classes[E.2.2.2 t]? = some kA ∧ kA.kind = .array comp (.object C) ∧ s.vm.findClass C = some comp ∧ s.vm.findClass ("[" ++ (FieldType.object C).toString) = some (E.2.2.2 t) := (hK.2 t _ htys).2
  have hcomp : comp = E.2.2.1.1 K := Option.some.inj (k3.symm.trans hcls.1)
  subst hcomp
  obtain ⟨kC, hkC, -⟩ := hcls.2
  refine W.aast hC.1 hC.2.1 hat (fun q h => by cases h) (fun h => by cases h) k1 k2 rfl hkC ⟨h0, by show _ < (arrV _ _ _).slots.size; rw [arrV_size]; exact hj⟩ g1 (fun q h => by rw [g3] at h; cases h) (by rw [g2]; exact hkC) (by rw [g2]; exact va_assign hcls) rfl rfl hd fun H1 e1 z oq => ?_
  refine kk p e s m args below meth c hC hX H1 la _ (tg_set hH z oq ?_) (hS.put z oq ha.1) hL
  show H1[a]? = some (vp_cell _ _)
  rw [e1]
  show some ((vp_cell _ _).setSlot _ _) = _
  rw [vp_cell_q, vp_cell_q, arrV_store]
  congr 2
  funext q
  by_cases hq : q = i.toNatClampNeg
  · subst hq
    simp [updV, va_rf]
  · simp [updV, hq]
/-- what a constructor leaves -/
def tl_GQ (E : tl_E) (F : Nat → va_E) (n : Nat) : Option Value → Heap → Prop := fun r H => r = none ∧ tl_G E F n H
theorem tg_after {pc : Nat} (r : Option Value) (kk : r = none → tl_R E M X Z k n (tl_G E F sz) pc ls (r.toList ++ rest)) : tl_R E M X Z k n (tl_GQ E F sz r) pc ls (r.toList ++ rest) := by
  intro p e s m args below meth c hC hX H la locs hH hS hL
  exact kk hH.1 p e s m args below meth c hC hX H la locs hH.2 hS hL
theorem tg_callI {i b s1 : Nat} (hN : tl_Met E N [.ref b] (tl_G E F sz) (tl_GQ E F1 s1)) (hd : decode M.2.1 pc = .ok (.invokespecial i, 3)) (hc : tl_cI M N i 0) (hf : k + N.2.2.2.2.cells ≤ M.2.2.2.2.cells ∧ n + N.2.2.2.2.slots ≤ M.2.2.2.2.slots) (hr : (rest.map fun v => v.category).sum ≤ 8)
    (kk : tl_R E M X Z (k + N.2.2.2.2.cells) (n + N.2.2.2.2.slots) (tl_G E F1 s1) (pc + 3) ls rest) : tl_R E M X Z k n (tl_G E F sz) pc ls (.ref b :: rest) :=
  tl_callI (As := []) hN hd hc hf hr (fun r => tg_after r (fun e => by subst e; exact kk))
theorem tg_callIN {i b s1 : Nat} (hN : tl_Met E N [.ref b] (tl_G E F sz) (tl_GQ E F1 s1)) (hd : decode M.2.1 pc = .ok (.invokespecial i, 3)) (hc : tl_cIN M N i 0) (hf : k + N.2.2.2.2.cells ≤ M.2.2.2.2.cells ∧ n + N.2.2.2.2.slots ≤ M.2.2.2.2.slots) (hr : (rest.map fun v => v.category).sum ≤ 8)
    (kk : tl_R E M X Z (k + N.2.2.2.2.cells) (n + N.2.2.2.2.slots) (tl_G E F1 s1) (pc + 3) ls rest) : tl_R E M X Z k n (tl_G E F sz) pc ls (.ref b :: rest) :=
  tl_callIN (As := []) hN hd hc hf hr (fun r => tg_after r (fun e => by subst e; exact kk))
theorem tg_callS {i b s1 : Nat} (hN : tl_Met E N [.ref b] (tl_G E F sz) (tl_GQ E F1 s1)) (hd : decode M.2.1 pc = .ok (.invokestatic i, 3)) (hc : tl_cS M N i 1) (hf : k + N.2.2.2.2.cells ≤ M.2.2.2.2.cells ∧ n + N.2.2.2.2.slots ≤ M.2.2.2.2.slots) (hr : (rest.map fun v => v.category).sum ≤ 8)
    (kk : tl_R E M X Z (k + N.2.2.2.2.cells) (n + N.2.2.2.2.slots) (tl_G E F1 s1) (pc + 3) ls rest) : tl_R E M X Z k n (tl_G E F sz) pc ls (.ref b :: rest) :=
  tl_callS (As := [.ref b]) hN hd hc hf hr (fun r => tg_after r (fun e => by subst e; exact kk))
theorem tg_ret (hd : decode M.2.1 pc = .ok (.return_, 1)) (hr : M.2.2.2.1 = none) (hk : k ≤ M.2.2.2.2.cells) (hn2 : n ≤ M.2.2.2.2.slots) (e : F = F1) : tl_R E M X (tl_Z E M (tl_GQ E F1 sz)) k n (tl_G E F sz) pc ls [] :=
  tl_vret hd hr hk hn2 (fun H hH => ⟨rfl, e ▸ hH⟩)
end TLG
