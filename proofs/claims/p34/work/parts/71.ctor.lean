/-! Constructors: what they leave. -/
def tl_u0 (z : Nat) : tl_S := (fun q k => if tl_T z q = some 3 ∧ k = 4 then -1 else if tl_T z q = some 5 ∧ k = 14 then 4 else 0, fun q j => q + 1 + j, fun _ _ => 0)
def tl_g0 (E : tl_E) (q : Nat) : va_E := match tl_T E.2.1 q with
  | some K => tl_ce E.2.2.2 K q (tl_u0 E.2.1)
  | none => .inr (0, [])
theorem tl_g0_k {E : tl_E} {q K : Nat} (h : tl_T E.2.1 q = some K) : tl_g0 E q = tl_ce E.2.2.2 K q (tl_u0 E.2.1) := by
  unfold tl_g0
  rw [h]
theorem tl_u0_0 {z q K k : Nat} (h : tl_T z q = some K) (h3 : K ≠ 3) (h5 : K ≠ 5) (h13 : K ≠ 13) : (tl_u0 z).1 q k = 0 := by
  show (if tl_T z q = some 3 ∧ k = 4 then (-1 : Int32) else if tl_T z q = some 5 ∧ k = 14 then 4 else 0) = 0
  rw [h, if_neg (fun e => h3 (Option.some.inj e.1)), if_neg (fun e => h5 (Option.some.inj e.1))]
theorem tl_u0_3 {z q k : Nat} (h : tl_T z q = some 3) : (tl_u0 z).1 q k = if k = 4 then -1 else 0 := by
  show (if tl_T z q = some 3 ∧ k = 4 then (-1 : Int32) else if tl_T z q = some 5 ∧ k = 14 then 4 else 0) = _
  rw [h, if_neg (c := some 3 = some 5 ∧ k = 14) (fun e => absurd (Option.some.inj e.1) (by decide))]
  by_cases c : k = 4
  · rw [if_pos ⟨rfl, c⟩, if_pos c]
  · rw [if_neg (fun e => c e.2), if_neg c]
theorem tl_u0_5 {z q k : Nat} (h : tl_T z q = some 5) : (tl_u0 z).1 q k = if k = 14 then 4 else 0 := by
  show (if tl_T z q = some 3 ∧ k = 4 then (-1 : Int32) else if tl_T z q = some 5 ∧ k = 14 then 4 else 0) = _
  rw [h, if_neg (c := some 5 = some 3 ∧ k = 4) (fun e => absurd (Option.some.inj e.1) (by decide))]
  by_cases c : k = 14
  · rw [if_pos ⟨rfl, c⟩, if_pos c]
  · rw [if_neg (fun e => c e.2), if_neg c]
theorem tl_g0_0 {E : tl_E} {q K : Nat} (h : tl_T E.2.1 q = some K) (hK : K < 10) (ho : ∀ k, tl_off K k = none) (h3 : K ≠ 3) (h5 : K ≠ 5) : tl_g0 E q = .inr (K, List.replicate (tl_n K) (.int 0)) := by
  rw [tl_g0_k h, tl_ce_obj hK]
  congr 2
  unfold tl_fs
  refine List.ext_getElem (by simp) (fun i h1 h2 => ?_)
  rw [List.getElem_map, List.getElem_range, List.getElem_replicate]
  unfold tl_fv
  rw [ho, tl_u0_0 h h3 h5 (by omega)]
def tl_eqv (e e1 : va_E) : Prop := ∀ (D : va_G) (q : Nat) (H : Heap), va_at D vwCl (q, e) H → va_at D vwCl (q, e1) H
theorem tl_eqv_rf {e e1 : va_E} (h : e = e1) : tl_eqv e e1 := fun _ _ _ z => h ▸ z
theorem tl_arrV {c : ClassId} {N : Nat} {f g : Nat → Value} (h : ∀ j, j < N → f j = g j) : arrV c N f = arrV c N g := by
  unfold arrV
  congr 2
  funext j
  exact h j.1 j.2
theorem tl_eqv_row {c : ClassId} {N : Nat} {f g : Nat → Option Nat} (h : ∀ j, j < N → f j = g j) : tl_eqv (.inl (c, N, .inr (.inr (.inr (.inr f))))) (.inl (c, N, .inr (.inr (.inr (.inr g))))) := by
  intro D q H z
  have z : H[q]? = some (arrV c N (fun j => va_rf (f j))) := z
  show H[q]? = some (arrV c N (fun j => va_rf (g j)))
  rw [z, tl_arrV (fun j hj => by rw [h j hj])]
theorem tl_eqv_int {c : ClassId} {N : Nat} {f g : Nat → Int32} (h : ∀ j, j < N → f j = g j) : tl_eqv (.inl (c, N, .inl f)) (.inl (c, N, .inl g)) := by
  intro D q H z
  have z : H[q]? = some (arrV c N (fun j => .int (f j))) := z
  show H[q]? = some (arrV c N (fun j => .int (g j)))
  rw [z, tl_arrV (fun j hj => by rw [h j hj])]
def tl_ov (E : tl_E) (F : Nat → va_E) (lo hi : Nat) : Nat → va_E := fun q => if lo ≤ q ∧ q < hi then tl_g0 E q else F q
def tl_rw (E : tl_E) (F : Nat → va_E) (ra t N eb w i : Nat) : Nat → va_E := tl_fu (tl_ov E F eb (eb + w * i)) ra (.inl (E.2.2.2 t, N, .inr (.inr (.inr (.inr (fun j => if j < i then some (eb + w * j) else none))))))
theorem tl_ovi {E : tl_E} {F : Nat → va_E} {lo hi q : Nat} (h : lo ≤ q ∧ q < hi) : tl_ov E F lo hi q = tl_g0 E q := if_pos h
theorem tl_ovo {E : tl_E} {F : Nat → va_E} {lo hi q : Nat} (h : ¬ (lo ≤ q ∧ q < hi)) : tl_ov E F lo hi q = F q := if_neg h
theorem tl_rwr {E : tl_E} {F : Nat → va_E} {ra t N eb w i : Nat} : tl_rw E F ra t N eb w i ra = .inl (E.2.2.2 t, N, .inr (.inr (.inr (.inr (fun j => if j < i then some (eb + w * j) else none))))) := tl_fus _ _ _
theorem tl_rwi {E : tl_E} {F : Nat → va_E} {ra t N eb w i q : Nat} (h : q ≠ ra) (h2 : eb ≤ q ∧ q < eb + w * i) : tl_rw E F ra t N eb w i q = tl_g0 E q := (tl_fun h).trans (tl_ovi h2)
theorem tl_rwo {E : tl_E} {F : Nat → va_E} {ra t N eb w i q : Nat} (h : q ≠ ra) (h2 : ¬ (eb ≤ q ∧ q < eb + w * i)) : tl_rw E F ra t N eb w i q = F q := (tl_fun h).trans (tl_ovo h2)
theorem tl_rw0 {E : tl_E} {F : Nat → va_E} {ra t N eb w : Nat} (h : F ra = .inl (E.2.2.2 t, N, .inr (.inr (.inr (.inr (fun _ => none)))))) : tl_rw E F ra t N eb w 0 = F := by
  funext q
  by_cases c : q = ra
  · rw [c, tl_rwr, h]
    congr 6
  · rw [tl_rwo c (by omega)]
theorem tl_rwS {E : tl_E} {F : Nat → va_E} {ra t N eb w i : Nat} {e : va_E} (hw : 0 < w) : tl_fu (tl_ov E (tl_fu (tl_rw E F ra t N eb w i) (eb + w * i) e) (eb + w * i) (eb + w * i + w)) ra (.inl (E.2.2.2 t, N, .inr (.inr (.inr (.inr (fun q => if q = i then some (eb + w * i) else if q < i then some (eb + w * q) else none)))))) = tl_rw E F ra t N eb w (i + 1) := by
  have hm : w * (i + 1) = w * i + w := Nat.mul_succ w i
  funext q
  by_cases c : q = ra
  · rw [c, tl_fus, tl_rwr]
    congr 7
    funext j
    by_cases c1 : j = i
    · rw [if_pos c1, if_pos (by omega), c1]
    · rw [if_neg c1]
      by_cases c2 : j < i
      · rw [if_pos c2, if_pos (by omega)]
      · rw [if_neg c2, if_neg (by omega)]
  · rw [tl_fun c]
    by_cases c1 : eb + w * i ≤ q ∧ q < eb + w * i + w
    · rw [tl_ovi c1, tl_rwi c (by omega)]
    · rw [tl_ovo c1]
      have c3 : q ≠ eb + w * i := by omega
      rw [tl_fun c3]
      by_cases c2 : eb ≤ q ∧ q < eb + w * i
      · rw [tl_rwi c c2, tl_rwi c (by omega)]
      · rw [tl_rwo c c2, tl_rwo c (by omega)]
section TLL
variable {E : tl_E} {M N : tl_M} {X : State → Array Value → Code → Prop} {Z : List Frame → Array Value → State → State → Prop} {F : Nat → va_E}
theorem tg_call {k n pc sz s1 : Nat} {F1 : Nat → va_E} {ls : List (Option Value)} {rest : List Value} {i b : Nat} (hN : tl_Met E N [.ref b] (tl_G E F sz) (tl_GQ E F1 s1)) (hd : decode M.2.1 pc = .ok (.invokespecial i, 3)) (hc : tl_cI M N i 0 ∨ tl_cIN M N i 0) (hf : k + N.2.2.2.2.cells ≤ M.2.2.2.2.cells ∧ n + N.2.2.2.2.slots ≤ M.2.2.2.2.slots) (hr : (rest.map fun v => v.category).sum ≤ 8)
    (kk : tl_R E M X Z (k + N.2.2.2.2.cells) (n + N.2.2.2.2.slots) (tl_G E F1 s1) (pc + 3) ls rest) : tl_R E M X Z k n (tl_G E F sz) pc ls (.ref b :: rest) := by
  rcases hc with hc | hc
  · exact tg_callI hN hd hc hf hr kk
  · exact tg_callIN hN hd hc hf hr kk
/-- a constructor's contract -/
def tl_Ct (E : tl_E) (N : tl_M) (K w : Nat) (fs : List Value) : Prop := ∀ (F : Nat → va_E) (b : Nat), E.2.1 ≤ b → tl_T E.2.1 b = some K → F b = .inr (K, fs) → tl_Met E N [.ref b] (tl_G E F (b + 1)) (tl_GQ E (tl_ov E F b (b + w)) (b + w))
theorem tg_loop {a ra eb w t K NN Ka Na cnt p0 p2 tgt fi f ni ci k0 n0 : Nat} {off off2 : Int} {C Ca : String} {T Ta : u_T} {ty tya : Nat → FieldType} {fs0 fsa : List Value}
    (ck : tl_ck K C T NN ty) (cka : tl_ck Ka Ca Ta Na tya) (hML : M.2.2.1 = 2) (hza : E.2.1 ≤ a) (hae : a < eb) (hra : E.2.1 ≤ ra ∧ ra < eb) (hne : a ≠ ra) (hFa : F a = .inr (Ka, fsa)) (hfv : fsa[f]? = some (.ref ra)) (hf : f < Na)
    (hT : ∀ j, j < cnt → tl_T E.2.1 (eb + w * j) = some K) (hw : 0 < w) (hcnt : cnt < 1000) (htys : (tl_tys E.2.2.2)[t]? = some (E.2.2.2 t, .object C)) (hN : tl_Ct E N K w fs0) (hfs : ∀ j, j < NN → defaultValue (ty j) = vp_V fs0 j)
    (d0 : decode M.2.1 p0 = .ok (.iload_n 1, 1)) (push : ∀ {k n : Nat} {HP : Heap → Prop} {ls : List (Option Value)} {st : List Value}, tl_R E M X Z k n HP p2 ls (.int (nI cnt) :: st) → tl_R E M X Z k n HP (p0 + 1) ls st)
    (d2 : decode M.2.1 p2 = .ok (.if_icmp .ge off, 3)) (ht : (p2 : Int) + off = (tgt : Int)) (d3 : decode M.2.1 (p2 + 3) = .ok (.aload_n 0, 1)) (d4 : decode M.2.1 (p2 + 4) = .ok (.getfield fi, 3)) (hwf : Cond.fieldLink M.1.cls fi (Ta f).1 (Ta f).2.1 (Ta f).2.2.1 ∈ tl_GW)
    (d7 : decode M.2.1 (p2 + 7) = .ok (.iload_n 1, 1)) (d8 : decode M.2.1 (p2 + 8) = .ok (.new ni, 3)) (hcl : Cond.classLink M.1.cls ni C ∈ tl_GW) (hins : Cond.instantiable C NN ∈ tl_GW) (hini : Cond.initialized C ∈ tl_GW) (d11 : decode M.2.1 (p2 + 11) = .ok (.dup, 1)) (d12 : decode M.2.1 (p2 + 12) = .ok (.invokespecial ci, 3)) (hc : tl_cI M N ci 0 ∨ tl_cIN M N ci 0) (d15 : decode M.2.1 (p2 + 15) = .ok (.aastore, 1)) (d16 : decode M.2.1 (p2 + 16) = .ok (.iinc 1 1, 3)) (d19 : decode M.2.1 (p2 + 19) = .ok (.goto off2, 3)) (ht2 : ((p2 + 19 : Nat) : Int) + off2 = (p0 : Int))
    (hcell : k0 + cnt * (1 + N.2.2.2.2.cells) ≤ M.2.2.2.2.cells) (hslot : n0 + cnt * (NN + N.2.2.2.2.slots) ≤ M.2.2.2.2.slots)
    (fin : tl_R E M X Z (k0 + cnt * (1 + N.2.2.2.2.cells)) (n0 + cnt * (NN + N.2.2.2.2.slots)) (tl_G E (tl_rw E F ra t cnt eb w cnt) (eb + w * cnt)) tgt [some (.ref a), some (.int (nI cnt))] []) :
    ∀ m i, i + m = cnt → tl_R E M X Z (k0 + i * (1 + N.2.2.2.2.cells)) (n0 + i * (NN + N.2.2.2.2.slots)) (tl_G E (tl_rw E F ra t cnt eb w i) (eb + w * i)) p0 [some (.ref a), some (.int (nI i))] [] := by
  intro m
  induction m with
  | zero =>
    intro i hi
    have e : i = cnt := by omega
    subst e
    refine tl_iload_n (q := 1) d0 rfl (push (tl_icmp_ge d2 ht (fun _ => fin) (fun q => absurd ?_ q)))
    rw [tp_le (by omega) (by omega)]; exact Nat.le_refl _
  | succ m ih =>
    intro i hi
    have hlt : i < cnt := by omega
    have e1 : (i + 1) * (1 + N.2.2.2.2.cells) = i * (1 + N.2.2.2.2.cells) + (1 + N.2.2.2.2.cells) := Nat.succ_mul _ _
    have e2 : (i + 1) * (NN + N.2.2.2.2.slots) = i * (NN + N.2.2.2.2.slots) + (NN + N.2.2.2.2.slots) := Nat.succ_mul _ _
    have l1 : (i + 1) * (1 + N.2.2.2.2.cells) ≤ cnt * (1 + N.2.2.2.2.cells) := Nat.mul_le_mul_right _ (by omega)
    have l2 : (i + 1) * (NN + N.2.2.2.2.slots) ≤ cnt * (NN + N.2.2.2.2.slots) := Nat.mul_le_mul_right _ (by omega)
    have hm : w * (i + 1) = w * i + w := Nat.mul_succ w i
    have ih1 := ih (i + 1) (by omega)
    rw [e1, e2] at ih1
    have hb : E.2.1 ≤ eb + w * i := by omega
    have hTb := hT i hlt
    have hra2 : tl_rw E F ra t cnt eb w i a = .inr (Ka, fsa) := by rw [tl_rwo hne (by omega)]; exact hFa
    refine tl_iload_n (q := 1) d0 rfl (push (tl_icmp_ge d2 ht (fun q => absurd q ?_) (fun _ => ?_)))
    · rw [tp_le (by omega) (by omega)]; omega
    refine tl_aload_n (q := 0) d3 rfl (tg_get cka d4 hwf hf hra2 hfv ⟨hza, by omega⟩ ?_)
    refine tl_iload_n (q := 1) d7 rfl (tg_new ck d8 hcl hins hini hfs (by omega) (by omega) ?_)
    refine tl_dup d11 rfl ?_
    refine tg_call (hN _ (eb + w * i) hb hTb (tl_fus _ _ _)) d12 hc ⟨by omega, by omega⟩ (Nat.le_of_ble_eq_true rfl) ?_
    have hrow : tl_ov E (tl_fu (tl_rw E F ra t cnt eb w i) (eb + w * i) (.inr (K, fs0))) (eb + w * i) (eb + w * i + w) ra = .inl (E.2.2.2 t, cnt, .inr (.inr (.inr (.inr (fun j => if j < i then some (eb + w * j) else none))))) := by
      rw [tl_ovo (by omega), tl_fun (by omega), tl_rwr]
    have hobj : tl_ov E (tl_fu (tl_rw E F ra t cnt eb w i) (eb + w * i) (.inr (K, fs0))) (eb + w * i) (eb + w * i + w) (eb + w * i) = .inr (K, tl_fs K (eb + w * i) (tl_u0 E.2.1).1) := by
      rw [tl_ovi (by omega), tl_g0_k hTb, tl_ce_obj ck.1]
    refine tg_aast ck d15 hrow htys hobj rfl hlt (by omega) ⟨hra.1, by omega⟩ ⟨hb, by omega⟩ ?_
    rw [tl_rwS hw]
    refine tl_iinc (x := nI i) (v := nI (i + 1)) d16 rfl (nI_1 i) (by rw [hML]; decide) ?_
    refine tl_goto d19 ht2 ?_
    have e4 : eb + w * i + w = eb + w * (i + 1) := by omega
    rw [e4]
    have e5 : k0 + i * (1 + N.2.2.2.2.cells) + 1 + N.2.2.2.2.cells = k0 + (i * (1 + N.2.2.2.2.cells) + (1 + N.2.2.2.2.cells)) := by omega
    have e6 : n0 + i * (NN + N.2.2.2.2.slots) + NN + N.2.2.2.2.slots = n0 + (i * (NN + N.2.2.2.2.slots) + (NN + N.2.2.2.2.slots)) := by omega
    rw [e5, e6]
    exact ih1
end TLL
