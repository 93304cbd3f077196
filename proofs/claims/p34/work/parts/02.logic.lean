/-! A judgement over an abstract heap: what a method's frame does, with all of the machine's context inside it. -/
/-- the words that every method may use -/
def tl_GW : List Cond := lw_tbl.filter goodWord
theorem tl_inGW {w : Cond} (h : w ∈ tables_1) (g : goodWord w = true) : w ∈ tl_GW := List.mem_filter.mpr ⟨List.mem_append_right _ h, g⟩
theorem tl_inGWs {w : Cond} (h : w ∈ k2_sels lw_privs) (g : goodWord w = true) : w ∈ tl_GW := List.mem_filter.mpr ⟨List.mem_append_left _ h, g⟩
theorem tl_goodIn : ∀ {w : Cond} {l : List Cond}, w ∈ tl_GW → GoodIn (l ++ tl_GW) (w :: tl_GW) := by
  intro w l h q hq
  rcases List.mem_cons.mp hq with e | e
  · rw [e]; exact ⟨List.mem_append_right _ h, good_of_word (List.mem_filter.mp h).2⟩
  · exact ⟨List.mem_append_right _ e, good_of_word (List.mem_filter.mp e).2⟩
theorem tl_goodInG : ∀ {w : Cond}, w ∈ tl_GW → GoodIn tl_GW (w :: tl_GW) := by
  intro w h q hq
  rcases List.mem_cons.mp hq with e | e
  · rw [e]; exact ⟨h, good_of_word (List.mem_filter.mp h).2⟩
  · exact ⟨e, good_of_word (List.mem_filter.mp e).2⟩
/-- launch, the first address of the world, the classes' numbers, the arrays' classes -/
abbrev tl_E : Type := Launch × Nat × va_G × (Nat → ClassId)
/-- a method: its name, its bytes, its locals, what it returns, its room -/
abbrev tl_M : Type := MethodName × ByteArray × Nat × Option FieldType × Room
def tl_rm (d mc ms : Nat) : Room := { frames := d, cells := mc, slots := ms, locals := 36 * d }
def tl_tys (dA : Nat → ClassId) : List (ClassId × FieldType) := [(dA 0, .byte), (dA 1, .char), (dA 2, .boolean), (dA 3, .byte), (dA 4, .object RX1), (dA 5, .object RX7), (dA 6, .object RX4), (dA 7, .object RX8), (dA 8, .object RX5)]
/-- words that a call keeps one by one -/
def tl_NM : List (String × Nat × MethodName) := [(RX9, 11, yX6_init), (RX9, 18, yX0_init), (RX3, 21, yX8_init), (RX5, 40, yX1_init), (RX5, 41, yX7_init), (RX5, 42, yX4_init), (RX6, 62, yX9_isWithin), (RX1, 18, yX9_strokesFor), (RX5, 143, yX9_isWithin), (RX5, 147, yX9_refusalOf)]
def tl_ND : List MethodName := [⟨"java/lang/RuntimeException", "<init>", "()V"⟩, ⟨"java/lang/RuntimeException", "<init>", "(Ljava/lang/String;)V"⟩, ⟨"java/lang/Exception", "<init>", "()V"⟩, ⟨"java/lang/Exception", "<init>", "(Ljava/lang/String;)V"⟩, ⟨"java/lang/Throwable", "<init>", "()V"⟩, ⟨"java/lang/Throwable", "<init>", "(Ljava/lang/String;)V"⟩]
def tl_NC : List String := ["java/lang/IndexOutOfBoundsException", "java/lang/IllegalArgumentException", "java/lang/IllegalStateException"]
def tl_NA : List String := [RX1, RX7, RX4, RX8, RX5]
def tl_KK (E : tl_E) (U : State) : Prop :=
  va_K E.2.2.1 vwCl (tl_tys E.2.2.2) U ∧ (∀ C ∈ tl_NA, va_AO C U) ∧ (∀ w ∈ tl_NM, va_Nw (.methodLinkNest w.1 w.2.1 w.2.2 RX9) U) ∧ (∀ x ∈ tl_ND, va_Nw (.declares x) U) ∧ (∀ x ∈ tl_NC, va_Nw (.castable x x) U) ∧
  (vx_Zq Bundle.tN "UNASSIGNED_STACK" Bundle.steD (fun q => E.2.1 ≤ q) U U.heap ∧ vx_Zq Bundle.tN "SUPPRESSED_SENTINEL" Bundle.listD (fun q => E.2.1 ≤ q) U U.heap) ∧
  (∃ a, vk_R RX9 314 "there is no such thing" a U) ∧ (∃ a, vk_R RX9 321 "an argument is out of its range" a U) ∧ (∃ a, vk_R RX9 326 "this is not possible now" a U) ∧ (∀ C ∈ tl_NC, ∀ D ∈ tl_NC, C ≠ D → va_Nc C D U) ∧ E.1.stackTraces = false
theorem tl_KK_step {E : tl_E} {s U : State} (h : tl_KK E s) (hW : s.WarmedH U.vm) (kp : ∀ a : Nat, a < s.heap.size → ¬ (E.2.1 ≤ a) → U.heap[a]? = s.heap[a]?) : tl_KK E U := by
  obtain ⟨h1, h2, h3, h4, h5, ⟨z1, z2⟩, ⟨a1, r1⟩, ⟨a2, r2⟩, ⟨a3, r3⟩, h6, h7⟩ := h
  exact ⟨h1.moved hW.alike, fun C hC => (h2 C hC).moved hW.alike, fun w hw => va_Nw.warmM hW (h3 w hw), fun x hx => va_Nw.warmD hW (h4 x hx), fun x hx => va_Nw.warmC hW (h5 x hx), ⟨(z1.moved hW.alike).kept kp, (z2.moved hW.alike).kept kp⟩, ⟨a1, r1.warm hW⟩, ⟨a2, r2.warm hW⟩, ⟨a3, r3.warm hW⟩, fun C hC D hD hCD => (h6 C hC D hD hCD).moved hW.alike, h7⟩
/-! ### locals, by their places -/
def tl_ld : List (Option Value) → Nat → Option Value
  | [], _ => none
  | o :: _, 0 => o
  | _ :: t, i + 1 => tl_ld t i
def tl_c2 : Option Value → Option Value
  | some (.long _) => none
  | some (.double _) => none
  | o => o
def tl_st : List (Option Value) → Nat → Value → List (Option Value)
  | [], _, _ => []
  | _ :: t, 0, v => some v :: t
  | o :: t, 1, v => tl_c2 o :: tl_st t 0 v
  | o :: t, i + 2, v => o :: tl_st t (i + 1) v
def tl_cl : List (Option Value) → Nat → List (Option Value)
  | [], _ => []
  | _ :: t, 0 => none :: t
  | o :: t, i + 1 => o :: tl_cl t i
def tl_lq : List (Option Value) → Nat → List (Nat × Value)
  | [], _ => []
  | none :: t, n => tl_lq t (n + 1)
  | some v :: t, n => (n, v) :: tl_lq t (n + 1)
theorem tl_st_len : ∀ (ls : List (Option Value)) (i : Nat) (v : Value), (tl_st ls i v).length = ls.length
  | [], _, _ => rfl
  | _ :: t, 0, v => rfl
  | o :: t, 1, v => by simp [tl_st, tl_st_len t 0 v]
  | o :: t, i + 2, v => by simp [tl_st, tl_st_len t (i + 1) v]
theorem tl_cl_len : ∀ (ls : List (Option Value)) (i : Nat), (tl_cl ls i).length = ls.length
  | [], _ => rfl
  | _ :: t, 0 => rfl
  | o :: t, i + 1 => by simp [tl_cl, tl_cl_len t i]
theorem tl_lq_mem : ∀ (ls : List (Option Value)) (n : Nat) (q : Nat × Value), q ∈ tl_lq ls n ↔ ∃ j, q.1 = n + j ∧ tl_ld ls j = some q.2
  | [], n, q => by simp [tl_lq, tl_ld]
  | none :: t, n, q => by
    rw [tl_lq, tl_lq_mem t (n + 1) q]
    constructor
    · rintro ⟨j, h1, h2⟩; exact ⟨j + 1, by omega, h2⟩
    · rintro ⟨j, h1, h2⟩
      match j, h2 with
      | 0, h2 => cases h2
      | j + 1, h2 => exact ⟨j, by omega, h2⟩
  | some v :: t, n, q => by
    rw [tl_lq, List.mem_cons, tl_lq_mem t (n + 1) q]
    constructor
    · rintro (rfl | ⟨j, h1, h2⟩)
      · exact ⟨0, rfl, rfl⟩
      · exact ⟨j + 1, by omega, h2⟩
    · rintro ⟨j, h1, h2⟩
      match j, h2 with
      | 0, h2 => left; cases h2; exact Prod.ext h1 rfl
      | j + 1, h2 => right; exact ⟨j, by omega, h2⟩
theorem tl_c2_spec {o : Option Value} {w : Value} (h : tl_c2 o = some w) : o = some w ∧ w.category ≠ 2 := by
  cases o with
  | none => cases h
  | some x => cases x <;> first | (cases h; done) | (cases h; exact ⟨rfl, by simp [Value.category]⟩)
theorem tl_st_spec : ∀ (ls : List (Option Value)) (i : Nat) (v w : Value) (j : Nat), tl_ld (tl_st ls i v) j = some w → (j = i ∧ w = v) ∨ (j ≠ i ∧ tl_ld ls j = some w ∧ ¬ (j + 1 = i ∧ w.category = 2))
  | [], _, _, _, _, h => by cases h
  | _ :: t, 0, v, w, 0, h => by left; cases h; exact ⟨rfl, rfl⟩
  | _ :: t, 0, v, w, j + 1, h => by right; exact ⟨by omega, h, by omega⟩
  | o :: t, 1, v, w, 0, h => by
    right
    have h := tl_c2_spec (show tl_c2 o = some w from h)
    exact ⟨by omega, h.1, fun q => h.2 q.2⟩
  | o :: t, 1, v, w, j + 1, h => by
    rcases tl_st_spec t 0 v w j h with ⟨h1, h2⟩ | ⟨h1, h2, h3⟩
    · left; exact ⟨by omega, h2⟩
    · right; exact ⟨by omega, h2, by omega⟩
  | o :: t, i + 2, v, w, 0, h => by right; exact ⟨by omega, h, by omega⟩
  | o :: t, i + 2, v, w, j + 1, h => by
    rcases tl_st_spec t (i + 1) v w j h with ⟨h1, h2⟩ | ⟨h1, h2, h3⟩
    · left; exact ⟨by omega, h2⟩
    · right; exact ⟨by omega, h2, fun q => h3 ⟨by omega, q.2⟩⟩
theorem tl_cl_spec : ∀ (ls : List (Option Value)) (i : Nat) (w : Value) (j : Nat), tl_ld (tl_cl ls i) j = some w → j ≠ i ∧ tl_ld ls j = some w
  | [], _, _, _, h => by cases h
  | _ :: t, 0, w, 0, h => by cases h
  | _ :: t, 0, w, j + 1, h => ⟨by omega, h⟩
  | o :: t, i + 1, w, 0, h => ⟨by omega, h⟩
  | o :: t, i + 1, w, j + 1, h => by
    have := tl_cl_spec t i w j h
    exact ⟨by omega, this.2⟩
def tl_LV (nL : Nat) (la : Array Slot) (ls : List (Option Value)) : Prop := ls.length = nL ∧ lv_has la nL (tl_lq ls 0)
theorem tl_LV_ld {nL : Nat} {la : Array Slot} {ls : List (Option Value)} (h : tl_LV nL la ls) {i : Nat} {v : Value} (hl : tl_ld ls i = some v) : la[i]? = some (.val v) :=
  h.2.2.2 (i, v) ((tl_lq_mem ls 0 (i, v)).mpr ⟨i, by omega, hl⟩)
theorem tl_LV_st {nL : Nat} {la : Array Slot} {ls : List (Option Value)} {i : Nat} {v : Value} (hn : ls.length = nL) (h : lv_has la nL ((i, v) :: (tl_lq ls 0).filter (fun q => !(q.1 == i) && !(q.1 + 1 == i && q.2.category == 2)))) : tl_LV nL la (tl_st ls i v) := by
  refine ⟨by rw [tl_st_len]; exact hn, h.1, h.2.1, fun q hq => ?_⟩
  obtain ⟨j, h1, h2⟩ := (tl_lq_mem _ 0 q).mp hq
  rw [Nat.zero_add] at h1
  rcases tl_st_spec _ _ _ _ _ h2 with ⟨e1, e2⟩ | ⟨e1, e2, e3⟩
  · have e : q = (i, v) := Prod.ext (h1.trans e1) e2
    rw [e]; exact h.2.2 _ List.mem_cons_self
  · refine h.2.2 q (List.mem_cons_of_mem _ (List.mem_filter.mpr ⟨(tl_lq_mem _ 0 q).mpr ⟨j, by omega, e2⟩, ?_⟩))
    have a1 : ¬ q.1 = i := by omega
    have a2 : ¬ (q.1 + 1 = i ∧ q.2.category = 2) := fun z => e3 ⟨by omega, z.2⟩
    simp only [Bool.and_eq_true, Bool.not_eq_true', beq_eq_false_iff_ne, ne_eq, Bool.and_eq_false_iff]
    refine ⟨a1, ?_⟩
    by_cases b : q.1 + 1 = i
    · right; intro z; exact a2 ⟨b, z⟩
    · left; exact b
theorem tl_LV_st2 {nL : Nat} {la : Array Slot} {ls : List (Option Value)} {i : Nat} {v : Value} (hn : ls.length = nL) (h : lv_has la nL ((i, v) :: (tl_lq ls 0).filter (fun q => !(q.1 == i) && (!(q.1 == i + 1) && !(q.1 + 1 == i && q.2.category == 2))))) : tl_LV nL la (tl_st (tl_cl ls (i + 1)) i v) := by
  refine ⟨by rw [tl_st_len, tl_cl_len]; exact hn, h.1, h.2.1, fun q hq => ?_⟩
  obtain ⟨j, h1, h2⟩ := (tl_lq_mem _ 0 q).mp hq
  rw [Nat.zero_add] at h1
  rcases tl_st_spec _ _ _ _ _ h2 with ⟨e1, e2⟩ | ⟨e1, e2, e3⟩
  · have e : q = (i, v) := Prod.ext (h1.trans e1) e2
    rw [e]; exact h.2.2 _ List.mem_cons_self
  · have e4 := tl_cl_spec _ _ _ _ e2
    refine h.2.2 q (List.mem_cons_of_mem _ (List.mem_filter.mpr ⟨(tl_lq_mem _ 0 q).mpr ⟨j, by omega, e4.2⟩, ?_⟩))
    have a1 : ¬ q.1 = i := by omega
    have a3 : ¬ q.1 = i + 1 := by omega
    have a2 : ¬ (q.1 + 1 = i ∧ q.2.category = 2) := fun z => e3 ⟨by omega, z.2⟩
    simp only [Bool.and_eq_true, Bool.not_eq_true', beq_eq_false_iff_ne, ne_eq, Bool.and_eq_false_iff]
    refine ⟨a1, a3, ?_⟩
    by_cases b : q.1 + 1 = i
    · right; intro z; exact a2 ⟨b, z⟩
    · left; exact b
/-! ### the judgement -/
def tl_Cx (E : tl_E) (M : tl_M) (p : Program) (s : State) (m : MethodId) (args : Array Value) (meth : Method) (c : Code) : Prop :=
  p.tables.exec = Jvm.exec ∧ c.code = M.2.1 ∧ meth.sig.returnType = M.2.2.2.1 ∧ c.maxLocals = M.2.2.1 ∧ s.vm.findClass M.1.cls = some m.cls ∧ (∀ w ∈ tl_GW, w.before args s = true) ∧ meth.locks = false ∧ meth.name = M.1.name ∧ tl_KK E s ∧ E.2.1 ≤ s.heap.size
def tl_R (E : tl_E) (M : tl_M) (X : State → Array Value → Code → Prop) (Z : List Frame → Array Value → State → State → Prop) (k n : Nat) (HP : Heap → Prop) (pc : Nat) (ls : List (Option Value)) (st : List Value) : Prop :=
  ∀ (p : Program) (e : Env) (s : State) (m : MethodId) (args : Array Value) (below : List Frame) (meth : Method) (c : Code), tl_Cx E M p s m args meth c → X s args c →
  ∀ (H : Heap) (la : Array Slot) (locs : List Loc), HP H → va_S (fun q => E.2.1 ≤ q) s.heap H locs → tl_LV M.2.2.1 la ls →
  W p E.1 e M.2.2.2.2 s m args below meth c H locs k n (Z below args s) (F0 m pc la st)
section TLR
variable {E : tl_E} {M : tl_M} {X : State → Array Value → Code → Prop} {Z : List Frame → Array Value → State → State → Prop} {k n pc : Nat} {HP : Heap → Prop} {ls : List (Option Value)} {st : List Value}
theorem tl_widen {k2 n2 : Nat} (h1 : k ≤ k2) (h2 : n ≤ n2) (kk : tl_R E M X Z k2 n2 HP pc ls st) : tl_R E M X Z k n HP pc ls st :=
  fun p e s m args below meth c hC hX H la locs hH hS hL => W.widen h1 h2 (kk p e s m args below meth c hC hX H la locs hH hS hL)
theorem tl_heap {HP2 : Heap → Prop} (h : ∀ H, HP H → HP2 H) (kk : tl_R E M X Z k n HP2 pc ls st) : tl_R E M X Z k n HP pc ls st :=
  fun p e s m args below meth c hC hX H la locs hH hS hL => kk p e s m args below meth c hC hX H la locs (h H hH) hS hL
theorem tl_ex {S : Type} {A : S → Prop} {HS : S → Heap → Prop} (kk : ∀ u, A u → tl_R E M X Z k n (HS u) pc ls st) : tl_R E M X Z k n (fun H => ∃ u, A u ∧ HS u H) pc ls st :=
  fun p e s m args below meth c hC hX H la locs hH hS hL => by
    obtain ⟨u, h1, h2⟩ := hH
    exact kk u h1 p e s m args below meth c hC hX H la locs h2 hS hL
theorem tl_iconst {q : Int} {v : Int32} (hd : decode M.2.1 pc = .ok (.iconst q, 1)) (hv : Int32.ofInt q = v) (kk : tl_R E M X Z k n HP (pc + 1) ls (.int v :: st)) : tl_R E M X Z k n HP pc ls (st) :=
  fun p e s m args below meth c hC hX H la locs hH hS hL => lv_iconst (v := v) hC.1 hC.2.1 hd hv (kk p e s m args below meth c hC hX H la locs hH hS hL)
theorem tl_bipush {q : Int} {v : Int32} (hd : decode M.2.1 pc = .ok (.bipush q, 2)) (hv : (Int8.ofInt q).toInt32 = v) (kk : tl_R E M X Z k n HP (pc + 2) ls (.int v :: st)) : tl_R E M X Z k n HP pc ls (st) :=
  fun p e s m args below meth c hC hX H la locs hH hS hL => lv_bipush (v := v) hC.1 hC.2.1 hd hv (kk p e s m args below meth c hC hX H la locs hH hS hL)
theorem tl_sipush {q : Int} {v : Int32} (hd : decode M.2.1 pc = .ok (.sipush q, 3)) (hv : (Int16.ofInt q).toInt32 = v) (kk : tl_R E M X Z k n HP (pc + 3) ls (.int v :: st)) : tl_R E M X Z k n HP pc ls (st) :=
  fun p e s m args below meth c hC hX H la locs hH hS hL => lv_sipush (v := v) hC.1 hC.2.1 hd hv (kk p e s m args below meth c hC hX H la locs hH hS hL)
theorem tl_lconst {q : Fin 2} {v : Int64} (hd : decode M.2.1 pc = .ok (.lconst q, 1)) (hv : Int64.ofNat (q : Nat) = v) (kk : tl_R E M X Z k n HP (pc + 1) ls (.long v :: st)) : tl_R E M X Z k n HP pc ls (st) :=
  fun p e s m args below meth c hC hX H la locs hH hS hL => lv_lconst (v := v) hC.1 hC.2.1 hd hv (kk p e s m args below meth c hC hX H la locs hH hS hL)
theorem tl_iload_n {q : Fin 4} {x : Int32} (hd : decode M.2.1 pc = .ok (.iload_n q, 1)) (hl : tl_ld ls (q : Nat) = some (.int x)) (kk : tl_R E M X Z k n HP (pc + 1) ls (.int x :: st)) : tl_R E M X Z k n HP pc ls (st) :=
  fun p e s m args below meth c hC hX H la locs hH hS hL => lv_iload_n hC.1 hC.2.1 hd rfl (tl_LV_ld hL hl) (kk p e s m args below meth c hC hX H la locs hH hS hL)
theorem tl_iload {i : Nat} {x : Int32} (hd : decode M.2.1 pc = .ok (.iload i, 2)) (hl : tl_ld ls i = some (.int x)) (kk : tl_R E M X Z k n HP (pc + 2) ls (.int x :: st)) : tl_R E M X Z k n HP pc ls (st) :=
  fun p e s m args below meth c hC hX H la locs hH hS hL => lv_iload hC.1 hC.2.1 hd (tl_LV_ld hL hl) (kk p e s m args below meth c hC hX H la locs hH hS hL)
theorem tl_istore_n {q : Fin 4} {x : Int32} (hd : decode M.2.1 pc = .ok (.istore_n q, 1)) (hi : (q : Nat) < M.2.2.1) (kk : tl_R E M X Z k n HP (pc + 1) (tl_st ls (q : Nat) (.int x)) st) : tl_R E M X Z k n HP pc ls (.int x :: st) :=
  fun p e s m args below meth c hC hX H la locs hH hS hL => lv_istore_n hC.1 hC.2.1 hd rfl hL.2 hi rfl (fun la' hL' => kk p e s m args below meth c hC hX H la' locs hH hS (tl_LV_st hL.1 hL'))
theorem tl_istore {i : Nat} {x : Int32} (hd : decode M.2.1 pc = .ok (.istore i, 2)) (hi : i < M.2.2.1) (kk : tl_R E M X Z k n HP (pc + 2) (tl_st ls i (.int x)) st) : tl_R E M X Z k n HP pc ls (.int x :: st) :=
  fun p e s m args below meth c hC hX H la locs hH hS hL => lv_istore hC.1 hC.2.1 hd hL.2 hi rfl (fun la' hL' => kk p e s m args below meth c hC hX H la' locs hH hS (tl_LV_st hL.1 hL'))
theorem tl_lload_n {q : Fin 4} {x : Int64} (hd : decode M.2.1 pc = .ok (.lload_n q, 1)) (hl : tl_ld ls (q : Nat) = some (.long x)) (kk : tl_R E M X Z k n HP (pc + 1) ls (.long x :: st)) : tl_R E M X Z k n HP pc ls (st) :=
  fun p e s m args below meth c hC hX H la locs hH hS hL => lv_lload_n hC.1 hC.2.1 hd rfl (tl_LV_ld hL hl) (kk p e s m args below meth c hC hX H la locs hH hS hL)
theorem tl_lload {i : Nat} {x : Int64} (hd : decode M.2.1 pc = .ok (.lload i, 2)) (hl : tl_ld ls i = some (.long x)) (kk : tl_R E M X Z k n HP (pc + 2) ls (.long x :: st)) : tl_R E M X Z k n HP pc ls (st) :=
  fun p e s m args below meth c hC hX H la locs hH hS hL => lv_lload hC.1 hC.2.1 hd (tl_LV_ld hL hl) (kk p e s m args below meth c hC hX H la locs hH hS hL)
theorem tl_lstore_n {q : Fin 4} {x : Int64} (hd : decode M.2.1 pc = .ok (.lstore_n q, 1)) (hi : (q : Nat) + 1 < M.2.2.1) (kk : tl_R E M X Z k n HP (pc + 1) (tl_st (tl_cl ls ((q : Nat) + 1)) (q : Nat) (.long x)) st) : tl_R E M X Z k n HP pc ls (.long x :: st) :=
  fun p e s m args below meth c hC hX H la locs hH hS hL => lv_lstore_n hC.1 hC.2.1 hd rfl hL.2 hi rfl (fun la' hL' => kk p e s m args below meth c hC hX H la' locs hH hS (tl_LV_st2 hL.1 hL'))
theorem tl_lstore {i : Nat} {x : Int64} (hd : decode M.2.1 pc = .ok (.lstore i, 2)) (hi : i + 1 < M.2.2.1) (kk : tl_R E M X Z k n HP (pc + 2) (tl_st (tl_cl ls (i + 1)) i (.long x)) st) : tl_R E M X Z k n HP pc ls (.long x :: st) :=
  fun p e s m args below meth c hC hX H la locs hH hS hL => lv_lstore hC.1 hC.2.1 hd hL.2 hi rfl (fun la' hL' => kk p e s m args below meth c hC hX H la' locs hH hS (tl_LV_st2 hL.1 hL'))
theorem tl_aload_n {q : Fin 4} {x : Nat} (hd : decode M.2.1 pc = .ok (.aload_n q, 1)) (hl : tl_ld ls (q : Nat) = some (.ref x)) (kk : tl_R E M X Z k n HP (pc + 1) ls (.ref x :: st)) : tl_R E M X Z k n HP pc ls (st) :=
  fun p e s m args below meth c hC hX H la locs hH hS hL => lv_aload_n hC.1 hC.2.1 hd rfl (tl_LV_ld hL hl) (kk p e s m args below meth c hC hX H la locs hH hS hL)
theorem tl_aload {i : Nat} {x : Nat} (hd : decode M.2.1 pc = .ok (.aload i, 2)) (hl : tl_ld ls i = some (.ref x)) (kk : tl_R E M X Z k n HP (pc + 2) ls (.ref x :: st)) : tl_R E M X Z k n HP pc ls (st) :=
  fun p e s m args below meth c hC hX H la locs hH hS hL => lv_aload hC.1 hC.2.1 hd (tl_LV_ld hL hl) (kk p e s m args below meth c hC hX H la locs hH hS hL)
theorem tl_astore_n {q : Fin 4} {x : Nat} (hd : decode M.2.1 pc = .ok (.astore_n q, 1)) (hi : (q : Nat) < M.2.2.1) (kk : tl_R E M X Z k n HP (pc + 1) (tl_st ls (q : Nat) (.ref x)) st) : tl_R E M X Z k n HP pc ls (.ref x :: st) :=
  fun p e s m args below meth c hC hX H la locs hH hS hL => lv_astore_n hC.1 hC.2.1 hd rfl hL.2 hi rfl (fun la' hL' => kk p e s m args below meth c hC hX H la' locs hH hS (tl_LV_st hL.1 hL'))
theorem tl_astore {i : Nat} {x : Nat} (hd : decode M.2.1 pc = .ok (.astore i, 2)) (hi : i < M.2.2.1) (kk : tl_R E M X Z k n HP (pc + 2) (tl_st ls i (.ref x)) st) : tl_R E M X Z k n HP pc ls (.ref x :: st) :=
  fun p e s m args below meth c hC hX H la locs hH hS hL => lv_astore hC.1 hC.2.1 hd hL.2 hi rfl (fun la' hL' => kk p e s m args below meth c hC hX H la' locs hH hS (tl_LV_st hL.1 hL'))
theorem tl_iinc {i : Nat} {q : Int} {x v : Int32} (hd : decode M.2.1 pc = .ok (.iinc i q, 3)) (hl : tl_ld ls i = some (.int x)) (hv : x + Int32.ofInt q = v) (hi : i < M.2.2.1) (kk : tl_R E M X Z k n HP (pc + 3) (tl_st ls i (.int v)) st) : tl_R E M X Z k n HP pc ls st := by
  intro p e s m args below meth c hC hX H la locs hH hS hL
  obtain ⟨kp, hk⟩ := List.getElem?_of_mem ((tl_lq_mem ls 0 (i, .int x)).mpr ⟨i, by omega, hl⟩)
  exact lv_iinc (v := v) hC.1 hC.2.1 hd hL.2 hk hv hi rfl (fun la' hL' => kk p e s m args below meth c hC hX H la' locs hH hS (tl_LV_st hL.1 hL'))
theorem tl_iadd {x y : Int32} (hd : decode M.2.1 pc = .ok (.iadd, 1)) (kk : tl_R E M X Z k n HP (pc + 1) ls (.int (x + y) :: st)) : tl_R E M X Z k n HP pc ls (.int y :: .int x :: st) :=
  fun p e s m args below meth c hC hX H la locs hH hS hL => lv_iadd hC.1 hC.2.1 hd (kk p e s m args below meth c hC hX H la locs hH hS hL)
theorem tl_isub {x y : Int32} (hd : decode M.2.1 pc = .ok (.isub, 1)) (kk : tl_R E M X Z k n HP (pc + 1) ls (.int (x - y) :: st)) : tl_R E M X Z k n HP pc ls (.int y :: .int x :: st) :=
  fun p e s m args below meth c hC hX H la locs hH hS hL => lv_isub hC.1 hC.2.1 hd (kk p e s m args below meth c hC hX H la locs hH hS hL)
theorem tl_imul {x y : Int32} (hd : decode M.2.1 pc = .ok (.imul, 1)) (kk : tl_R E M X Z k n HP (pc + 1) ls (.int (x * y) :: st)) : tl_R E M X Z k n HP pc ls (.int y :: .int x :: st) :=
  fun p e s m args below meth c hC hX H la locs hH hS hL => lv_imul hC.1 hC.2.1 hd (kk p e s m args below meth c hC hX H la locs hH hS hL)
theorem tl_iand {x y : Int32} (hd : decode M.2.1 pc = .ok (.iand, 1)) (kk : tl_R E M X Z k n HP (pc + 1) ls (.int (x &&& y) :: st)) : tl_R E M X Z k n HP pc ls (.int y :: .int x :: st) :=
  fun p e s m args below meth c hC hX H la locs hH hS hL => lv_iand hC.1 hC.2.1 hd (kk p e s m args below meth c hC hX H la locs hH hS hL)
theorem tl_idiv {x y : Int32} (hd : decode M.2.1 pc = .ok (.idiv, 1)) (hy : ¬ y = 0) (kk : tl_R E M X Z k n HP (pc + 1) ls (.int (x / y) :: st)) : tl_R E M X Z k n HP pc ls (.int y :: .int x :: st) :=
  fun p e s m args below meth c hC hX H la locs hH hS hL => lv_idiv hC.1 hC.2.1 hd hy (kk p e s m args below meth c hC hX H la locs hH hS hL)
theorem tl_irem {x y : Int32} (hd : decode M.2.1 pc = .ok (.irem, 1)) (hy : ¬ y = 0) (kk : tl_R E M X Z k n HP (pc + 1) ls (.int (x - x / y * y) :: st)) : tl_R E M X Z k n HP pc ls (.int y :: .int x :: st) :=
  fun p e s m args below meth c hC hX H la locs hH hS hL => lv_irem hC.1 hC.2.1 hd hy (kk p e s m args below meth c hC hX H la locs hH hS hL)
theorem tl_ineg {x : Int32} (hd : decode M.2.1 pc = .ok (.ineg, 1)) (kk : tl_R E M X Z k n HP (pc + 1) ls (.int (-x) :: st)) : tl_R E M X Z k n HP pc ls (.int x :: st) :=
  fun p e s m args below meth c hC hX H la locs hH hS hL => lv_ineg hC.1 hC.2.1 hd (kk p e s m args below meth c hC hX H la locs hH hS hL)
theorem tl_ladd {x y : Int64} (hd : decode M.2.1 pc = .ok (.ladd, 1)) (kk : tl_R E M X Z k n HP (pc + 1) ls (.long (x + y) :: st)) : tl_R E M X Z k n HP pc ls (.long y :: .long x :: st) :=
  fun p e s m args below meth c hC hX H la locs hH hS hL => lv_ladd hC.1 hC.2.1 hd (kk p e s m args below meth c hC hX H la locs hH hS hL)
theorem tl_lsub {x y : Int64} (hd : decode M.2.1 pc = .ok (.lsub, 1)) (kk : tl_R E M X Z k n HP (pc + 1) ls (.long (x - y) :: st)) : tl_R E M X Z k n HP pc ls (.long y :: .long x :: st) :=
  fun p e s m args below meth c hC hX H la locs hH hS hL => lv_lsub hC.1 hC.2.1 hd (kk p e s m args below meth c hC hX H la locs hH hS hL)
theorem tl_lmul {x y : Int64} (hd : decode M.2.1 pc = .ok (.lmul, 1)) (kk : tl_R E M X Z k n HP (pc + 1) ls (.long (x * y) :: st)) : tl_R E M X Z k n HP pc ls (.long y :: .long x :: st) :=
  fun p e s m args below meth c hC hX H la locs hH hS hL => lv_lmul hC.1 hC.2.1 hd (kk p e s m args below meth c hC hX H la locs hH hS hL)
theorem tl_land {x y : Int64} (hd : decode M.2.1 pc = .ok (.land, 1)) (kk : tl_R E M X Z k n HP (pc + 1) ls (.long (x &&& y) :: st)) : tl_R E M X Z k n HP pc ls (.long y :: .long x :: st) :=
  fun p e s m args below meth c hC hX H la locs hH hS hL => lv_land hC.1 hC.2.1 hd (kk p e s m args below meth c hC hX H la locs hH hS hL)
theorem tl_lor {x y : Int64} (hd : decode M.2.1 pc = .ok (.lor, 1)) (kk : tl_R E M X Z k n HP (pc + 1) ls (.long (x ||| y) :: st)) : tl_R E M X Z k n HP pc ls (.long y :: .long x :: st) :=
  fun p e s m args below meth c hC hX H la locs hH hS hL => lv_lor hC.1 hC.2.1 hd (kk p e s m args below meth c hC hX H la locs hH hS hL)
theorem tl_ldiv {x y : Int64} (hd : decode M.2.1 pc = .ok (.ldiv, 1)) (hy : ¬ y = 0) (kk : tl_R E M X Z k n HP (pc + 1) ls (.long (x / y) :: st)) : tl_R E M X Z k n HP pc ls (.long y :: .long x :: st) :=
  fun p e s m args below meth c hC hX H la locs hH hS hL => lv_ldiv hC.1 hC.2.1 hd hy (kk p e s m args below meth c hC hX H la locs hH hS hL)
theorem tl_lrem {x y : Int64} (hd : decode M.2.1 pc = .ok (.lrem, 1)) (hy : ¬ y = 0) (kk : tl_R E M X Z k n HP (pc + 1) ls (.long (x - x / y * y) :: st)) : tl_R E M X Z k n HP pc ls (.long y :: .long x :: st) :=
  fun p e s m args below meth c hC hX H la locs hH hS hL => lv_lrem hC.1 hC.2.1 hd hy (kk p e s m args below meth c hC hX H la locs hH hS hL)
theorem tl_lushr {x : Int64} {y : Int32} (hd : decode M.2.1 pc = .ok (.lushr, 1)) (kk : tl_R E M X Z k n HP (pc + 1) ls (.long ((x.toUInt64 >>> (y.toInt64.toUInt64 &&& Int64.toUInt64 63)).toInt64) :: st)) : tl_R E M X Z k n HP pc ls (.int y :: .long x :: st) :=
  fun p e s m args below meth c hC hX H la locs hH hS hL => lv_lushr hC.1 hC.2.1 hd rfl (kk p e s m args below meth c hC hX H la locs hH hS hL)
theorem tl_lshl {x : Int64} {y : Int32} (hd : decode M.2.1 pc = .ok (.lshl, 1)) (kk : tl_R E M X Z k n HP (pc + 1) ls (.long (x <<< (y.toInt64 &&& 63)) :: st)) : tl_R E M X Z k n HP pc ls (.int y :: .long x :: st) :=
  fun p e s m args below meth c hC hX H la locs hH hS hL => lv_lshl hC.1 hC.2.1 hd rfl (kk p e s m args below meth c hC hX H la locs hH hS hL)
theorem tl_i2l {x : Int32} (hd : decode M.2.1 pc = .ok (.i2l, 1)) (kk : tl_R E M X Z k n HP (pc + 1) ls (.long x.toInt64 :: st)) : tl_R E M X Z k n HP pc ls (.int x :: st) :=
  fun p e s m args below meth c hC hX H la locs hH hS hL => lv_i2l hC.1 hC.2.1 hd rfl (kk p e s m args below meth c hC hX H la locs hH hS hL)
theorem tl_l2i {x : Int64} (hd : decode M.2.1 pc = .ok (.l2i, 1)) (kk : tl_R E M X Z k n HP (pc + 1) ls (.int x.toInt32 :: st)) : tl_R E M X Z k n HP pc ls (.long x :: st) :=
  fun p e s m args below meth c hC hX H la locs hH hS hL => lv_l2i hC.1 hC.2.1 hd rfl (kk p e s m args below meth c hC hX H la locs hH hS hL)
theorem tl_i2c {x : Int32} (hd : decode M.2.1 pc = .ok (.i2c, 1)) (kk : tl_R E M X Z k n HP (pc + 1) ls (.int (x.toUInt32 % 65536).toInt32 :: st)) : tl_R E M X Z k n HP pc ls (.int x :: st) :=
  fun p e s m args below meth c hC hX H la locs hH hS hL => lv_i2c hC.1 hC.2.1 hd rfl (kk p e s m args below meth c hC hX H la locs hH hS hL)
theorem tl_lcmp {x y : Int64} (hd : decode M.2.1 pc = .ok (.lcmp, 1)) (kk : tl_R E M X Z k n HP (pc + 1) ls (.int (lg_cmp x y) :: st)) : tl_R E M X Z k n HP pc ls (.long y :: .long x :: st) :=
  fun p e s m args below meth c hC hX H la locs hH hS hL => W.lcmp hC.1 hC.2.1 hd (kk p e s m args below meth c hC hX H la locs hH hS hL)
theorem tl_dup2 {u v : Value} (hd : decode M.2.1 pc = .ok (.dup2, 1)) (hu : u.category = 1) (hc : v.category = 1) (kk : tl_R E M X Z k n HP (pc + 1) ls (u :: v :: u :: v :: st)) : tl_R E M X Z k n HP pc ls (u :: v :: st) :=
  fun p e s m args below meth c hC hX H la locs hH hS hL => lv_dup2_11 hC.1 hC.2.1 hd hu hc (kk p e s m args below meth c hC hX H la locs hH hS hL)
theorem tl_dup {v : Value} (hd : decode M.2.1 pc = .ok (.dup, 1)) (hc : v.category = 1) (kk : tl_R E M X Z k n HP (pc + 1) ls (v :: v :: st)) : tl_R E M X Z k n HP pc ls (v :: st) :=
  fun p e s m args below meth c hC hX H la locs hH hS hL => lv_dup hC.1 hC.2.1 hd hc (kk p e s m args below meth c hC hX H la locs hH hS hL)
theorem tl_pop {v : Value} (hd : decode M.2.1 pc = .ok (.pop, 1)) (hc : v.category = 1) (kk : tl_R E M X Z k n HP (pc + 1) ls (st)) : tl_R E M X Z k n HP pc ls (v :: st) :=
  fun p e s m args below meth c hC hX H la locs hH hS hL => lv_pop hC.1 hC.2.1 hd hc (kk p e s m args below meth c hC hX H la locs hH hS hL)
theorem tl_ldc2 {i : Nat} {v : Int64} (hd : decode M.2.1 pc = .ok (.ldc2_w i, 3)) (hw : Cond.constantLong M.1.cls i v ∈ tl_GW) (kk : tl_R E M X Z k n HP (pc + 3) ls (.long v :: st)) : tl_R E M X Z k n HP pc ls (st) :=
  fun p e s m args below meth c hC hX H la locs hH hS hL => lv_ldc2 hC.1 hC.2.1 hC.2.2.2.2.1 (hC.2.2.2.2.2.1 _ hw) hd (kk p e s m args below meth c hC hX H la locs hH hS hL)
theorem tl_ldc {i : Nat} {v : Int32} (hd : decode M.2.1 pc = .ok (.ldc i, 2)) (hw : Cond.constant M.1.cls i v ∈ tl_GW) (kk : tl_R E M X Z k n HP (pc + 2) ls (.int v :: st)) : tl_R E M X Z k n HP pc ls (st) :=
  fun p e s m args below meth c hC hX H la locs hH hS hL => lv_ldc hC.1 hC.2.1 hC.2.2.2.2.1 (hC.2.2.2.2.2.1 _ hw) hd (kk p e s m args below meth c hC hX H la locs hH hS hL)
theorem tl_if_eq {x : Int32} {off : Int} {tgt : Nat} (hd : decode M.2.1 pc = .ok (.ifCond .eq off, 3)) (ht : (pc : Int) + off = (tgt : Int)) (kt : x = 0 → tl_R E M X Z k n HP tgt ls st) (kf : ¬ x = 0 → tl_R E M X Z k n HP (pc + 3) ls st) : tl_R E M X Z k n HP pc ls (.int x :: st) :=
  fun p e s m args below meth c hC hX H la locs hH hS hL => lv_if_eq hC.1 hC.2.1 hd ht (fun h => kt h p e s m args below meth c hC hX H la locs hH hS hL) (fun h => kf h p e s m args below meth c hC hX H la locs hH hS hL)
theorem tl_if_ne {x : Int32} {off : Int} {tgt : Nat} (hd : decode M.2.1 pc = .ok (.ifCond .ne off, 3)) (ht : (pc : Int) + off = (tgt : Int)) (kt : ¬ x = 0 → tl_R E M X Z k n HP tgt ls st) (kf : x = 0 → tl_R E M X Z k n HP (pc + 3) ls st) : tl_R E M X Z k n HP pc ls (.int x :: st) :=
  fun p e s m args below meth c hC hX H la locs hH hS hL => lv_if_ne hC.1 hC.2.1 hd ht (fun h => kt h p e s m args below meth c hC hX H la locs hH hS hL) (fun h => kf h p e s m args below meth c hC hX H la locs hH hS hL)
theorem tl_if_lt {x : Int32} {off : Int} {tgt : Nat} (hd : decode M.2.1 pc = .ok (.ifCond .lt off, 3)) (ht : (pc : Int) + off = (tgt : Int)) (kt : x < 0 → tl_R E M X Z k n HP tgt ls st) (kf : ¬ x < 0 → tl_R E M X Z k n HP (pc + 3) ls st) : tl_R E M X Z k n HP pc ls (.int x :: st) :=
  fun p e s m args below meth c hC hX H la locs hH hS hL => lv_if_lt hC.1 hC.2.1 hd ht (fun h => kt h p e s m args below meth c hC hX H la locs hH hS hL) (fun h => kf h p e s m args below meth c hC hX H la locs hH hS hL)
theorem tl_if_ge {x : Int32} {off : Int} {tgt : Nat} (hd : decode M.2.1 pc = .ok (.ifCond .ge off, 3)) (ht : (pc : Int) + off = (tgt : Int)) (kt : 0 ≤ x → tl_R E M X Z k n HP tgt ls st) (kf : ¬ 0 ≤ x → tl_R E M X Z k n HP (pc + 3) ls st) : tl_R E M X Z k n HP pc ls (.int x :: st) :=
  fun p e s m args below meth c hC hX H la locs hH hS hL => lv_if_ge hC.1 hC.2.1 hd ht (fun h => kt h p e s m args below meth c hC hX H la locs hH hS hL) (fun h => kf h p e s m args below meth c hC hX H la locs hH hS hL)
theorem tl_if_gt {x : Int32} {off : Int} {tgt : Nat} (hd : decode M.2.1 pc = .ok (.ifCond .gt off, 3)) (ht : (pc : Int) + off = (tgt : Int)) (kt : 0 < x → tl_R E M X Z k n HP tgt ls st) (kf : ¬ 0 < x → tl_R E M X Z k n HP (pc + 3) ls st) : tl_R E M X Z k n HP pc ls (.int x :: st) :=
  fun p e s m args below meth c hC hX H la locs hH hS hL => lv_if_gt hC.1 hC.2.1 hd ht (fun h => kt h p e s m args below meth c hC hX H la locs hH hS hL) (fun h => kf h p e s m args below meth c hC hX H la locs hH hS hL)
theorem tl_if_le {x : Int32} {off : Int} {tgt : Nat} (hd : decode M.2.1 pc = .ok (.ifCond .le off, 3)) (ht : (pc : Int) + off = (tgt : Int)) (kt : x ≤ 0 → tl_R E M X Z k n HP tgt ls st) (kf : ¬ x ≤ 0 → tl_R E M X Z k n HP (pc + 3) ls st) : tl_R E M X Z k n HP pc ls (.int x :: st) :=
  fun p e s m args below meth c hC hX H la locs hH hS hL => lv_if_le hC.1 hC.2.1 hd ht (fun h => kt h p e s m args below meth c hC hX H la locs hH hS hL) (fun h => kf h p e s m args below meth c hC hX H la locs hH hS hL)
theorem tl_icmp_eq {x y : Int32} {off : Int} {tgt : Nat} (hd : decode M.2.1 pc = .ok (.if_icmp .eq off, 3)) (ht : (pc : Int) + off = (tgt : Int)) (kt : x = y → tl_R E M X Z k n HP tgt ls st) (kf : ¬ x = y → tl_R E M X Z k n HP (pc + 3) ls st) : tl_R E M X Z k n HP pc ls (.int y :: .int x :: st) :=
  fun p e s m args below meth c hC hX H la locs hH hS hL => lv_icmp_eq hC.1 hC.2.1 hd ht (fun h => kt h p e s m args below meth c hC hX H la locs hH hS hL) (fun h => kf h p e s m args below meth c hC hX H la locs hH hS hL)
theorem tl_icmp_ne {x y : Int32} {off : Int} {tgt : Nat} (hd : decode M.2.1 pc = .ok (.if_icmp .ne off, 3)) (ht : (pc : Int) + off = (tgt : Int)) (kt : ¬ x = y → tl_R E M X Z k n HP tgt ls st) (kf : x = y → tl_R E M X Z k n HP (pc + 3) ls st) : tl_R E M X Z k n HP pc ls (.int y :: .int x :: st) :=
  fun p e s m args below meth c hC hX H la locs hH hS hL => lv_icmp_ne hC.1 hC.2.1 hd ht (fun h => kt h p e s m args below meth c hC hX H la locs hH hS hL) (fun h => kf h p e s m args below meth c hC hX H la locs hH hS hL)
theorem tl_icmp_lt {x y : Int32} {off : Int} {tgt : Nat} (hd : decode M.2.1 pc = .ok (.if_icmp .lt off, 3)) (ht : (pc : Int) + off = (tgt : Int)) (kt : x < y → tl_R E M X Z k n HP tgt ls st) (kf : ¬ x < y → tl_R E M X Z k n HP (pc + 3) ls st) : tl_R E M X Z k n HP pc ls (.int y :: .int x :: st) :=
  fun p e s m args below meth c hC hX H la locs hH hS hL => lv_icmp_lt hC.1 hC.2.1 hd ht (fun h => kt h p e s m args below meth c hC hX H la locs hH hS hL) (fun h => kf h p e s m args below meth c hC hX H la locs hH hS hL)
theorem tl_icmp_ge {x y : Int32} {off : Int} {tgt : Nat} (hd : decode M.2.1 pc = .ok (.if_icmp .ge off, 3)) (ht : (pc : Int) + off = (tgt : Int)) (kt : y ≤ x → tl_R E M X Z k n HP tgt ls st) (kf : ¬ y ≤ x → tl_R E M X Z k n HP (pc + 3) ls st) : tl_R E M X Z k n HP pc ls (.int y :: .int x :: st) :=
  fun p e s m args below meth c hC hX H la locs hH hS hL => lv_icmp_ge hC.1 hC.2.1 hd ht (fun h => kt h p e s m args below meth c hC hX H la locs hH hS hL) (fun h => kf h p e s m args below meth c hC hX H la locs hH hS hL)
theorem tl_icmp_gt {x y : Int32} {off : Int} {tgt : Nat} (hd : decode M.2.1 pc = .ok (.if_icmp .gt off, 3)) (ht : (pc : Int) + off = (tgt : Int)) (kt : y < x → tl_R E M X Z k n HP tgt ls st) (kf : ¬ y < x → tl_R E M X Z k n HP (pc + 3) ls st) : tl_R E M X Z k n HP pc ls (.int y :: .int x :: st) :=
  fun p e s m args below meth c hC hX H la locs hH hS hL => lv_icmp_gt hC.1 hC.2.1 hd ht (fun h => kt h p e s m args below meth c hC hX H la locs hH hS hL) (fun h => kf h p e s m args below meth c hC hX H la locs hH hS hL)
theorem tl_icmp_le {x y : Int32} {off : Int} {tgt : Nat} (hd : decode M.2.1 pc = .ok (.if_icmp .le off, 3)) (ht : (pc : Int) + off = (tgt : Int)) (kt : x ≤ y → tl_R E M X Z k n HP tgt ls st) (kf : ¬ x ≤ y → tl_R E M X Z k n HP (pc + 3) ls st) : tl_R E M X Z k n HP pc ls (.int y :: .int x :: st) :=
  fun p e s m args below meth c hC hX H la locs hH hS hL => lv_icmp_le hC.1 hC.2.1 hd ht (fun h => kt h p e s m args below meth c hC hX H la locs hH hS hL) (fun h => kf h p e s m args below meth c hC hX H la locs hH hS hL)
theorem tl_goto {off : Int} {tgt : Nat} (hd : decode M.2.1 pc = .ok (.goto off, 3)) (ht : (pc : Int) + off = (tgt : Int)) (kk : tl_R E M X Z k n HP tgt ls st) : tl_R E M X Z k n HP pc ls st :=
  fun p e s m args below meth c hC hX H la locs hH hS hL => lv_goto hC.1 hC.2.1 hd ht (kk p e s m args below meth c hC hX H la locs hH hS hL)
theorem tl_tableIn {dflt lo hi : Int} {offs : Array Int} {len : Nat} {x : Int32} {off : Int} {tgt : Nat} (hd : decode M.2.1 pc = .ok (.tableswitch dflt lo hi offs, len)) (h1 : ¬ x.toInt < lo) (h2 : ¬ hi < x.toInt) (ho : offs[(x.toInt - lo).toNat]? = some off) (ht : (pc : Int) + off = (tgt : Int)) (kk : tl_R E M X Z k n HP tgt ls st) : tl_R E M X Z k n HP pc ls (.int x :: st) :=
  fun p e s m args below meth c hC hX H la locs hH hS hL => lv_tableIn hC.1 hC.2.1 hd h1 h2 ho ht (kk p e s m args below meth c hC hX H la locs hH hS hL)
theorem tl_tableOut {dflt lo hi : Int} {offs : Array Int} {len : Nat} {x : Int32} {tgt : Nat} (hd : decode M.2.1 pc = .ok (.tableswitch dflt lo hi offs, len)) (h : x.toInt < lo ∨ hi < x.toInt) (ht : (pc : Int) + dflt = (tgt : Int)) (kk : tl_R E M X Z k n HP tgt ls st) : tl_R E M X Z k n HP pc ls (.int x :: st) :=
  fun p e s m args below meth c hC hX H la locs hH hS hL => lv_tableOut hC.1 hC.2.1 hd h ht (kk p e s m args below meth c hC hX H la locs hH hS hL)
theorem tl_lookup {dflt : Int} {ps : Array (Int × Int)} {len : Nat} {x : Int32} {off : Int} {tgt : Nat} (hd : decode M.2.1 pc = .ok (.lookupswitch dflt ps, len)) (hp : (ps.toList.zip (ps.toList.drop 1)).all (fun (a, next) => a.1 < next.1) = true) (ho : Op.lookupswitch.offset ps.toList dflt x.toInt = off) (ht : (pc : Int) + off = (tgt : Int)) (kk : tl_R E M X Z k n HP tgt ls st) : tl_R E M X Z k n HP pc ls (.int x :: st) :=
  fun p e s m args below meth c hC hX H la locs hH hS hL => lv_lookup hC.1 hC.2.1 hd hp ho ht (kk p e s m args below meth c hC hX H la locs hH hS hL)
end TLR
