/-! Rules of the law's walks: every method's cells are told by one number, its slots are six times that. -/
def tl_cH (M N : tl_M) (hh : tl_hs) (i cnt : Nat) : Prop := tl_w9 N hh ∈ tl_GW ∧ Cond.methodLink M.1.cls i N.1 ∈ tl_GW ∧ Cond.static N.1 ∈ tl_GW ∧ Cond.initialized N.1.cls ∈ tl_GW ∧ tl_cR M N cnt
abbrev tz_R (E : tl_E) (M : tl_M) (X : State → Array Value → Code → Prop) (Z : List Frame → Array Value → State → State → Prop) (k : Nat) (HP : Heap → Prop) (pc : Nat) (ls : List (Option Value)) (st : List Value) : Prop := tl_R E M X Z k (6 * k) HP pc ls st
abbrev tz_ML (E : tl_E) (M : tl_M) (av : List Value) (U : tz_U) (x : Int32) (V : tz_U) : Prop := tl_Met E M av (tz_HU E U) (tz_Q E x V)
abbrev tz_MH (E : tl_E) (M : tl_M) (hh : tl_hs) (av : List Value) (U : tz_U) (x : Int32) (V : tz_U) : Prop := tl_MetH E M hh av (tz_HU E U) (tz_Q E x V)
def tl_k {α β : Type} (f : α) (g : α → β) : β := g f
theorem tl_ki {α β : Type} {f : α} {g : α → Option β} {r : β} (h : tl_k f g = some r) : ∃ K, K = f ∧ g K = some r := ⟨f, rfl, h⟩
theorem tl_kb0 {A R : Type} {f K : A → Option R} {a : A} {r : R} (e : K = f) (h : K a = some r) : f a = some r := by rw [← e]; exact h
theorem tl_kb1 {A B R : Type} {f K : A → B → Option R} {a : A} {b : B} {r : R} (e : K = f) (h : K a b = some r) : f a b = some r := by rw [← e]; exact h
theorem tl_kb2 {A B C R : Type} {f K : A → B → C → Option R} {a : A} {b : B} {c : C} {r : R} (e : K = f) (h : K a b c = some r) : f a b c = some r := by rw [← e]; exact h
theorem tl_kb3 {A B C D R : Type} {f K : A → B → C → D → Option R} {a : A} {b : B} {c : C} {d : D} {r : R} (e : K = f) (h : K a b c d = some r) : f a b c d = some r := by rw [← e]; exact h
theorem tl_kb4 {A B C D F R : Type} {f K : A → B → C → D → F → Option R} {a : A} {b : B} {c : C} {d : D} {e9 : F} {r : R} (e : K = f) (h : K a b c d e9 = some r) : f a b c d e9 = some r := by rw [← e]; exact h
/-- locals that are forgotten -/
def tl_sub : List (Option Value) → List (Option Value) → Prop
  | [], [] => True
  | none :: t, _ :: t' => tl_sub t t'
  | some v :: t, o :: t' => o = some v ∧ tl_sub t t'
  | _, _ => False
theorem tl_sub_len : ∀ {l l' : List (Option Value)}, tl_sub l l' → l.length = l'.length
  | [], [], _ => rfl
  | [], _ :: _, h => h.elim
  | none :: t, [], h => h.elim
  | some _ :: t, [], h => h.elim
  | none :: t, _ :: t', h => congrArg (· + 1) (tl_sub_len (l := t) (l' := t') h)
  | some _ :: t, _ :: t', h => congrArg (· + 1) (tl_sub_len (l := t) (l' := t') h.2)
theorem tl_sub_ld : ∀ {l l' : List (Option Value)}, tl_sub l l' → ∀ (j : Nat) (v : Value), tl_ld l j = some v → tl_ld l' j = some v
  | [], [], _, _, _, h => h
  | [], _ :: _, h, _, _, _ => h.elim
  | none :: t, [], h, _, _, _ => h.elim
  | some _ :: t, [], h, _, _, _ => h.elim
  | none :: t, _ :: t', h, 0, v, e => by cases e
  | none :: t, _ :: t', h, j + 1, v, e => tl_sub_ld (l := t) (l' := t') h j v e
  | some _ :: t, _ :: t', h, 0, v, e => h.1.trans e
  | some _ :: t, _ :: t', h, j + 1, v, e => tl_sub_ld (l := t) (l' := t') h.2 j v e
/-- arithmetic shift to the right -/
def tz_shr (x y : Int32) : Int32 := x >>> (y &&& 31)
section TZR
variable {E : tl_E} {M N : tl_M} {X : State → Array Value → Code → Prop} {Z : List Frame → Array Value → State → State → Prop} {k n pc : Nat} {HP : Heap → Prop} {ls ls2 : List (Option Value)} {st rest : List Value} {U V : tz_U}
theorem tz_st (h : tz_R E M X Z 0 HP pc ls st) : tl_R E M X Z 0 0 HP pc ls st := h
theorem tz_wd {k2 : Nat} (h : k ≤ k2) (kk : tz_R E M X Z k2 HP pc ls st) : tz_R E M X Z k HP pc ls st := tl_widen h (by omega) kk
theorem tz_fg (hs : tl_sub ls2 ls) (kk : tl_R E M X Z k n HP pc ls2 st) : tl_R E M X Z k n HP pc ls st := by
  intro p e s m args below meth c hC hX H la locs hH hS hL
  refine kk p e s m args below meth c hC hX H la locs hH hS ⟨(tl_sub_len hs).trans hL.1, hL.2.1, hL.2.2.1, fun q hq => ?_⟩
  obtain ⟨j, h1, h2⟩ := (tl_lq_mem _ 0 q).mp hq
  exact hL.2.2.2 q ((tl_lq_mem _ 0 q).mpr ⟨j, h1, tl_sub_ld hs j _ h2⟩)
theorem tz_isto_n {q : Fin 4} {x : Int32} (hd : decode M.2.1 pc = .ok (.istore_n q, 1)) (hi : (q : Nat) < M.2.2.1) (kk : ∀ y, y = x → tl_R E M X Z k n HP (pc + 1) (tl_st ls (q : Nat) (.int y)) st) : tl_R E M X Z k n HP pc ls (.int x :: st) := tl_istore_n hd hi (kk _ rfl)
theorem tz_isto {i : Nat} {x : Int32} (hd : decode M.2.1 pc = .ok (.istore i, 2)) (hi : i < M.2.2.1) (kk : ∀ y, y = x → tl_R E M X Z k n HP (pc + 2) (tl_st ls i (.int y)) st) : tl_R E M X Z k n HP pc ls (.int x :: st) := tl_istore hd hi (kk _ rfl)
theorem tz_iincK {i : Nat} {q : Int} {x v : Int32} (hd : decode M.2.1 pc = .ok (.iinc i q, 3)) (hl : tl_ld ls i = some (.int x)) (hv : x + Int32.ofInt q = v) (hi : i < M.2.2.1) (kk : ∀ y, y = v → tl_R E M X Z k n HP (pc + 3) (tl_st ls i (.int y)) st) : tl_R E M X Z k n HP pc ls st := tl_iinc hd hl hv hi (kk _ rfl)
theorem tz_ishr {x y : Int32} (hd : decode M.2.1 pc = .ok (.ishr, 1)) (kk : tl_R E M X Z k n HP (pc + 1) ls (.int (tz_shr x y) :: st)) : tl_R E M X Z k n HP pc ls (.int y :: .int x :: st) :=
  fun p e s m args below meth c hC hX H la locs hH hS hL => lv_ishr hC.1 hC.2.1 hd (kk p e s m args below meth c hC hX H la locs hH hS hL)
theorem tz_ret {x r : Int32} {ty : FieldType} {CM : Nat} (hd : decode M.2.1 pc = .ok (.ireturn, 1)) (hr : M.2.2.2.1 = some ty) (hn : narrow ty (.int x) = .int x) (hM : CM ≤ M.2.2.2.2.cells ∧ 6 * CM ≤ M.2.2.2.2.slots) (hk : k ≤ CM) (h : (some (x, U) : Option (Int32 × tz_U)) = some (r, V)) : tz_R E M X (tl_Z E M (tz_Q E r V)) k (tz_HU E U) pc ls [.int x] := by
  cases h
  refine tl_iret hd hr hn (by omega) (by omega) (fun H hH => ?_)
  obtain ⟨u, h1, h2⟩ := hH
  exact ⟨u, ⟨rfl, h1⟩, h2⟩
theorem tz_aft {c k2 x : Nat} {y : Int32} (hm : N.2.2.2.2.cells = c ∧ N.2.2.2.2.slots = 6 * c) (hk : k + c ≤ k2) (kk : tz_R E M X Z k2 (tz_HU E V) x ls (.int y :: rest)) : ∀ r, tl_R E M X Z (k + N.2.2.2.2.cells) (6 * k + N.2.2.2.2.slots) (tz_Q E y V r) x ls (r.toList ++ rest) := by
  intro r p e s m args below meth c0 hC hX H la locs hH hS hL
  obtain ⟨v, ⟨rfl, h1⟩, h2⟩ := hH
  rw [hm.1, hm.2]
  exact W.widen hk (by omega) (kk p e s m args below meth c0 hC hX H la locs ⟨v, h1, h2⟩ hS hL)
theorem tz_cS {As : List Value} {i c k2 CM : Nat} {x : Int32} (hN : tz_ML E N As U x V) (hd : decode M.2.1 pc = .ok (.invokestatic i, 3)) (hc : tl_cS M N i As.length) (hm : N.2.2.2.2.cells = c ∧ N.2.2.2.2.slots = 6 * c) (hk : k + c ≤ k2) (hM : CM ≤ M.2.2.2.2.cells ∧ 6 * CM ≤ M.2.2.2.2.slots) (hk2 : k2 ≤ CM) (hr : (rest.map fun v => v.category).sum ≤ 8)
    (kk : tz_R E M X Z k2 (tz_HU E V) (pc + 3) ls (.int x :: rest)) : tz_R E M X Z k (tz_HU E U) pc ls (As.reverse ++ rest) :=
  tl_callS hN hd hc (by rw [hm.1, hm.2]; omega) hr (tz_aft hm hk kk)
theorem tz_cH0 {As : List Value} {i : Nat} {hh : tl_hs} {Q : Option Value → Heap → Prop} (hN : tl_MetH E N hh As HP Q) (hd : decode M.2.1 pc = .ok (.invokestatic i, 3)) (hc : tl_cH M N hh i As.length) (hf : k + N.2.2.2.2.cells ≤ M.2.2.2.2.cells ∧ n + N.2.2.2.2.slots ≤ M.2.2.2.2.slots) (hr : (rest.map fun v => v.category).sum ≤ 8)
    (kk : ∀ r, tl_R E M X Z (k + N.2.2.2.2.cells) (n + N.2.2.2.2.slots) (Q r) (pc + 3) ls (r.toList ++ rest)) : tl_R E M X Z k n HP pc ls (As.reverse ++ rest) := by
  intro p e s m args below meth c hC hX H la locs hH hS hL
  obtain ⟨c1, c2, c3, c4, c5, c6⟩ := hc
  have hts := hC.2.2.2.2.2.1
  have hG : GoodIn tl_GW (va_wsS M.1.cls i N.1 (tl_w9 N hh :: tl_GW)) := by
    intro w hw
    unfold va_wsS at hw
    rcases List.mem_append.mp hw with h | h
    · have h3 : w ∈ tl_GW := by
        rcases List.mem_cons.mp h with e1 | h
        · rw [e1]; exact c2
        · rcases List.mem_cons.mp h with e1 | h
          · rw [e1]; exact c3
          · rcases List.mem_cons.mp h with e1 | h
            · rw [e1]; exact c4
            · cases h
      exact ⟨h3, good_of_word (List.mem_filter.mp h3).2⟩
    · exact tl_goodInG c1 w h
  refine tl_after (vx_runSW (hh := hh) (bytes := N.2.1) (maxL := N.2.2.1) (ret := N.2.2.2.1) ⟨hC.1, hC.2.1, hC.2.2.2.1, hC.2.2.2.2.1, hts⟩ hN (vx_cwSW As.length hts hG rfl rfl rfl c5 c6) ⟨tl_blind E As HP, tl_pre hC.2.2.2.2.2.2.2.2.1 hC.2.2.2.2.2.2.2.2.2 hH hS⟩ rfl rfl (show la.size = _ from hL.2.1) rfl (lv_room hr) hd hf) hS ?_
  exact fun r H1 locs1 hq hS1 => kk r p e s m args below meth c hC hX H1 la locs1 hq hS1 hL
theorem tz_cH {As : List Value} {i c k2 CM : Nat} {x : Int32} {hh : tl_hs} (hN : tz_MH E N hh As U x V) (hd : decode M.2.1 pc = .ok (.invokestatic i, 3)) (hc : tl_cH M N hh i As.length) (hm : N.2.2.2.2.cells = c ∧ N.2.2.2.2.slots = 6 * c) (hk : k + c ≤ k2) (hM : CM ≤ M.2.2.2.2.cells ∧ 6 * CM ≤ M.2.2.2.2.slots) (hk2 : k2 ≤ CM) (hr : (rest.map fun v => v.category).sum ≤ 8)
    (kk : tz_R E M X Z k2 (tz_HU E V) (pc + 3) ls (.int x :: rest)) : tz_R E M X Z k (tz_HU E U) pc ls (As.reverse ++ rest) :=
  tz_cH0 hN hd hc (by rw [hm.1, hm.2]; omega) hr (tz_aft hm hk kk)
theorem tz_cD {i c k2 CM a : Nat} {x : Int32} (ha : tz_on E a) (hN : tz_ML E N [.ref a] U x V) (hcls : N.1.cls = RX9) (hd : decode M.2.1 pc = .ok (.invokevirtual i, 3)) (hc : tl_cV M N i 0) (hm : N.2.2.2.2.cells = c ∧ N.2.2.2.2.slots = 6 * c) (hk : k + c ≤ k2) (hM : CM ≤ M.2.2.2.2.cells ∧ 6 * CM ≤ M.2.2.2.2.slots) (hk2 : k2 ≤ CM) (hr : (rest.map fun v => v.category).sum ≤ 8)
    (kk : tz_R E M X Z k2 (tz_HU E V) (pc + 3) ls (.int x :: rest)) : tz_R E M X Z k (tz_HU E U) pc ls (.ref a :: rest) := by
  refine tl_callV (As := []) hN (fun s H hKK hH => ?_) hd hc (by rw [hm.1, hm.2]; omega) hr (tz_aft hm hk kk)
  obtain ⟨u, h1, h2⟩ := hH
  rw [hcls]
  exact tl_recv tl_ck9 (tz_T9 ha) s H hKK h2
theorem tz_cS1 {a0 : Value} {i c : Nat} {x : Int32} (hN : tz_ML E N [a0] U x V) (hd : decode M.2.1 pc = .ok (.invokestatic i, 3)) (hc : tl_cS M N i 1) (hm : N.2.2.2.2.cells = c ∧ N.2.2.2.2.slots = 6 * c) {k2 : Nat} (hk : k + c ≤ k2) {CM : Nat} (hM : CM ≤ M.2.2.2.2.cells ∧ 6 * CM ≤ M.2.2.2.2.slots) (hk2 : k2 ≤ CM) (hr : (rest.map fun v => v.category).sum ≤ 8)
    (kk : tz_R E M X Z k2 (tz_HU E V) (pc + 3) ls (.int x :: rest)) : tz_R E M X Z k (tz_HU E U) pc ls (a0 :: rest) := tz_cS (As := [a0]) hN hd hc hm hk hM hk2 hr kk
theorem tz_cH1 {a0 : Value} {i c : Nat} {x : Int32} {hh : tl_hs} (hN : tz_MH E N hh [a0] U x V) (hd : decode M.2.1 pc = .ok (.invokestatic i, 3)) (hc : tl_cH M N hh i 1) (hm : N.2.2.2.2.cells = c ∧ N.2.2.2.2.slots = 6 * c) {k2 : Nat} (hk : k + c ≤ k2) {CM : Nat} (hM : CM ≤ M.2.2.2.2.cells ∧ 6 * CM ≤ M.2.2.2.2.slots) (hk2 : k2 ≤ CM) (hr : (rest.map fun v => v.category).sum ≤ 8)
    (kk : tz_R E M X Z k2 (tz_HU E V) (pc + 3) ls (.int x :: rest)) : tz_R E M X Z k (tz_HU E U) pc ls (a0 :: rest) := tz_cH (As := [a0]) hN hd hc hm hk hM hk2 hr kk
theorem tz_cS2 {a0 b0 : Value} {i c : Nat} {x : Int32} (hN : tz_ML E N [a0, b0] U x V) (hd : decode M.2.1 pc = .ok (.invokestatic i, 3)) (hc : tl_cS M N i 2) (hm : N.2.2.2.2.cells = c ∧ N.2.2.2.2.slots = 6 * c) {k2 : Nat} (hk : k + c ≤ k2) {CM : Nat} (hM : CM ≤ M.2.2.2.2.cells ∧ 6 * CM ≤ M.2.2.2.2.slots) (hk2 : k2 ≤ CM) (hr : (rest.map fun v => v.category).sum ≤ 8)
    (kk : tz_R E M X Z k2 (tz_HU E V) (pc + 3) ls (.int x :: rest)) : tz_R E M X Z k (tz_HU E U) pc ls (b0 :: a0 :: rest) := tz_cS (As := [a0, b0]) hN hd hc hm hk hM hk2 hr kk
theorem tz_cH2 {a0 b0 : Value} {i c : Nat} {x : Int32} {hh : tl_hs} (hN : tz_MH E N hh [a0, b0] U x V) (hd : decode M.2.1 pc = .ok (.invokestatic i, 3)) (hc : tl_cH M N hh i 2) (hm : N.2.2.2.2.cells = c ∧ N.2.2.2.2.slots = 6 * c) {k2 : Nat} (hk : k + c ≤ k2) {CM : Nat} (hM : CM ≤ M.2.2.2.2.cells ∧ 6 * CM ≤ M.2.2.2.2.slots) (hk2 : k2 ≤ CM) (hr : (rest.map fun v => v.category).sum ≤ 8)
    (kk : tz_R E M X Z k2 (tz_HU E V) (pc + 3) ls (.int x :: rest)) : tz_R E M X Z k (tz_HU E U) pc ls (b0 :: a0 :: rest) := tz_cH (As := [a0, b0]) hN hd hc hm hk hM hk2 hr kk
theorem tz_cS3 {a0 b0 c0 : Value} {i c : Nat} {x : Int32} (hN : tz_ML E N [a0, b0, c0] U x V) (hd : decode M.2.1 pc = .ok (.invokestatic i, 3)) (hc : tl_cS M N i 3) (hm : N.2.2.2.2.cells = c ∧ N.2.2.2.2.slots = 6 * c) {k2 : Nat} (hk : k + c ≤ k2) {CM : Nat} (hM : CM ≤ M.2.2.2.2.cells ∧ 6 * CM ≤ M.2.2.2.2.slots) (hk2 : k2 ≤ CM) (hr : (rest.map fun v => v.category).sum ≤ 8)
    (kk : tz_R E M X Z k2 (tz_HU E V) (pc + 3) ls (.int x :: rest)) : tz_R E M X Z k (tz_HU E U) pc ls (c0 :: b0 :: a0 :: rest) := tz_cS (As := [a0, b0, c0]) hN hd hc hm hk hM hk2 hr kk
theorem tz_cH3 {a0 b0 c0 : Value} {i c : Nat} {x : Int32} {hh : tl_hs} (hN : tz_MH E N hh [a0, b0, c0] U x V) (hd : decode M.2.1 pc = .ok (.invokestatic i, 3)) (hc : tl_cH M N hh i 3) (hm : N.2.2.2.2.cells = c ∧ N.2.2.2.2.slots = 6 * c) {k2 : Nat} (hk : k + c ≤ k2) {CM : Nat} (hM : CM ≤ M.2.2.2.2.cells ∧ 6 * CM ≤ M.2.2.2.2.slots) (hk2 : k2 ≤ CM) (hr : (rest.map fun v => v.category).sum ≤ 8)
    (kk : tz_R E M X Z k2 (tz_HU E V) (pc + 3) ls (.int x :: rest)) : tz_R E M X Z k (tz_HU E U) pc ls (c0 :: b0 :: a0 :: rest) := tz_cH (As := [a0, b0, c0]) hN hd hc hm hk hM hk2 hr kk
theorem tz_cS4 {a0 b0 c0 d0 : Value} {i c : Nat} {x : Int32} (hN : tz_ML E N [a0, b0, c0, d0] U x V) (hd : decode M.2.1 pc = .ok (.invokestatic i, 3)) (hc : tl_cS M N i 4) (hm : N.2.2.2.2.cells = c ∧ N.2.2.2.2.slots = 6 * c) {k2 : Nat} (hk : k + c ≤ k2) {CM : Nat} (hM : CM ≤ M.2.2.2.2.cells ∧ 6 * CM ≤ M.2.2.2.2.slots) (hk2 : k2 ≤ CM) (hr : (rest.map fun v => v.category).sum ≤ 8)
    (kk : tz_R E M X Z k2 (tz_HU E V) (pc + 3) ls (.int x :: rest)) : tz_R E M X Z k (tz_HU E U) pc ls (d0 :: c0 :: b0 :: a0 :: rest) := tz_cS (As := [a0, b0, c0, d0]) hN hd hc hm hk hM hk2 hr kk
theorem tz_cH4 {a0 b0 c0 d0 : Value} {i c : Nat} {x : Int32} {hh : tl_hs} (hN : tz_MH E N hh [a0, b0, c0, d0] U x V) (hd : decode M.2.1 pc = .ok (.invokestatic i, 3)) (hc : tl_cH M N hh i 4) (hm : N.2.2.2.2.cells = c ∧ N.2.2.2.2.slots = 6 * c) {k2 : Nat} (hk : k + c ≤ k2) {CM : Nat} (hM : CM ≤ M.2.2.2.2.cells ∧ 6 * CM ≤ M.2.2.2.2.slots) (hk2 : k2 ≤ CM) (hr : (rest.map fun v => v.category).sum ≤ 8)
    (kk : tz_R E M X Z k2 (tz_HU E V) (pc + 3) ls (.int x :: rest)) : tz_R E M X Z k (tz_HU E U) pc ls (d0 :: c0 :: b0 :: a0 :: rest) := tz_cH (As := [a0, b0, c0, d0]) hN hd hc hm hk hM hk2 hr kk
theorem tz_cS5 {a0 b0 c0 d0 e0 : Value} {i c : Nat} {x : Int32} (hN : tz_ML E N [a0, b0, c0, d0, e0] U x V) (hd : decode M.2.1 pc = .ok (.invokestatic i, 3)) (hc : tl_cS M N i 5) (hm : N.2.2.2.2.cells = c ∧ N.2.2.2.2.slots = 6 * c) {k2 : Nat} (hk : k + c ≤ k2) {CM : Nat} (hM : CM ≤ M.2.2.2.2.cells ∧ 6 * CM ≤ M.2.2.2.2.slots) (hk2 : k2 ≤ CM) (hr : (rest.map fun v => v.category).sum ≤ 8)
    (kk : tz_R E M X Z k2 (tz_HU E V) (pc + 3) ls (.int x :: rest)) : tz_R E M X Z k (tz_HU E U) pc ls (e0 :: d0 :: c0 :: b0 :: a0 :: rest) := tz_cS (As := [a0, b0, c0, d0, e0]) hN hd hc hm hk hM hk2 hr kk
theorem tz_cH5 {a0 b0 c0 d0 e0 : Value} {i c : Nat} {x : Int32} {hh : tl_hs} (hN : tz_MH E N hh [a0, b0, c0, d0, e0] U x V) (hd : decode M.2.1 pc = .ok (.invokestatic i, 3)) (hc : tl_cH M N hh i 5) (hm : N.2.2.2.2.cells = c ∧ N.2.2.2.2.slots = 6 * c) {k2 : Nat} (hk : k + c ≤ k2) {CM : Nat} (hM : CM ≤ M.2.2.2.2.cells ∧ 6 * CM ≤ M.2.2.2.2.slots) (hk2 : k2 ≤ CM) (hr : (rest.map fun v => v.category).sum ≤ 8)
    (kk : tz_R E M X Z k2 (tz_HU E V) (pc + 3) ls (.int x :: rest)) : tz_R E M X Z k (tz_HU E U) pc ls (e0 :: d0 :: c0 :: b0 :: a0 :: rest) := tz_cH (As := [a0, b0, c0, d0, e0]) hN hd hc hm hk hM hk2 hr kk
theorem tz_cS6 {a0 b0 c0 d0 e0 f0 : Value} {i c : Nat} {x : Int32} (hN : tz_ML E N [a0, b0, c0, d0, e0, f0] U x V) (hd : decode M.2.1 pc = .ok (.invokestatic i, 3)) (hc : tl_cS M N i 6) (hm : N.2.2.2.2.cells = c ∧ N.2.2.2.2.slots = 6 * c) {k2 : Nat} (hk : k + c ≤ k2) {CM : Nat} (hM : CM ≤ M.2.2.2.2.cells ∧ 6 * CM ≤ M.2.2.2.2.slots) (hk2 : k2 ≤ CM) (hr : (rest.map fun v => v.category).sum ≤ 8)
    (kk : tz_R E M X Z k2 (tz_HU E V) (pc + 3) ls (.int x :: rest)) : tz_R E M X Z k (tz_HU E U) pc ls (f0 :: e0 :: d0 :: c0 :: b0 :: a0 :: rest) := tz_cS (As := [a0, b0, c0, d0, e0, f0]) hN hd hc hm hk hM hk2 hr kk
theorem tz_cH6 {a0 b0 c0 d0 e0 f0 : Value} {i c : Nat} {x : Int32} {hh : tl_hs} (hN : tz_MH E N hh [a0, b0, c0, d0, e0, f0] U x V) (hd : decode M.2.1 pc = .ok (.invokestatic i, 3)) (hc : tl_cH M N hh i 6) (hm : N.2.2.2.2.cells = c ∧ N.2.2.2.2.slots = 6 * c) {k2 : Nat} (hk : k + c ≤ k2) {CM : Nat} (hM : CM ≤ M.2.2.2.2.cells ∧ 6 * CM ≤ M.2.2.2.2.slots) (hk2 : k2 ≤ CM) (hr : (rest.map fun v => v.category).sum ≤ 8)
    (kk : tz_R E M X Z k2 (tz_HU E V) (pc + 3) ls (.int x :: rest)) : tz_R E M X Z k (tz_HU E U) pc ls (f0 :: e0 :: d0 :: c0 :: b0 :: a0 :: rest) := tz_cH (As := [a0, b0, c0, d0, e0, f0]) hN hd hc hm hk hM hk2 hr kk
end TZR
