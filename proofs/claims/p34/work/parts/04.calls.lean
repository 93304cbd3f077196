/-! Contracts, calls, returns. -/
abbrev tl_Fr (E : tl_E) : Nat → Prop := fun q => E.2.1 ≤ q
def tl_w (M : tl_M) : Cond := Cond.code M.1 M.2.1 M.2.2.1 M.2.2.2.1
def tl_Pc (E : tl_E) (av : List Value) (HP : Heap → Prop) : Array Value → State → Prop := fun v U => v = av.toArray ∧ HP U.heap ∧ tl_KK E U ∧ E.2.1 ≤ U.heap.size
def tl_Qc (E : tl_E) (Q : Option Value → Heap → Prop) : Array Value → State → Outcome → State → Prop := fun _ st o t => (∃ r, o = .returned r ∧ Q r t.heap) ∧ va_F (tl_Fr E) st t
def tl_Met (E : tl_E) (M : tl_M) (av : List Value) (HP : Heap → Prop) (Q : Option Value → Heap → Prop) : Prop :=
  Met E.1 M.1 (tl_w M :: tl_GW) M.2.2.2.2 (tl_Pc E av HP) (tl_Qc E Q) M.2.2.2.2.cells M.2.2.2.2.slots (tl_Fr E)
def tl_Z (E : tl_E) (M : tl_M) (Q : Option Value → Heap → Prop) : List Frame → Array Value → State → State → Prop := fun below args s => MQ below (tl_Qc E Q) args s M.2.2.2.2.cells M.2.2.2.2.slots (tl_Fr E)
def tl_X0 : State → Array Value → Code → Prop := fun _ _ _ => True
theorem tl_blind (E : tl_E) (av : List Value) (HP : Heap → Prop) : FrameBlind (tl_Pc E av HP) := fun a U g mk h =>
  ⟨h.1, h.2.1, tl_KK_step (U := U.calling g mk a) h.2.2.1 (State.WarmedH.refl U) (fun _ _ _ => rfl), h.2.2.2⟩
theorem tl_start {E : tl_E} {M : tl_M} {av : List Value} {HP : Heap → Prop} {Q : Option Value → Heap → Prop} (ls0 : List (Option Value)) (hy : plainName M.1.cls = true) (h0 : ls0.length = M.2.2.1) (hls : tl_lq ls0 0 = lv_args 0 av) (hlen : (lg_sl av).length ≤ M.2.2.1)
    (body : tl_R E M tl_X0 (tl_Z E M Q) 0 0 HP 0 ls0 []) : tl_Met E M av HP Q := by
  refine Met.ofW (cc := M.2.1) (maxL := M.2.2.1) (ret := M.2.2.2.1) hy rfl ?_
  intro p e s m args below meth c s₁ B hml hv
  obtain ⟨rfl, hH, hKK, hz⟩ := hv
  have hts := atoms_spec (ws := tl_w M :: tl_GW) B.pre
  rw [lg_entry_eq]
  refine body p e s m _ below meth c ⟨B.exec, B.bytes, B.returns, hml, findClass_of_methodNamed B.named, fun w hw => hts w (List.mem_cons_of_mem _ hw), B.notSynchronized, (name_of_methodNamed B.named B.method).1, hKK, hz⟩ trivial s.heap _ [] hH va_S.rf ⟨h0, ?_⟩
  rw [hls]
  exact lv_entry av hlen
section TLQ
variable {E : tl_E} {M N : tl_M} {X : State → Array Value → Code → Prop} {Z : List Frame → Array Value → State → State → Prop} {k n pc : Nat} {HP : Heap → Prop} {Q : Option Value → Heap → Prop} {ls : List (Option Value)} {st rest : List Value}
theorem tl_iret {v : Int32} {ty : FieldType} (hd : decode M.2.1 pc = .ok (.ireturn, 1)) (hr : M.2.2.2.1 = some ty) (hn : narrow ty (.int v) = .int v) (hk : k ≤ M.2.2.2.2.cells) (hn2 : n ≤ M.2.2.2.2.slots) (hq : ∀ H, HP H → Q (some (.int v)) H) : tl_R E M X (tl_Z E M Q) k n HP pc ls [.int v] := by
  intro p e s m args below meth c hC hX H la locs hH hS hL
  refine W.widen hk hn2 ?_
  exact W.zret hC.1 hC.2.1 (hC.2.2.1.trans hr) hn (fun t ht hW => ⟨⟨_, rfl, by rw [ht]; exact hq H hH⟩, hS.F ht⟩) (fun q hq => hS.2.2 q hq) hd (hlocks := hC.2.2.2.2.2.2.1)
theorem tl_vret (hd : decode M.2.1 pc = .ok (.return_, 1)) (hr : M.2.2.2.1 = none) (hk : k ≤ M.2.2.2.2.cells) (hn2 : n ≤ M.2.2.2.2.slots) (hq : ∀ H, HP H → Q none H) : tl_R E M X (tl_Z E M Q) k n HP pc ls [] := by
  intro p e s m args below meth c hC hX H la locs hH hS hL
  refine W.widen hk hn2 ?_
  exact W.vret hC.1 hC.2.1 (hC.2.2.1.trans hr) (fun t ht hW => ⟨⟨_, rfl, by rw [ht]; exact hq H hH⟩, hS.F ht⟩) (fun q hq => hS.2.2 q hq) hd (hlocks := hC.2.2.2.2.2.2.1)
theorem tl_lret {v : Int64} (hd : decode M.2.1 pc = .ok (.lreturn, 1)) (hr : M.2.2.2.1 = some .long) (hk : k ≤ M.2.2.2.2.cells) (hn2 : n ≤ M.2.2.2.2.slots) (hq : ∀ H, HP H → Q (some (.long v)) H) : tl_R E M X (tl_Z E M Q) k n HP pc ls [.long v] := by
  intro p e s m args below meth c hC hX H la locs hH hS hL
  refine W.widen hk hn2 ?_
  exact W.lret hC.1 hC.2.1 (hC.2.2.1.trans hr) (fun t ht hW => ⟨⟨_, rfl, by rw [ht]; exact hq H hH⟩, hS.F ht⟩) (fun q hq => hS.2.2 q hq) hd (hlocks := hC.2.2.2.2.2.2.1)
/-- behind a call -/
theorem tl_after {p : Program} {l : Launch} {e : Env} {R : Room} {s : State} {m : MethodId} {args : Array Value} {below : List Frame} {meth : Method} {c : Code} {H : Heap} {locs : List Loc} {mc ms : Nat} {la : Array Slot} {st0 : List Value} {a : Array Value} {Qz : State → Prop}
    (hr : va_Run p l e R s m args below meth c H locs k n mc ms (F0 m pc la st0) rest (tl_Qc E Q a) (tl_Fr E)) (hS : va_S (tl_Fr E) s.heap H locs)
    (kk : ∀ (r : Option Value) (H1 : Heap) (locs1 : List Loc), Q r H1 → va_S (tl_Fr E) s.heap H1 locs1 → W p l e R s m args below meth c H1 locs1 (k + mc) (n + ms) Qz (F0 m (pc + 3) la (r.toList ++ rest))) : W p l e R s m args below meth c H locs k n Qz (F0 m pc la st0) := by
  intro T hT X
  obtain ⟨v, st₀, t, T', L, h0, X', hL, e1, e2, ⟨⟨r, hv, hq⟩, hz, hk⟩, st⟩ := hr T hT X
  cases hv
  rw [h0] at hz hk
  obtain ⟨t2, a1, b1⟩ := kk v T'.heap (locs ++ L) (by rw [e1]; exact hq)
    ⟨Nat.le_trans hS.1 (by rw [e1]; exact hz), fun q h1 h2 => by rw [e1, hk q (Nat.lt_of_lt_of_le h1 hS.1) h2]; exact hS.2.1 q h1 h2, fun q hq => by
      rcases List.mem_append.mp hq with h | h
      · exact hS.2.2 q h
      · exact hL q h⟩ T' rfl X'
  exact ⟨t2, st t2 a1, b1⟩
/-- what a call site asks of the tables and of the room -/
def tl_cR (M N : tl_M) (cnt : Nat) : Prop := (N.1.cls ≠ "java/lang/invoke/MethodHandle" ∧ N.1.cls ≠ "java/lang/invoke/VarHandle" ∧ (parseMethodDescriptor N.1.desc).map (fun d => d.parameters.length) = some cnt) ∧ (N.2.2.2.2.frames + 1 ≤ M.2.2.2.2.frames ∧ 8 + (N.2.2.1 + 11) + N.2.2.2.2.locals ≤ M.2.2.2.2.locals)
def tl_cS (M N : tl_M) (i cnt : Nat) : Prop := tl_w N ∈ tl_GW ∧ Cond.methodLink M.1.cls i N.1 ∈ tl_GW ∧ Cond.static N.1 ∈ tl_GW ∧ Cond.initialized N.1.cls ∈ tl_GW ∧ tl_cR M N cnt
def tl_cV (M N : tl_M) (i cnt : Nat) : Prop := tl_w N ∈ tl_GW ∧ Cond.methodLink M.1.cls i N.1 ∈ tl_GW ∧ Cond.instanceMethod N.1 ∈ tl_GW ∧ Cond.selects N.1.cls N.1 N.1 ∈ tl_GW ∧ Cond.initialized N.1.cls ∈ tl_GW ∧ tl_cR M N cnt
def tl_cN (M N : tl_M) (i cnt : Nat) : Prop := tl_w N ∈ tl_GW ∧ (M.1.cls, i, N.1) ∈ tl_NM ∧ Cond.static N.1 ∈ tl_GW ∧ Cond.initialized N.1.cls ∈ tl_GW ∧ tl_cR M N cnt
def tl_cI (M N : tl_M) (i cnt : Nat) : Prop := tl_w N ∈ tl_GW ∧ Cond.methodLink M.1.cls i N.1 ∈ tl_GW ∧ Cond.instanceMethod N.1 ∈ tl_GW ∧ Cond.initialized N.1.cls ∈ tl_GW ∧ N.1.name = "<init>" ∧ N.2.2.2.1 = none ∧ tl_cR M N cnt
def tl_cIN (M N : tl_M) (i cnt : Nat) : Prop := tl_w N ∈ tl_GW ∧ (M.1.cls, i, N.1) ∈ tl_NM ∧ Cond.instanceMethod N.1 ∈ tl_GW ∧ Cond.initialized N.1.cls ∈ tl_GW ∧ N.1.name = "<init>" ∧ N.2.2.2.1 = none ∧ tl_cR M N cnt
theorem tl_pre {s : State} {H : Heap} {locs : List Loc} {av : List Value} (hKK : tl_KK E s) (hz : E.2.1 ≤ s.heap.size) (hH : HP H) (hS : va_S (tl_Fr E) s.heap H locs) : ∀ U : State, U.heap = H → s.WarmedH U.vm → tl_Pc E av HP av.toArray U := fun U hU hW =>
  ⟨rfl, by rw [hU]; exact hH, tl_KK_step hKK hW (fun a h1 h2 => by rw [hU]; exact hS.2.1 a h1 h2), by rw [hU]; exact Nat.le_trans hz hS.1⟩
theorem tl_callS {As : List Value} {i : Nat} (hN : tl_Met E N As HP Q) (hd : decode M.2.1 pc = .ok (.invokestatic i, 3)) (hc : tl_cS M N i As.length) (hf : k + N.2.2.2.2.cells ≤ M.2.2.2.2.cells ∧ n + N.2.2.2.2.slots ≤ M.2.2.2.2.slots) (hr : (rest.map fun v => v.category).sum ≤ 8)
    (kk : ∀ r, tl_R E M X Z (k + N.2.2.2.2.cells) (n + N.2.2.2.2.slots) (Q r) (pc + 3) ls (r.toList ++ rest)) : tl_R E M X Z k n HP pc ls (As.reverse ++ rest) := by
  intro p e s m args below meth c hC hX H la locs hH hS hL
  obtain ⟨c1, c2, c3, c4, c5, c6⟩ := hc
  have hts := hC.2.2.2.2.2.1
  refine tl_after (va_runS ⟨hC.1, hC.2.1, hC.2.2.2.1, hC.2.2.2.2.1, hts⟩ hN ⟨callB_of As.length hts (tl_goodInG c1) rfl rfl rfl (hts _ c4) (hts _ c2) c5 c6, hts _ c3⟩ ⟨tl_blind E As HP, tl_pre hC.2.2.2.2.2.2.2.2.1 hC.2.2.2.2.2.2.2.2.2 hH hS⟩ rfl rfl (show la.size = _ from hL.2.1) rfl (lv_room hr) hd hf) hS ?_
  exact fun r H1 locs1 hq hS1 => kk r p e s m args below meth c hC hX H1 la locs1 hq hS1 hL
theorem tl_callN {As : List Value} {i : Nat} (hN : tl_Met E N As HP Q) (hd : decode M.2.1 pc = .ok (.invokestatic i, 3)) (hc : tl_cN M N i As.length) (hf : k + N.2.2.2.2.cells ≤ M.2.2.2.2.cells ∧ n + N.2.2.2.2.slots ≤ M.2.2.2.2.slots) (hr : (rest.map fun v => v.category).sum ≤ 8)
    (kk : ∀ r, tl_R E M X Z (k + N.2.2.2.2.cells) (n + N.2.2.2.2.slots) (Q r) (pc + 3) ls (r.toList ++ rest)) : tl_R E M X Z k n HP pc ls (As.reverse ++ rest) := by
  intro p e s m args below meth c hC hX H la locs hH hS hL
  obtain ⟨c1, c2, c3, c4, c5, c6⟩ := hc
  have hts := hC.2.2.2.2.2.1
  have hKK := hC.2.2.2.2.2.2.2.2.1
  refine tl_after (va_runSN ⟨hC.1, hC.2.1, hC.2.2.2.1, hC.2.2.2.2.1, hts⟩ hN ⟨va_cnB As.length hts (tl_goodInG c1) rfl rfl rfl (hKK.2.2.1 _ c2) (hts _ c4) c5 c6, hts _ c3, trivial⟩ ⟨tl_blind E As HP, tl_pre hKK hC.2.2.2.2.2.2.2.2.2 hH hS⟩ rfl rfl (show la.size = _ from hL.2.1) rfl (lv_room hr) hd hf) hS ?_
  exact fun r H1 locs1 hq hS1 => kk r p e s m args below meth c hC hX H1 la locs1 hq hS1 hL
theorem tl_callI {As : List Value} {i b : Nat} (hN : tl_Met E N (.ref b :: As) HP Q) (hd : decode M.2.1 pc = .ok (.invokespecial i, 3)) (hc : tl_cI M N i As.length) (hf : k + N.2.2.2.2.cells ≤ M.2.2.2.2.cells ∧ n + N.2.2.2.2.slots ≤ M.2.2.2.2.slots) (hr : (rest.map fun v => v.category).sum ≤ 8)
    (kk : ∀ r, tl_R E M X Z (k + N.2.2.2.2.cells) (n + N.2.2.2.2.slots) (Q r) (pc + 3) ls (r.toList ++ rest)) : tl_R E M X Z k n HP pc ls (As.reverse ++ .ref b :: rest) := by
  intro p e s m args below meth c hC hX H la locs hH hS hL
  obtain ⟨c1, c2, c3, c4, c7, c8, c5, c6⟩ := hc
  have hts := hC.2.2.2.2.2.1
  unfold tl_Met at hN
  unfold tl_w at hN c1
  rw [c8] at hN c1
  refine tl_after (va_runI ⟨hC.1, hC.2.1, hC.2.2.2.1, hC.2.2.2.2.1, hts⟩ hN ⟨callB_of As.length hts (tl_goodInG c1) rfl rfl rfl (hts _ c4) (hts _ c2) c5 c6, c7, hts _ c3⟩ ⟨tl_blind E _ HP, tl_pre hC.2.2.2.2.2.2.2.2.1 hC.2.2.2.2.2.2.2.2.2 hH hS⟩ rfl rfl (show la.size = _ from hL.2.1) rfl (lv_room hr) hd hf) hS ?_
  exact fun r H1 locs1 hq hS1 => kk r p e s m args below meth c hC hX H1 la locs1 hq hS1 hL
theorem tl_callIN {As : List Value} {i b : Nat} (hN : tl_Met E N (.ref b :: As) HP Q) (hd : decode M.2.1 pc = .ok (.invokespecial i, 3)) (hc : tl_cIN M N i As.length) (hf : k + N.2.2.2.2.cells ≤ M.2.2.2.2.cells ∧ n + N.2.2.2.2.slots ≤ M.2.2.2.2.slots) (hr : (rest.map fun v => v.category).sum ≤ 8)
    (kk : ∀ r, tl_R E M X Z (k + N.2.2.2.2.cells) (n + N.2.2.2.2.slots) (Q r) (pc + 3) ls (r.toList ++ rest)) : tl_R E M X Z k n HP pc ls (As.reverse ++ .ref b :: rest) := by
  intro p e s m args below meth c hC hX H la locs hH hS hL
  obtain ⟨c1, c2, c3, c4, c7, c8, c5, c6⟩ := hc
  have hts := hC.2.2.2.2.2.1
  have hKK := hC.2.2.2.2.2.2.2.2.1
  unfold tl_Met at hN
  unfold tl_w at hN c1
  rw [c8] at hN c1
  refine tl_after (va_runIN ⟨hC.1, hC.2.1, hC.2.2.2.1, hC.2.2.2.2.1, hts⟩ hN ⟨va_cnB As.length hts (tl_goodInG c1) rfl rfl rfl (hKK.2.2.1 _ c2) (hts _ c4) c5 c6, c7, hts _ c3⟩ ⟨tl_blind E _ HP, tl_pre hKK hC.2.2.2.2.2.2.2.2.2 hH hS⟩ rfl rfl (show la.size = _ from hL.2.1) rfl (lv_room hr) hd hf) hS ?_
  exact fun r H1 locs1 hq hS1 => kk r p e s m args below meth c hC hX H1 la locs1 hq hS1 hL
theorem tl_callV {As : List Value} {i b : Nat} (hN : tl_Met E N (.ref b :: As) HP Q) (hrc : ∀ (s : State) (H : Heap), tl_KK E s → HP H → ∃ cell : Cell, H[b]? = some cell ∧ cell.vm.isStatics = false ∧ s.vm.findClass N.1.cls = some cell.cls) (hd : decode M.2.1 pc = .ok (.invokevirtual i, 3)) (hc : tl_cV M N i As.length) (hf : k + N.2.2.2.2.cells ≤ M.2.2.2.2.cells ∧ n + N.2.2.2.2.slots ≤ M.2.2.2.2.slots) (hr : (rest.map fun v => v.category).sum ≤ 8)
    (kk : ∀ r, tl_R E M X Z (k + N.2.2.2.2.cells) (n + N.2.2.2.2.slots) (Q r) (pc + 3) ls (r.toList ++ rest)) : tl_R E M X Z k n HP pc ls (As.reverse ++ .ref b :: rest) := by
  intro p e s m args below meth c hC hX H la locs hH hS hL
  obtain ⟨c1, c2, c3, c4, c7, c5, c6⟩ := hc
  have hts := hC.2.2.2.2.2.1
  have hKK := hC.2.2.2.2.2.2.2.2.1
  refine tl_after (va_runV (C := N.1.cls) ⟨hC.1, hC.2.1, hC.2.2.2.1, hC.2.2.2.2.1, hts⟩ hN ⟨callB_of As.length hts (tl_goodInG c1) rfl rfl rfl (hts _ c7) (hts _ c2) c5 c6, hts _ c3, hts _ c4⟩ ⟨tl_blind E _ HP, hrc s H hKK hH, tl_pre hKK hC.2.2.2.2.2.2.2.2.2 hH hS⟩ rfl rfl (show la.size = _ from hL.2.1) rfl (lv_room hr) hd hf) hS ?_
  exact fun r H1 locs1 hq hS1 => kk r p e s m args below meth c hC hX H1 la locs1 hq hS1 hL
theorem tl_objInit {i a : Nat} (hd : decode M.2.1 pc = .ok (.invokespecial i, 3)) (hl : Cond.methodLink M.1.cls i Lib.objectInit ∈ tl_GW) (hi : Cond.instanceMethod Lib.objectInit ∈ tl_GW) (hcd : Cond.code Lib.objectInit ⟨#[0xb1]⟩ 1 none ∈ tl_GW) (hf : 1 ≤ M.2.2.2.2.frames) (hlo : 20 ≤ M.2.2.2.2.locals) (hr : (st.map fun v => v.category).sum ≤ 8)
    (kk : tl_R E M X Z k n HP (pc + 3) ls st) : tl_R E M X Z k n HP pc ls (.ref a :: st) := by
  intro p e s m args below meth c hC hX H la locs hH hS hL
  have hts := hC.2.2.2.2.2.1
  have h0 : 2 * (F0 m pc la (.ref a :: st)).monitorRoom + (st.map fun v => v.category).sum ≤ 8 := lv_room hr
  exact W.objInit hC.1 hC.2.1 hC.2.2.2.2.1 (hts _ hl) (hts _ hi) (hts _ hcd) rfl (show la.size = _ from hL.2.1.trans hC.2.2.2.1.symm) rfl hd hf (by omega) (kk p e s m args below meth c hC hX H la locs hH hS hL)
end TLQ
/-! ### contracts over the world as numbers -/
def tl_MB (E : tl_E) (M : tl_M) (av : List Value) (u : tl_S) (Q : Option Value → tl_S → Prop) : Prop := tl_Met E M av (tl_HB E u) (fun r H => ∃ v, Q r v ∧ tl_HB E v H)
abbrev tl_ZB (E : tl_E) (M : tl_M) (Q : Option Value → tl_S → Prop) : List Frame → Array Value → State → State → Prop := tl_Z E M (fun r H => ∃ v, Q r v ∧ tl_HB E v H)
/-- it answers x, and the world is v then -/
abbrev tl_Mi (E : tl_E) (M : tl_M) (av : List Value) (u : tl_S) (x : Int32) (v : tl_S) : Prop := tl_MB E M av u (fun r w => r = some (.int x) ∧ w = v)
abbrev tl_Mv (E : tl_E) (M : tl_M) (av : List Value) (u : tl_S) (v : tl_S) : Prop := tl_MB E M av u (fun r w => r = none ∧ w = v)
theorem tl_recv {E : tl_E} {u : tl_S} {b K : Nat} {C : String} {T : u_T} {N : Nat} {ty : Nat → FieldType} (ck : tl_ck K C T N ty) (hT : tl_T E.2.1 b = some K) : ∀ (s : State) (H : Heap), tl_KK E s → tl_HB E u H → ∃ cell : Cell, H[b]? = some cell ∧ cell.vm.isStatics = false ∧ s.vm.findClass C = some cell.cls := by
  intro s H hKK hH
  have hat := hH b K hT
  rw [tl_ce_obj ck.1] at hat
  exact va_recv (q := (C, T, N)) hKK.1 (tl_P1 hat) ck.2.1 (q0 := 0) rfl
section TLB
variable {E : tl_E} {M N : tl_M} {X : State → Array Value → Code → Prop} {Z : List Frame → Array Value → State → State → Prop} {k n pc : Nat} {u : tl_S} {Q QN : Option Value → tl_S → Prop} {ls : List (Option Value)} {rest : List Value}
theorem tl_iretB {v : Int32} {ty : FieldType} (hd : decode M.2.1 pc = .ok (.ireturn, 1)) (hr : M.2.2.2.1 = some ty) (hn : narrow ty (.int v) = .int v) (hk : k ≤ M.2.2.2.2.cells) (hn2 : n ≤ M.2.2.2.2.slots) (hq : Q (some (.int v)) u) : tl_R E M X (tl_ZB E M Q) k n (tl_HB E u) pc ls [.int v] :=
  tl_iret hd hr hn hk hn2 (fun H hH => ⟨u, hq, hH⟩)
theorem tl_vretB (hd : decode M.2.1 pc = .ok (.return_, 1)) (hr : M.2.2.2.1 = none) (hk : k ≤ M.2.2.2.2.cells) (hn2 : n ≤ M.2.2.2.2.slots) (hq : Q none u) : tl_R E M X (tl_ZB E M Q) k n (tl_HB E u) pc ls [] :=
  tl_vret hd hr hk hn2 (fun H hH => ⟨u, hq, hH⟩)
theorem tl_lretB {v : Int64} (hd : decode M.2.1 pc = .ok (.lreturn, 1)) (hr : M.2.2.2.1 = some .long) (hk : k ≤ M.2.2.2.2.cells) (hn2 : n ≤ M.2.2.2.2.slots) (hq : Q (some (.long v)) u) : tl_R E M X (tl_ZB E M Q) k n (tl_HB E u) pc ls [.long v] :=
  tl_lret hd hr hk hn2 (fun H hH => ⟨u, hq, hH⟩)
theorem tl_callS0 {i : Nat} (hN : tl_MB E N [] u QN) (hd : decode M.2.1 pc = .ok (.invokestatic i, 3)) (hc : tl_cS M N i 0) (hf : k + N.2.2.2.2.cells ≤ M.2.2.2.2.cells ∧ n + N.2.2.2.2.slots ≤ M.2.2.2.2.slots) (hr : (rest.map fun v => v.category).sum ≤ 8)
    (kk : ∀ r v, QN r v → tl_R E M X Z (k + N.2.2.2.2.cells) (n + N.2.2.2.2.slots) (tl_HB E v) (pc + 3) ls (r.toList ++ rest)) : tl_R E M X Z k n (tl_HB E u) pc ls (rest) :=
  tl_callS (As := []) hN hd hc hf hr (fun r => tl_ex (kk r))
theorem tl_callN0 {i : Nat} (hN : tl_MB E N [] u QN) (hd : decode M.2.1 pc = .ok (.invokestatic i, 3)) (hc : tl_cN M N i 0) (hf : k + N.2.2.2.2.cells ≤ M.2.2.2.2.cells ∧ n + N.2.2.2.2.slots ≤ M.2.2.2.2.slots) (hr : (rest.map fun v => v.category).sum ≤ 8)
    (kk : ∀ r v, QN r v → tl_R E M X Z (k + N.2.2.2.2.cells) (n + N.2.2.2.2.slots) (tl_HB E v) (pc + 3) ls (r.toList ++ rest)) : tl_R E M X Z k n (tl_HB E u) pc ls (rest) :=
  tl_callN (As := []) hN hd hc hf hr (fun r => tl_ex (kk r))
theorem tl_callV0 {i o K : Nat} {C : String} {T : u_T} {NN : Nat} {ty : Nat → FieldType} (ck : tl_ck K C T NN ty) (hC : N.1.cls = C) (hT : tl_T E.2.1 o = some K) (hN : tl_MB E N (.ref o :: []) u QN) (hd : decode M.2.1 pc = .ok (.invokevirtual i, 3)) (hc : tl_cV M N i 0) (hf : k + N.2.2.2.2.cells ≤ M.2.2.2.2.cells ∧ n + N.2.2.2.2.slots ≤ M.2.2.2.2.slots) (hr : (rest.map fun v => v.category).sum ≤ 8)
    (kk : ∀ r v, QN r v → tl_R E M X Z (k + N.2.2.2.2.cells) (n + N.2.2.2.2.slots) (tl_HB E v) (pc + 3) ls (r.toList ++ rest)) : tl_R E M X Z k n (tl_HB E u) pc ls (.ref o :: rest) :=
  tl_callV (As := []) hN (by rw [hC]; exact tl_recv ck hT) hd hc hf hr (fun r => tl_ex (kk r))
theorem tl_callS1 {a : Value} {i : Nat} (hN : tl_MB E N [a] u QN) (hd : decode M.2.1 pc = .ok (.invokestatic i, 3)) (hc : tl_cS M N i 1) (hf : k + N.2.2.2.2.cells ≤ M.2.2.2.2.cells ∧ n + N.2.2.2.2.slots ≤ M.2.2.2.2.slots) (hr : (rest.map fun v => v.category).sum ≤ 8)
    (kk : ∀ r v, QN r v → tl_R E M X Z (k + N.2.2.2.2.cells) (n + N.2.2.2.2.slots) (tl_HB E v) (pc + 3) ls (r.toList ++ rest)) : tl_R E M X Z k n (tl_HB E u) pc ls (a :: rest) :=
  tl_callS (As := [a]) hN hd hc hf hr (fun r => tl_ex (kk r))
theorem tl_callN1 {a : Value} {i : Nat} (hN : tl_MB E N [a] u QN) (hd : decode M.2.1 pc = .ok (.invokestatic i, 3)) (hc : tl_cN M N i 1) (hf : k + N.2.2.2.2.cells ≤ M.2.2.2.2.cells ∧ n + N.2.2.2.2.slots ≤ M.2.2.2.2.slots) (hr : (rest.map fun v => v.category).sum ≤ 8)
    (kk : ∀ r v, QN r v → tl_R E M X Z (k + N.2.2.2.2.cells) (n + N.2.2.2.2.slots) (tl_HB E v) (pc + 3) ls (r.toList ++ rest)) : tl_R E M X Z k n (tl_HB E u) pc ls (a :: rest) :=
  tl_callN (As := [a]) hN hd hc hf hr (fun r => tl_ex (kk r))
theorem tl_callV1 {a : Value} {i o K : Nat} {C : String} {T : u_T} {NN : Nat} {ty : Nat → FieldType} (ck : tl_ck K C T NN ty) (hC : N.1.cls = C) (hT : tl_T E.2.1 o = some K) (hN : tl_MB E N (.ref o :: [a]) u QN) (hd : decode M.2.1 pc = .ok (.invokevirtual i, 3)) (hc : tl_cV M N i 1) (hf : k + N.2.2.2.2.cells ≤ M.2.2.2.2.cells ∧ n + N.2.2.2.2.slots ≤ M.2.2.2.2.slots) (hr : (rest.map fun v => v.category).sum ≤ 8)
    (kk : ∀ r v, QN r v → tl_R E M X Z (k + N.2.2.2.2.cells) (n + N.2.2.2.2.slots) (tl_HB E v) (pc + 3) ls (r.toList ++ rest)) : tl_R E M X Z k n (tl_HB E u) pc ls (a :: .ref o :: rest) :=
  tl_callV (As := [a]) hN (by rw [hC]; exact tl_recv ck hT) hd hc hf hr (fun r => tl_ex (kk r))
theorem tl_callS2 {a b : Value} {i : Nat} (hN : tl_MB E N [a, b] u QN) (hd : decode M.2.1 pc = .ok (.invokestatic i, 3)) (hc : tl_cS M N i 2) (hf : k + N.2.2.2.2.cells ≤ M.2.2.2.2.cells ∧ n + N.2.2.2.2.slots ≤ M.2.2.2.2.slots) (hr : (rest.map fun v => v.category).sum ≤ 8)
    (kk : ∀ r v, QN r v → tl_R E M X Z (k + N.2.2.2.2.cells) (n + N.2.2.2.2.slots) (tl_HB E v) (pc + 3) ls (r.toList ++ rest)) : tl_R E M X Z k n (tl_HB E u) pc ls (b :: a :: rest) :=
  tl_callS (As := [a, b]) hN hd hc hf hr (fun r => tl_ex (kk r))
theorem tl_callN2 {a b : Value} {i : Nat} (hN : tl_MB E N [a, b] u QN) (hd : decode M.2.1 pc = .ok (.invokestatic i, 3)) (hc : tl_cN M N i 2) (hf : k + N.2.2.2.2.cells ≤ M.2.2.2.2.cells ∧ n + N.2.2.2.2.slots ≤ M.2.2.2.2.slots) (hr : (rest.map fun v => v.category).sum ≤ 8)
    (kk : ∀ r v, QN r v → tl_R E M X Z (k + N.2.2.2.2.cells) (n + N.2.2.2.2.slots) (tl_HB E v) (pc + 3) ls (r.toList ++ rest)) : tl_R E M X Z k n (tl_HB E u) pc ls (b :: a :: rest) :=
  tl_callN (As := [a, b]) hN hd hc hf hr (fun r => tl_ex (kk r))
theorem tl_callV2 {a b : Value} {i o K : Nat} {C : String} {T : u_T} {NN : Nat} {ty : Nat → FieldType} (ck : tl_ck K C T NN ty) (hC : N.1.cls = C) (hT : tl_T E.2.1 o = some K) (hN : tl_MB E N (.ref o :: [a, b]) u QN) (hd : decode M.2.1 pc = .ok (.invokevirtual i, 3)) (hc : tl_cV M N i 2) (hf : k + N.2.2.2.2.cells ≤ M.2.2.2.2.cells ∧ n + N.2.2.2.2.slots ≤ M.2.2.2.2.slots) (hr : (rest.map fun v => v.category).sum ≤ 8)
    (kk : ∀ r v, QN r v → tl_R E M X Z (k + N.2.2.2.2.cells) (n + N.2.2.2.2.slots) (tl_HB E v) (pc + 3) ls (r.toList ++ rest)) : tl_R E M X Z k n (tl_HB E u) pc ls (b :: a :: .ref o :: rest) :=
  tl_callV (As := [a, b]) hN (by rw [hC]; exact tl_recv ck hT) hd hc hf hr (fun r => tl_ex (kk r))
theorem tl_callS3 {a b c : Value} {i : Nat} (hN : tl_MB E N [a, b, c] u QN) (hd : decode M.2.1 pc = .ok (.invokestatic i, 3)) (hc : tl_cS M N i 3) (hf : k + N.2.2.2.2.cells ≤ M.2.2.2.2.cells ∧ n + N.2.2.2.2.slots ≤ M.2.2.2.2.slots) (hr : (rest.map fun v => v.category).sum ≤ 8)
    (kk : ∀ r v, QN r v → tl_R E M X Z (k + N.2.2.2.2.cells) (n + N.2.2.2.2.slots) (tl_HB E v) (pc + 3) ls (r.toList ++ rest)) : tl_R E M X Z k n (tl_HB E u) pc ls (c :: b :: a :: rest) :=
  tl_callS (As := [a, b, c]) hN hd hc hf hr (fun r => tl_ex (kk r))
theorem tl_callN3 {a b c : Value} {i : Nat} (hN : tl_MB E N [a, b, c] u QN) (hd : decode M.2.1 pc = .ok (.invokestatic i, 3)) (hc : tl_cN M N i 3) (hf : k + N.2.2.2.2.cells ≤ M.2.2.2.2.cells ∧ n + N.2.2.2.2.slots ≤ M.2.2.2.2.slots) (hr : (rest.map fun v => v.category).sum ≤ 8)
    (kk : ∀ r v, QN r v → tl_R E M X Z (k + N.2.2.2.2.cells) (n + N.2.2.2.2.slots) (tl_HB E v) (pc + 3) ls (r.toList ++ rest)) : tl_R E M X Z k n (tl_HB E u) pc ls (c :: b :: a :: rest) :=
  tl_callN (As := [a, b, c]) hN hd hc hf hr (fun r => tl_ex (kk r))
theorem tl_callV3 {a b c : Value} {i o K : Nat} {C : String} {T : u_T} {NN : Nat} {ty : Nat → FieldType} (ck : tl_ck K C T NN ty) (hC : N.1.cls = C) (hT : tl_T E.2.1 o = some K) (hN : tl_MB E N (.ref o :: [a, b, c]) u QN) (hd : decode M.2.1 pc = .ok (.invokevirtual i, 3)) (hc : tl_cV M N i 3) (hf : k + N.2.2.2.2.cells ≤ M.2.2.2.2.cells ∧ n + N.2.2.2.2.slots ≤ M.2.2.2.2.slots) (hr : (rest.map fun v => v.category).sum ≤ 8)
    (kk : ∀ r v, QN r v → tl_R E M X Z (k + N.2.2.2.2.cells) (n + N.2.2.2.2.slots) (tl_HB E v) (pc + 3) ls (r.toList ++ rest)) : tl_R E M X Z k n (tl_HB E u) pc ls (c :: b :: a :: .ref o :: rest) :=
  tl_callV (As := [a, b, c]) hN (by rw [hC]; exact tl_recv ck hT) hd hc hf hr (fun r => tl_ex (kk r))
theorem tl_callS4 {a b c d : Value} {i : Nat} (hN : tl_MB E N [a, b, c, d] u QN) (hd : decode M.2.1 pc = .ok (.invokestatic i, 3)) (hc : tl_cS M N i 4) (hf : k + N.2.2.2.2.cells ≤ M.2.2.2.2.cells ∧ n + N.2.2.2.2.slots ≤ M.2.2.2.2.slots) (hr : (rest.map fun v => v.category).sum ≤ 8)
    (kk : ∀ r v, QN r v → tl_R E M X Z (k + N.2.2.2.2.cells) (n + N.2.2.2.2.slots) (tl_HB E v) (pc + 3) ls (r.toList ++ rest)) : tl_R E M X Z k n (tl_HB E u) pc ls (d :: c :: b :: a :: rest) :=
  tl_callS (As := [a, b, c, d]) hN hd hc hf hr (fun r => tl_ex (kk r))
theorem tl_callN4 {a b c d : Value} {i : Nat} (hN : tl_MB E N [a, b, c, d] u QN) (hd : decode M.2.1 pc = .ok (.invokestatic i, 3)) (hc : tl_cN M N i 4) (hf : k + N.2.2.2.2.cells ≤ M.2.2.2.2.cells ∧ n + N.2.2.2.2.slots ≤ M.2.2.2.2.slots) (hr : (rest.map fun v => v.category).sum ≤ 8)
    (kk : ∀ r v, QN r v → tl_R E M X Z (k + N.2.2.2.2.cells) (n + N.2.2.2.2.slots) (tl_HB E v) (pc + 3) ls (r.toList ++ rest)) : tl_R E M X Z k n (tl_HB E u) pc ls (d :: c :: b :: a :: rest) :=
  tl_callN (As := [a, b, c, d]) hN hd hc hf hr (fun r => tl_ex (kk r))
theorem tl_callV4 {a b c d : Value} {i o K : Nat} {C : String} {T : u_T} {NN : Nat} {ty : Nat → FieldType} (ck : tl_ck K C T NN ty) (hC : N.1.cls = C) (hT : tl_T E.2.1 o = some K) (hN : tl_MB E N (.ref o :: [a, b, c, d]) u QN) (hd : decode M.2.1 pc = .ok (.invokevirtual i, 3)) (hc : tl_cV M N i 4) (hf : k + N.2.2.2.2.cells ≤ M.2.2.2.2.cells ∧ n + N.2.2.2.2.slots ≤ M.2.2.2.2.slots) (hr : (rest.map fun v => v.category).sum ≤ 8)
    (kk : ∀ r v, QN r v → tl_R E M X Z (k + N.2.2.2.2.cells) (n + N.2.2.2.2.slots) (tl_HB E v) (pc + 3) ls (r.toList ++ rest)) : tl_R E M X Z k n (tl_HB E u) pc ls (d :: c :: b :: a :: .ref o :: rest) :=
  tl_callV (As := [a, b, c, d]) hN (by rw [hC]; exact tl_recv ck hT) hd hc hf hr (fun r => tl_ex (kk r))
theorem tl_callS5 {a b c d e : Value} {i : Nat} (hN : tl_MB E N [a, b, c, d, e] u QN) (hd : decode M.2.1 pc = .ok (.invokestatic i, 3)) (hc : tl_cS M N i 5) (hf : k + N.2.2.2.2.cells ≤ M.2.2.2.2.cells ∧ n + N.2.2.2.2.slots ≤ M.2.2.2.2.slots) (hr : (rest.map fun v => v.category).sum ≤ 8)
    (kk : ∀ r v, QN r v → tl_R E M X Z (k + N.2.2.2.2.cells) (n + N.2.2.2.2.slots) (tl_HB E v) (pc + 3) ls (r.toList ++ rest)) : tl_R E M X Z k n (tl_HB E u) pc ls (e :: d :: c :: b :: a :: rest) :=
  tl_callS (As := [a, b, c, d, e]) hN hd hc hf hr (fun r => tl_ex (kk r))
theorem tl_callN5 {a b c d e : Value} {i : Nat} (hN : tl_MB E N [a, b, c, d, e] u QN) (hd : decode M.2.1 pc = .ok (.invokestatic i, 3)) (hc : tl_cN M N i 5) (hf : k + N.2.2.2.2.cells ≤ M.2.2.2.2.cells ∧ n + N.2.2.2.2.slots ≤ M.2.2.2.2.slots) (hr : (rest.map fun v => v.category).sum ≤ 8)
    (kk : ∀ r v, QN r v → tl_R E M X Z (k + N.2.2.2.2.cells) (n + N.2.2.2.2.slots) (tl_HB E v) (pc + 3) ls (r.toList ++ rest)) : tl_R E M X Z k n (tl_HB E u) pc ls (e :: d :: c :: b :: a :: rest) :=
  tl_callN (As := [a, b, c, d, e]) hN hd hc hf hr (fun r => tl_ex (kk r))
theorem tl_callV5 {a b c d e : Value} {i o K : Nat} {C : String} {T : u_T} {NN : Nat} {ty : Nat → FieldType} (ck : tl_ck K C T NN ty) (hC : N.1.cls = C) (hT : tl_T E.2.1 o = some K) (hN : tl_MB E N (.ref o :: [a, b, c, d, e]) u QN) (hd : decode M.2.1 pc = .ok (.invokevirtual i, 3)) (hc : tl_cV M N i 5) (hf : k + N.2.2.2.2.cells ≤ M.2.2.2.2.cells ∧ n + N.2.2.2.2.slots ≤ M.2.2.2.2.slots) (hr : (rest.map fun v => v.category).sum ≤ 8)
    (kk : ∀ r v, QN r v → tl_R E M X Z (k + N.2.2.2.2.cells) (n + N.2.2.2.2.slots) (tl_HB E v) (pc + 3) ls (r.toList ++ rest)) : tl_R E M X Z k n (tl_HB E u) pc ls (e :: d :: c :: b :: a :: .ref o :: rest) :=
  tl_callV (As := [a, b, c, d, e]) hN (by rw [hC]; exact tl_recv ck hT) hd hc hf hr (fun r => tl_ex (kk r))
theorem tl_callS6 {a b c d e f : Value} {i : Nat} (hN : tl_MB E N [a, b, c, d, e, f] u QN) (hd : decode M.2.1 pc = .ok (.invokestatic i, 3)) (hc : tl_cS M N i 6) (hf : k + N.2.2.2.2.cells ≤ M.2.2.2.2.cells ∧ n + N.2.2.2.2.slots ≤ M.2.2.2.2.slots) (hr : (rest.map fun v => v.category).sum ≤ 8)
    (kk : ∀ r v, QN r v → tl_R E M X Z (k + N.2.2.2.2.cells) (n + N.2.2.2.2.slots) (tl_HB E v) (pc + 3) ls (r.toList ++ rest)) : tl_R E M X Z k n (tl_HB E u) pc ls (f :: e :: d :: c :: b :: a :: rest) :=
  tl_callS (As := [a, b, c, d, e, f]) hN hd hc hf hr (fun r => tl_ex (kk r))
theorem tl_callN6 {a b c d e f : Value} {i : Nat} (hN : tl_MB E N [a, b, c, d, e, f] u QN) (hd : decode M.2.1 pc = .ok (.invokestatic i, 3)) (hc : tl_cN M N i 6) (hf : k + N.2.2.2.2.cells ≤ M.2.2.2.2.cells ∧ n + N.2.2.2.2.slots ≤ M.2.2.2.2.slots) (hr : (rest.map fun v => v.category).sum ≤ 8)
    (kk : ∀ r v, QN r v → tl_R E M X Z (k + N.2.2.2.2.cells) (n + N.2.2.2.2.slots) (tl_HB E v) (pc + 3) ls (r.toList ++ rest)) : tl_R E M X Z k n (tl_HB E u) pc ls (f :: e :: d :: c :: b :: a :: rest) :=
  tl_callN (As := [a, b, c, d, e, f]) hN hd hc hf hr (fun r => tl_ex (kk r))
theorem tl_callV6 {a b c d e f : Value} {i o K : Nat} {C : String} {T : u_T} {NN : Nat} {ty : Nat → FieldType} (ck : tl_ck K C T NN ty) (hC : N.1.cls = C) (hT : tl_T E.2.1 o = some K) (hN : tl_MB E N (.ref o :: [a, b, c, d, e, f]) u QN) (hd : decode M.2.1 pc = .ok (.invokevirtual i, 3)) (hc : tl_cV M N i 6) (hf : k + N.2.2.2.2.cells ≤ M.2.2.2.2.cells ∧ n + N.2.2.2.2.slots ≤ M.2.2.2.2.slots) (hr : (rest.map fun v => v.category).sum ≤ 8)
    (kk : ∀ r v, QN r v → tl_R E M X Z (k + N.2.2.2.2.cells) (n + N.2.2.2.2.slots) (tl_HB E v) (pc + 3) ls (r.toList ++ rest)) : tl_R E M X Z k n (tl_HB E u) pc ls (f :: e :: d :: c :: b :: a :: .ref o :: rest) :=
  tl_callV (As := [a, b, c, d, e, f]) hN (by rw [hC]; exact tl_recv ck hT) hd hc hf hr (fun r => tl_ex (kk r))
theorem tl_callS7 {a b c d e f g : Value} {i : Nat} (hN : tl_MB E N [a, b, c, d, e, f, g] u QN) (hd : decode M.2.1 pc = .ok (.invokestatic i, 3)) (hc : tl_cS M N i 7) (hf : k + N.2.2.2.2.cells ≤ M.2.2.2.2.cells ∧ n + N.2.2.2.2.slots ≤ M.2.2.2.2.slots) (hr : (rest.map fun v => v.category).sum ≤ 8)
    (kk : ∀ r v, QN r v → tl_R E M X Z (k + N.2.2.2.2.cells) (n + N.2.2.2.2.slots) (tl_HB E v) (pc + 3) ls (r.toList ++ rest)) : tl_R E M X Z k n (tl_HB E u) pc ls (g :: f :: e :: d :: c :: b :: a :: rest) :=
  tl_callS (As := [a, b, c, d, e, f, g]) hN hd hc hf hr (fun r => tl_ex (kk r))
theorem tl_callN7 {a b c d e f g : Value} {i : Nat} (hN : tl_MB E N [a, b, c, d, e, f, g] u QN) (hd : decode M.2.1 pc = .ok (.invokestatic i, 3)) (hc : tl_cN M N i 7) (hf : k + N.2.2.2.2.cells ≤ M.2.2.2.2.cells ∧ n + N.2.2.2.2.slots ≤ M.2.2.2.2.slots) (hr : (rest.map fun v => v.category).sum ≤ 8)
    (kk : ∀ r v, QN r v → tl_R E M X Z (k + N.2.2.2.2.cells) (n + N.2.2.2.2.slots) (tl_HB E v) (pc + 3) ls (r.toList ++ rest)) : tl_R E M X Z k n (tl_HB E u) pc ls (g :: f :: e :: d :: c :: b :: a :: rest) :=
  tl_callN (As := [a, b, c, d, e, f, g]) hN hd hc hf hr (fun r => tl_ex (kk r))
end TLB
