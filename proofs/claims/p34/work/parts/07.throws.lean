/-! Methods that return or throw. -/
def tl_xn : Nat → String
  | 1 => "java/lang/IndexOutOfBoundsException"
  | 2 => "java/lang/IllegalArgumentException"
  | _ => "java/lang/IllegalStateException"
def tl_XQ (E : tl_E) (v : tl_S) (t : Nat) : String → State → State → Prop := fun C st tt => (t ≠ 0 ∧ C = tl_xn t ∧ tl_HB E v tt.heap) ∧ va_F (tl_Fr E) st tt
def tl_QQ (E : tl_E) (t : Nat) (q : Option Value) (v : tl_S) : Option Value → Heap → Prop := fun q1 H => t = 0 ∧ q1 = q ∧ tl_HB E v H
/-- t = 0: it answers q; else it throws the exception of the number t; the world is v then -/
def tl_MX (E : tl_E) (M : tl_M) (av : List Value) (u : tl_S) (t : Nat) (q : Option Value) (v : tl_S) : Prop :=
  vx_Met E.1 M.1 (tl_w M :: tl_GW) M.2.2.2.2 (tl_Pc E av (tl_HB E u)) (tl_Qc E (tl_QQ E t q v)) (tl_XQ E v t) M.2.2.2.2.cells M.2.2.2.2.slots (tl_Fr E)
def tl_XT : State → Array Value → Code → Prop := fun _ _ c => ∀ x ∈ c.exceptionTable.toList, False
def tl_ZX (E : tl_E) (M : tl_M) (t : Nat) (q : Option Value) (v : tl_S) : List Frame → Array Value → State → State → Prop := fun below args s => vx_MQ below (tl_Qc E (tl_QQ E t q v)) (tl_XQ E v t) args s M.2.2.2.2.cells M.2.2.2.2.slots (tl_Fr E)
theorem tl_startX {E : tl_E} {M : tl_M} {av : List Value} {u v : tl_S} {t : Nat} {q : Option Value} (ls0 : List (Option Value)) (hy : plainName M.1.cls = true) (h0 : ls0.length = M.2.2.1) (hls : tl_lq ls0 0 = lv_args 0 av) (hlen : (lg_sl av).length ≤ M.2.2.1)
    (body : tl_R E M tl_XT (tl_ZX E M t q v) 0 0 (tl_HB E u) 0 ls0 []) : tl_MX E M av u t q v := by
  refine vx_ofW (cc := M.2.1) (maxL := M.2.2.1) (ret := M.2.2.2.1) hy rfl ?_
  intro p e s m args below meth c s₁ B hml ht hv
  obtain ⟨rfl, hH, hKK, hz⟩ := hv
  have hts := atoms_spec (ws := tl_w M :: tl_GW) B.pre
  rw [lg_entry_eq]
  refine body p e s m _ below meth c ⟨B.exec, B.bytes, B.returns, hml, findClass_of_methodNamed B.named, fun w hw => hts w (List.mem_cons_of_mem _ hw), B.notSynchronized, (name_of_methodNamed B.named B.method).1, hKK, hz⟩ ht s.heap _ [] hH va_S.rf ⟨h0, ?_⟩
  rw [hls]
  exact lv_entry av hlen
/-- what a call that may throw leaves: k behind its answer, kx with the thrown thing over the frame -/
theorem tl_afterX {E : tl_E} {p : Program} {l : Launch} {e : Env} {R : Room} {s : State} {m : MethodId} {args : Array Value} {below : List Frame} {meth : Method} {c : Code} {H : Heap} {locs : List Loc} {k n pc mc ms : Nat} {la : Array Slot} {st0 rest : List Value} {a : Array Value} {Qz : State → Prop} {t : Nat} {q : Option Value} {v : tl_S}
    (hr : vx_Run p l e R s m args below meth c H locs k n mc ms (F0 m pc la st0) rest (tl_Qc E (tl_QQ E t q v) a) (tl_XQ E v t) (tl_Fr E)) (hS : va_S (tl_Fr E) s.heap H locs)
    (kk : t = 0 → ∀ (H1 : Heap) (locs1 : List Loc), tl_HB E v H1 → va_S (tl_Fr E) s.heap H1 locs1 → W p l e R s m args below meth c H1 locs1 (k + mc) (n + ms) Qz (F0 m (pc + 3) la (q.toList ++ rest)))
    (kx : t ≠ 0 → ∀ (H1 : Heap) (locs1 : List Loc) (q9 : Addr) (ce : Cell), tl_HB E v H1 → va_S (tl_Fr E) s.heap H1 locs1 → H1[q9]? = some ce → ce.vm = .none → s.vm.findClass (tl_xn t) = some ce.cls → vx_W p l e R s m args below meth c H1 locs1 (k + mc) (n + ms) Qz (F0 m pc la rest) q9) :
    W p l e R s m args below meth c H locs k n Qz (F0 m pc la st0) := by
  intro T hT X
  rcases hr T hT X with ⟨v1, st₀, tt, T', L, h0, X', hL, e1, e2, ⟨⟨r, hv, ht, hq, hHB⟩, hF⟩, st⟩ | ⟨q9, st₀, tt, T', L, C, ce, h0, X', hL, e1, e2, ⟨⟨ht, hC, hHB⟩, hF⟩, hce, hcv, hcl, st⟩
  · cases hv
    subst hq
    obtain ⟨-, -, k3⟩ := vx_keep h0 e1 hS (fun q _ h => h) (fun q h => h) hL hF
    obtain ⟨t2, a1, b1⟩ := kk ht T'.heap (locs ++ L) (by rw [e1]; exact hHB) k3 T' rfl X'
    exact ⟨t2, st t2 a1, b1⟩
  · obtain ⟨-, -, k3⟩ := vx_keep h0 e1 hS (fun q _ h => h) (fun q h => h) hL hF
    subst hC
    obtain ⟨t2, a1, b1⟩ := kx ht T'.heap (locs ++ L) q9 ce (by rw [e1]; exact hHB) k3 (by rw [e1]; exact hce) hcv hcl T' rfl X'
    exact ⟨t2, st.trans a1, b1⟩
section TLX
variable {E : tl_E} {M N : tl_M} {X : State → Array Value → Code → Prop} {Z : List Frame → Array Value → State → State → Prop} {k n pc : Nat} {u v : tl_S} {ls : List (Option Value)} {st rest : List Value} {t : Nat}
theorem tl_iretX {x r : Int32} {ty : FieldType} (hd : decode M.2.1 pc = .ok (.ireturn, 1)) (hr : M.2.2.2.1 = some ty) (hn : narrow ty (.int x) = .int x) (hk : k ≤ M.2.2.2.2.cells) (hn2 : n ≤ M.2.2.2.2.slots) (h : (some (0, x, u) : Option (Nat × Int32 × tl_S)) = some (t, r, v)) : tl_R E M X (tl_ZX E M t (some (.int r)) v) k n (tl_HB E u) pc ls [.int x] := by
  cases h
  intro p e s m args below meth c hC hX H la locs hH hS hL
  refine W.widen hk hn2 (vx_ret ?_)
  exact W.zret hC.1 hC.2.1 (hC.2.2.1.trans hr) hn (fun t ht hW => ⟨⟨_, rfl, rfl, rfl, by rw [ht]; exact hH⟩, hS.F ht⟩) (fun q hq => hS.2.2 q hq) hd (hlocks := hC.2.2.2.2.2.2.1)
theorem tl_vretX {r : Int32} (hd : decode M.2.1 pc = .ok (.return_, 1)) (hr : M.2.2.2.1 = none) (hk : k ≤ M.2.2.2.2.cells) (hn2 : n ≤ M.2.2.2.2.slots) (h : (some (0, 0, u) : Option (Nat × Int32 × tl_S)) = some (t, r, v)) : tl_R E M X (tl_ZX E M t none v) k n (tl_HB E u) pc ls [] := by
  cases h
  intro p e s m args below meth c hC hX H la locs hH hS hL
  refine W.widen hk hn2 (vx_ret ?_)
  exact W.vret hC.1 hC.2.1 (hC.2.2.1.trans hr) (fun t ht hW => ⟨⟨_, rfl, rfl, rfl, by rw [ht]; exact hH⟩, hS.F ht⟩) (fun q hq => hS.2.2 q hq) hd (hlocks := hC.2.2.2.2.2.2.1)
theorem tl_out {H : Heap} {p : Program} {e : Env} {s : State} {m : MethodId} {args : Array Value} {below : List Frame} {meth : Method} {c : Code} {locs : List Loc} {la : Array Slot} {q9 : Addr} {ce : Cell} {q : Option Value} (hC : tl_Cx E M p s m args meth c) (hX : tl_XT s args c) (ht : t ≠ 0) (hH : tl_HB E v H) (hS : va_S (tl_Fr E) s.heap H locs) (h1 : H[q9]? = some ce) (h2 : ce.vm = .none) (h3 : s.vm.findClass (tl_xn t) = some ce.cls) (hk : k ≤ M.2.2.2.2.cells) (hn : n ≤ M.2.2.2.2.slots) :
    vx_W p E.1 e M.2.2.2.2 s m args below meth c H locs k n (tl_ZX E M t q v below args s) (F0 m pc la rest) q9 :=
  vx_out (E := tl_xn t) (fun x hx => (hX x hx).elim) hC.2.2.2.2.2.2.1 h1 h2 h3 (fun t1 e1 _ => ⟨⟨ht, rfl, by rw [e1]; exact hH⟩, hS.F e1⟩) (fun z hz => hS.2.2 z hz) hk hn
theorem tl_xS {As : List Value} {i : Nat} {q : Option Value} {u1 : tl_S} (hN : tl_MX E N As u 0 q u1) (hd : decode M.2.1 pc = .ok (.invokestatic i, 3)) (hc : tl_cS M N i As.length) (hf : k + N.2.2.2.2.cells ≤ M.2.2.2.2.cells ∧ n + N.2.2.2.2.slots ≤ M.2.2.2.2.slots) (hr : (rest.map fun v => v.category).sum ≤ 8)
    (kk : tl_R E M X Z (k + N.2.2.2.2.cells) (n + N.2.2.2.2.slots) (tl_HB E u1) (pc + 3) ls (q.toList ++ rest)) : tl_R E M X Z k n (tl_HB E u) pc ls (As.reverse ++ rest) := by
  intro p e s m args below meth c hC hX H la locs hH hS hL
  obtain ⟨c1, c2, c3, c4, c5, c6⟩ := hc
  have hts := hC.2.2.2.2.2.1
  refine tl_afterX (vx_runS ⟨hC.1, hC.2.1, hC.2.2.2.1, hC.2.2.2.2.1, hts⟩ hN ⟨callB_of As.length hts (tl_goodInG c1) rfl rfl rfl (hts _ c4) (hts _ c2) c5 c6, hts _ c3⟩ ⟨tl_blind E As _, tl_pre hC.2.2.2.2.2.2.2.2.1 hC.2.2.2.2.2.2.2.2.2 hH hS⟩ rfl rfl (show la.size = _ from hL.2.1) rfl (lv_room hr) hd hf) hS ?_ ?_
  · exact fun _ H1 locs1 hq hS1 => kk p e s m args below meth c hC hX H1 la locs1 hq hS1 hL
  · exact fun h => absurd rfl h
theorem tl_xSt {As : List Value} {i : Nat} {q q0 : Option Value} (hN : tl_MX E N As u (t + 1) q v) (hd : decode M.2.1 pc = .ok (.invokestatic i, 3)) (hc : tl_cS M N i As.length) (hf : k + N.2.2.2.2.cells ≤ M.2.2.2.2.cells ∧ n + N.2.2.2.2.slots ≤ M.2.2.2.2.slots) (hr : (rest.map fun v => v.category).sum ≤ 8) :
    tl_R E M tl_XT (tl_ZX E M (t + 1) q0 v) k n (tl_HB E u) pc ls (As.reverse ++ rest) := by
  intro p e s m args below meth c hC hX H la locs hH hS hL
  obtain ⟨c1, c2, c3, c4, c5, c6⟩ := hc
  have hts := hC.2.2.2.2.2.1
  refine tl_afterX (vx_runS ⟨hC.1, hC.2.1, hC.2.2.2.1, hC.2.2.2.2.1, hts⟩ hN ⟨callB_of As.length hts (tl_goodInG c1) rfl rfl rfl (hts _ c4) (hts _ c2) c5 c6, hts _ c3⟩ ⟨tl_blind E As _, tl_pre hC.2.2.2.2.2.2.2.2.1 hC.2.2.2.2.2.2.2.2.2 hH hS⟩ rfl rfl (show la.size = _ from hL.2.1) rfl (lv_room hr) hd hf) hS ?_ ?_
  · exact fun h => absurd h (Nat.succ_ne_zero t)
  · exact fun ht H1 locs1 q9 ce hq hS1 h1 h2 h3 => tl_out hC hX ht hq hS1 h1 h2 h3 hf.1 hf.2
theorem tl_xV {As : List Value} {i b : Nat} {q : Option Value} {u1 : tl_S} (hN : tl_MX E N (.ref b :: As) u 0 q u1) (hrc : ∀ (s : State) (H : Heap), tl_KK E s → tl_HB E u H → ∃ cell : Cell, H[b]? = some cell ∧ cell.vm.isStatics = false ∧ s.vm.findClass N.1.cls = some cell.cls) (hd : decode M.2.1 pc = .ok (.invokevirtual i, 3)) (hc : tl_cV M N i As.length) (hf : k + N.2.2.2.2.cells ≤ M.2.2.2.2.cells ∧ n + N.2.2.2.2.slots ≤ M.2.2.2.2.slots) (hr : (rest.map fun v => v.category).sum ≤ 8)
    (kk : tl_R E M X Z (k + N.2.2.2.2.cells) (n + N.2.2.2.2.slots) (tl_HB E u1) (pc + 3) ls (q.toList ++ rest)) : tl_R E M X Z k n (tl_HB E u) pc ls (As.reverse ++ .ref b :: rest) := by
  intro p e s m args below meth c hC hX H la locs hH hS hL
  obtain ⟨c1, c2, c3, c4, c7, c5, c6⟩ := hc
  have hts := hC.2.2.2.2.2.1
  have hKK := hC.2.2.2.2.2.2.2.2.1
  refine tl_afterX (vx_runV (C := N.1.cls) ⟨hC.1, hC.2.1, hC.2.2.2.1, hC.2.2.2.2.1, hts⟩ hN ⟨callB_of As.length hts (tl_goodInG c1) rfl rfl rfl (hts _ c7) (hts _ c2) c5 c6, hts _ c3, hts _ c4⟩ ⟨tl_blind E _ _, hrc s H hKK hH, tl_pre hKK hC.2.2.2.2.2.2.2.2.2 hH hS⟩ rfl rfl (show la.size = _ from hL.2.1) rfl (lv_room hr) hd hf) hS ?_ ?_
  · exact fun _ H1 locs1 hq hS1 => kk p e s m args below meth c hC hX H1 la locs1 hq hS1 hL
  · exact fun h => absurd rfl h
theorem tl_xVt {As : List Value} {i b : Nat} {q q0 : Option Value} (hN : tl_MX E N (.ref b :: As) u (t + 1) q v) (hrc : ∀ (s : State) (H : Heap), tl_KK E s → tl_HB E u H → ∃ cell : Cell, H[b]? = some cell ∧ cell.vm.isStatics = false ∧ s.vm.findClass N.1.cls = some cell.cls) (hd : decode M.2.1 pc = .ok (.invokevirtual i, 3)) (hc : tl_cV M N i As.length) (hf : k + N.2.2.2.2.cells ≤ M.2.2.2.2.cells ∧ n + N.2.2.2.2.slots ≤ M.2.2.2.2.slots) (hr : (rest.map fun v => v.category).sum ≤ 8) :
    tl_R E M tl_XT (tl_ZX E M (t + 1) q0 v) k n (tl_HB E u) pc ls (As.reverse ++ .ref b :: rest) := by
  intro p e s m args below meth c hC hX H la locs hH hS hL
  obtain ⟨c1, c2, c3, c4, c7, c5, c6⟩ := hc
  have hts := hC.2.2.2.2.2.1
  have hKK := hC.2.2.2.2.2.2.2.2.1
  refine tl_afterX (vx_runV (C := N.1.cls) ⟨hC.1, hC.2.1, hC.2.2.2.1, hC.2.2.2.2.1, hts⟩ hN ⟨callB_of As.length hts (tl_goodInG c1) rfl rfl rfl (hts _ c7) (hts _ c2) c5 c6, hts _ c3, hts _ c4⟩ ⟨tl_blind E _ _, hrc s H hKK hH, tl_pre hKK hC.2.2.2.2.2.2.2.2.2 hH hS⟩ rfl rfl (show la.size = _ from hL.2.1) rfl (lv_room hr) hd hf) hS ?_ ?_
  · exact fun h => absurd h (Nat.succ_ne_zero t)
  · exact fun ht H1 locs1 q9 ce hq hS1 h1 h2 h3 => tl_out hC hX ht hq hS1 h1 h2 h3 hf.1 hf.2
/-- new E("text"), thrown -/
theorem tl_throw {ik is ic : Nat} {text : String} {q : Option Value} (ht : t ≠ 0) (hfit : Bundle.fit (tl_xn t) = true) (hk : Cond.classLink RX9 ik (tl_xn t) ∈ tl_GW) (hini : Cond.initialized (tl_xn t) ∈ tl_GW) (hown : M.1.cls = RX9) (hstr : ∀ s, tl_KK E s → ∃ a, vk_R RX9 is text a s)
    (hg : ∀ w ∈ (vx_atS RX9 ic (tl_xn t) ["java/lang/RuntimeException", "java/lang/Exception"]).filter goodWord, w ∈ tl_GW) (hb : ∀ w ∈ (vx_atS RX9 ic (tl_xn t) ["java/lang/RuntimeException", "java/lang/Exception"]).filter (fun w => !goodWord w), w ∈ tl_ND.map Cond.declares ++ tl_NC.map (fun x => Cond.castable x x))
    (hgood : ∀ w ∈ Cond.classLink RX9 ik (tl_xn t) :: Cond.initialized (tl_xn t) :: vx_atS RX9 ic (tl_xn t) ["java/lang/RuntimeException", "java/lang/Exception"], vx_ot w = true)
    (d0 : decode M.2.1 pc = .ok (.new ik, 3)) (d3 : decode M.2.1 (pc + 3) = .ok (.dup, 1)) (d4 : decode M.2.1 (pc + 4) = .ok (.ldc_w is, 3)) (d6 : decode M.2.1 (pc + 7) = .ok (.invokespecial ic, 3)) (d9 : decode M.2.1 (pc + 10) = .ok (.athrow, 1))
    (hRf : 5 < M.2.2.2.2.frames) (hRl : 90 ≤ M.2.2.2.2.locals) (hc : k + 1 ≤ M.2.2.2.2.cells) (hs : n + 6 ≤ M.2.2.2.2.slots) : tl_R E M tl_XT (tl_ZX E M t q u) k n (tl_HB E u) pc ls [] := by
  intro p e s m args below meth c hC hX H la locs hH hS hL
  have hts := hC.2.2.2.2.2.1
  have hKK := hC.2.2.2.2.2.2.2.2.1
  obtain ⟨sa, hsa⟩ := hstr s hKK
  have hcl := hC.2.2.2.2.1
  rw [hown] at hcl
  have hat : ∀ w ∈ vx_atS RX9 ic (tl_xn t) ["java/lang/RuntimeException", "java/lang/Exception"], w.before args s = true := by
    refine vx_hat (fun w hw => hts w (hg w hw)) hb (fun w hw => ?_)
    rcases List.mem_append.mp hw with h | h
    · obtain ⟨x, hx, rfl⟩ := List.mem_map.mp h
      exact va_Nw.use rfl (hKK.2.2.2.1 x hx)
    · obtain ⟨x, hx, rfl⟩ := List.mem_map.mp h
      exact va_Nw.use rfl (hKK.2.2.2.2.1 x hx)
  refine vx_throwSW hC.1 hC.2.1 hKK.2.2.2.2.2.2.2.2.2.2 (names := ["java/lang/RuntimeException", "java/lang/Exception"]) hcl hfit (by decide +kernel) (hts _ hk) (hts _ hini) hsa hat hgood hKK.2.2.2.2.2.1.1 hKK.2.2.2.2.2.1.2 hS (hL.2.1.trans hC.2.2.2.1.symm) d0 d3 d4 d6 d9 (fun x hx => (hX x hx).elim) hRf (by simp only [List.map_nil, List.sum_nil, List.length_cons, List.length_nil]; omega) hc hs hC.2.2.2.2.2.2.1 ?_ (fun z hz => hS.2.2 z hz) hc hs
  intro tt hvm hz hk2
  refine ⟨⟨ht, rfl, fun a K hT => ?_⟩, ⟨Nat.le_trans hS.1 hz, fun a h1 h2 => ?_⟩⟩
  · have hat2 := hH a K hT
    exact hat2.kept (hk2 _ hat2.lt)
  · rw [hk2 a (Nat.lt_of_lt_of_le h1 hS.1)]
    exact hS.2.1 a h1 h2
theorem tl_xS0i {i : Nat} {x : Int32} {u1 : tl_S} (hN : tl_MX E N [] u 0 (some (.int x)) u1) (hd : decode M.2.1 pc = .ok (.invokestatic i, 3)) (hc : tl_cS M N i 0) (hf : k + N.2.2.2.2.cells ≤ M.2.2.2.2.cells ∧ n + N.2.2.2.2.slots ≤ M.2.2.2.2.slots) (hr : (rest.map fun v => v.category).sum ≤ 8)
    (kk : tl_R E M X Z (k + N.2.2.2.2.cells) (n + N.2.2.2.2.slots) (tl_HB E u1) (pc + 3) ls (.int x :: rest)) : tl_R E M X Z k n (tl_HB E u) pc ls (rest) := tl_xS (As := []) hN hd hc hf hr kk
theorem tl_xV0i {i o K : Nat} {x : Int32} {u1 : tl_S} {C : String} {T : u_T} {NN : Nat} {ty : Nat → FieldType} (ck : tl_ck K C T NN ty) (hC : N.1.cls = C) (hT : tl_T E.2.1 o = some K) (hN : tl_MX E N (.ref o :: []) u 0 (some (.int x)) u1) (hd : decode M.2.1 pc = .ok (.invokevirtual i, 3)) (hc : tl_cV M N i 0) (hf : k + N.2.2.2.2.cells ≤ M.2.2.2.2.cells ∧ n + N.2.2.2.2.slots ≤ M.2.2.2.2.slots) (hr : (rest.map fun v => v.category).sum ≤ 8)
    (kk : tl_R E M X Z (k + N.2.2.2.2.cells) (n + N.2.2.2.2.slots) (tl_HB E u1) (pc + 3) ls (.int x :: rest)) : tl_R E M X Z k n (tl_HB E u) pc ls (.ref o :: rest) := tl_xV (As := []) hN (by rw [hC]; exact tl_recv ck hT) hd hc hf hr kk
theorem tl_xS0v {i : Nat} {u1 : tl_S} (hN : tl_MX E N [] u 0 none u1) (hd : decode M.2.1 pc = .ok (.invokestatic i, 3)) (hc : tl_cS M N i 0) (hf : k + N.2.2.2.2.cells ≤ M.2.2.2.2.cells ∧ n + N.2.2.2.2.slots ≤ M.2.2.2.2.slots) (hr : (rest.map fun v => v.category).sum ≤ 8)
    (kk : tl_R E M X Z (k + N.2.2.2.2.cells) (n + N.2.2.2.2.slots) (tl_HB E u1) (pc + 3) ls (rest)) : tl_R E M X Z k n (tl_HB E u) pc ls (rest) := tl_xS (As := []) hN hd hc hf hr kk
theorem tl_xV0v {i o K : Nat} {u1 : tl_S} {C : String} {T : u_T} {NN : Nat} {ty : Nat → FieldType} (ck : tl_ck K C T NN ty) (hC : N.1.cls = C) (hT : tl_T E.2.1 o = some K) (hN : tl_MX E N (.ref o :: []) u 0 none u1) (hd : decode M.2.1 pc = .ok (.invokevirtual i, 3)) (hc : tl_cV M N i 0) (hf : k + N.2.2.2.2.cells ≤ M.2.2.2.2.cells ∧ n + N.2.2.2.2.slots ≤ M.2.2.2.2.slots) (hr : (rest.map fun v => v.category).sum ≤ 8)
    (kk : tl_R E M X Z (k + N.2.2.2.2.cells) (n + N.2.2.2.2.slots) (tl_HB E u1) (pc + 3) ls (rest)) : tl_R E M X Z k n (tl_HB E u) pc ls (.ref o :: rest) := tl_xV (As := []) hN (by rw [hC]; exact tl_recv ck hT) hd hc hf hr kk
theorem tl_xS0t {i : Nat} {q q0 : Option Value} (hN : tl_MX E N [] u (t + 1) q v) (hd : decode M.2.1 pc = .ok (.invokestatic i, 3)) (hc : tl_cS M N i 0) (hf : k + N.2.2.2.2.cells ≤ M.2.2.2.2.cells ∧ n + N.2.2.2.2.slots ≤ M.2.2.2.2.slots) (hr : (rest.map fun v => v.category).sum ≤ 8) : tl_R E M tl_XT (tl_ZX E M (t + 1) q0 v) k n (tl_HB E u) pc ls (rest) := tl_xSt (As := []) hN hd hc hf hr
theorem tl_xV0t {i o K : Nat} {q q0 : Option Value} {C : String} {T : u_T} {NN : Nat} {ty : Nat → FieldType} (ck : tl_ck K C T NN ty) (hC : N.1.cls = C) (hT : tl_T E.2.1 o = some K) (hN : tl_MX E N (.ref o :: []) u (t + 1) q v) (hd : decode M.2.1 pc = .ok (.invokevirtual i, 3)) (hc : tl_cV M N i 0) (hf : k + N.2.2.2.2.cells ≤ M.2.2.2.2.cells ∧ n + N.2.2.2.2.slots ≤ M.2.2.2.2.slots) (hr : (rest.map fun v => v.category).sum ≤ 8) : tl_R E M tl_XT (tl_ZX E M (t + 1) q0 v) k n (tl_HB E u) pc ls (.ref o :: rest) := tl_xVt (As := []) hN (by rw [hC]; exact tl_recv ck hT) hd hc hf hr
theorem tl_xS1i {a0 : Value} {i : Nat} {x : Int32} {u1 : tl_S} (hN : tl_MX E N [a0] u 0 (some (.int x)) u1) (hd : decode M.2.1 pc = .ok (.invokestatic i, 3)) (hc : tl_cS M N i 1) (hf : k + N.2.2.2.2.cells ≤ M.2.2.2.2.cells ∧ n + N.2.2.2.2.slots ≤ M.2.2.2.2.slots) (hr : (rest.map fun v => v.category).sum ≤ 8)
    (kk : tl_R E M X Z (k + N.2.2.2.2.cells) (n + N.2.2.2.2.slots) (tl_HB E u1) (pc + 3) ls (.int x :: rest)) : tl_R E M X Z k n (tl_HB E u) pc ls (a0 :: rest) := tl_xS (As := [a0]) hN hd hc hf hr kk
theorem tl_xV1i {a0 : Value} {i o K : Nat} {x : Int32} {u1 : tl_S} {C : String} {T : u_T} {NN : Nat} {ty : Nat → FieldType} (ck : tl_ck K C T NN ty) (hC : N.1.cls = C) (hT : tl_T E.2.1 o = some K) (hN : tl_MX E N (.ref o :: [a0]) u 0 (some (.int x)) u1) (hd : decode M.2.1 pc = .ok (.invokevirtual i, 3)) (hc : tl_cV M N i 1) (hf : k + N.2.2.2.2.cells ≤ M.2.2.2.2.cells ∧ n + N.2.2.2.2.slots ≤ M.2.2.2.2.slots) (hr : (rest.map fun v => v.category).sum ≤ 8)
    (kk : tl_R E M X Z (k + N.2.2.2.2.cells) (n + N.2.2.2.2.slots) (tl_HB E u1) (pc + 3) ls (.int x :: rest)) : tl_R E M X Z k n (tl_HB E u) pc ls (a0 :: .ref o :: rest) := tl_xV (As := [a0]) hN (by rw [hC]; exact tl_recv ck hT) hd hc hf hr kk
theorem tl_xS1v {a0 : Value} {i : Nat} {u1 : tl_S} (hN : tl_MX E N [a0] u 0 none u1) (hd : decode M.2.1 pc = .ok (.invokestatic i, 3)) (hc : tl_cS M N i 1) (hf : k + N.2.2.2.2.cells ≤ M.2.2.2.2.cells ∧ n + N.2.2.2.2.slots ≤ M.2.2.2.2.slots) (hr : (rest.map fun v => v.category).sum ≤ 8)
    (kk : tl_R E M X Z (k + N.2.2.2.2.cells) (n + N.2.2.2.2.slots) (tl_HB E u1) (pc + 3) ls (rest)) : tl_R E M X Z k n (tl_HB E u) pc ls (a0 :: rest) := tl_xS (As := [a0]) hN hd hc hf hr kk
theorem tl_xV1v {a0 : Value} {i o K : Nat} {u1 : tl_S} {C : String} {T : u_T} {NN : Nat} {ty : Nat → FieldType} (ck : tl_ck K C T NN ty) (hC : N.1.cls = C) (hT : tl_T E.2.1 o = some K) (hN : tl_MX E N (.ref o :: [a0]) u 0 none u1) (hd : decode M.2.1 pc = .ok (.invokevirtual i, 3)) (hc : tl_cV M N i 1) (hf : k + N.2.2.2.2.cells ≤ M.2.2.2.2.cells ∧ n + N.2.2.2.2.slots ≤ M.2.2.2.2.slots) (hr : (rest.map fun v => v.category).sum ≤ 8)
    (kk : tl_R E M X Z (k + N.2.2.2.2.cells) (n + N.2.2.2.2.slots) (tl_HB E u1) (pc + 3) ls (rest)) : tl_R E M X Z k n (tl_HB E u) pc ls (a0 :: .ref o :: rest) := tl_xV (As := [a0]) hN (by rw [hC]; exact tl_recv ck hT) hd hc hf hr kk
theorem tl_xS1t {a0 : Value} {i : Nat} {q q0 : Option Value} (hN : tl_MX E N [a0] u (t + 1) q v) (hd : decode M.2.1 pc = .ok (.invokestatic i, 3)) (hc : tl_cS M N i 1) (hf : k + N.2.2.2.2.cells ≤ M.2.2.2.2.cells ∧ n + N.2.2.2.2.slots ≤ M.2.2.2.2.slots) (hr : (rest.map fun v => v.category).sum ≤ 8) : tl_R E M tl_XT (tl_ZX E M (t + 1) q0 v) k n (tl_HB E u) pc ls (a0 :: rest) := tl_xSt (As := [a0]) hN hd hc hf hr
theorem tl_xV1t {a0 : Value} {i o K : Nat} {q q0 : Option Value} {C : String} {T : u_T} {NN : Nat} {ty : Nat → FieldType} (ck : tl_ck K C T NN ty) (hC : N.1.cls = C) (hT : tl_T E.2.1 o = some K) (hN : tl_MX E N (.ref o :: [a0]) u (t + 1) q v) (hd : decode M.2.1 pc = .ok (.invokevirtual i, 3)) (hc : tl_cV M N i 1) (hf : k + N.2.2.2.2.cells ≤ M.2.2.2.2.cells ∧ n + N.2.2.2.2.slots ≤ M.2.2.2.2.slots) (hr : (rest.map fun v => v.category).sum ≤ 8) : tl_R E M tl_XT (tl_ZX E M (t + 1) q0 v) k n (tl_HB E u) pc ls (a0 :: .ref o :: rest) := tl_xVt (As := [a0]) hN (by rw [hC]; exact tl_recv ck hT) hd hc hf hr
theorem tl_xS2i {a0 b0 : Value} {i : Nat} {x : Int32} {u1 : tl_S} (hN : tl_MX E N [a0, b0] u 0 (some (.int x)) u1) (hd : decode M.2.1 pc = .ok (.invokestatic i, 3)) (hc : tl_cS M N i 2) (hf : k + N.2.2.2.2.cells ≤ M.2.2.2.2.cells ∧ n + N.2.2.2.2.slots ≤ M.2.2.2.2.slots) (hr : (rest.map fun v => v.category).sum ≤ 8)
    (kk : tl_R E M X Z (k + N.2.2.2.2.cells) (n + N.2.2.2.2.slots) (tl_HB E u1) (pc + 3) ls (.int x :: rest)) : tl_R E M X Z k n (tl_HB E u) pc ls (b0 :: a0 :: rest) := tl_xS (As := [a0, b0]) hN hd hc hf hr kk
theorem tl_xV2i {a0 b0 : Value} {i o K : Nat} {x : Int32} {u1 : tl_S} {C : String} {T : u_T} {NN : Nat} {ty : Nat → FieldType} (ck : tl_ck K C T NN ty) (hC : N.1.cls = C) (hT : tl_T E.2.1 o = some K) (hN : tl_MX E N (.ref o :: [a0, b0]) u 0 (some (.int x)) u1) (hd : decode M.2.1 pc = .ok (.invokevirtual i, 3)) (hc : tl_cV M N i 2) (hf : k + N.2.2.2.2.cells ≤ M.2.2.2.2.cells ∧ n + N.2.2.2.2.slots ≤ M.2.2.2.2.slots) (hr : (rest.map fun v => v.category).sum ≤ 8)
    (kk : tl_R E M X Z (k + N.2.2.2.2.cells) (n + N.2.2.2.2.slots) (tl_HB E u1) (pc + 3) ls (.int x :: rest)) : tl_R E M X Z k n (tl_HB E u) pc ls (b0 :: a0 :: .ref o :: rest) := tl_xV (As := [a0, b0]) hN (by rw [hC]; exact tl_recv ck hT) hd hc hf hr kk
theorem tl_xS2v {a0 b0 : Value} {i : Nat} {u1 : tl_S} (hN : tl_MX E N [a0, b0] u 0 none u1) (hd : decode M.2.1 pc = .ok (.invokestatic i, 3)) (hc : tl_cS M N i 2) (hf : k + N.2.2.2.2.cells ≤ M.2.2.2.2.cells ∧ n + N.2.2.2.2.slots ≤ M.2.2.2.2.slots) (hr : (rest.map fun v => v.category).sum ≤ 8)
    (kk : tl_R E M X Z (k + N.2.2.2.2.cells) (n + N.2.2.2.2.slots) (tl_HB E u1) (pc + 3) ls (rest)) : tl_R E M X Z k n (tl_HB E u) pc ls (b0 :: a0 :: rest) := tl_xS (As := [a0, b0]) hN hd hc hf hr kk
theorem tl_xV2v {a0 b0 : Value} {i o K : Nat} {u1 : tl_S} {C : String} {T : u_T} {NN : Nat} {ty : Nat → FieldType} (ck : tl_ck K C T NN ty) (hC : N.1.cls = C) (hT : tl_T E.2.1 o = some K) (hN : tl_MX E N (.ref o :: [a0, b0]) u 0 none u1) (hd : decode M.2.1 pc = .ok (.invokevirtual i, 3)) (hc : tl_cV M N i 2) (hf : k + N.2.2.2.2.cells ≤ M.2.2.2.2.cells ∧ n + N.2.2.2.2.slots ≤ M.2.2.2.2.slots) (hr : (rest.map fun v => v.category).sum ≤ 8)
    (kk : tl_R E M X Z (k + N.2.2.2.2.cells) (n + N.2.2.2.2.slots) (tl_HB E u1) (pc + 3) ls (rest)) : tl_R E M X Z k n (tl_HB E u) pc ls (b0 :: a0 :: .ref o :: rest) := tl_xV (As := [a0, b0]) hN (by rw [hC]; exact tl_recv ck hT) hd hc hf hr kk
theorem tl_xS2t {a0 b0 : Value} {i : Nat} {q q0 : Option Value} (hN : tl_MX E N [a0, b0] u (t + 1) q v) (hd : decode M.2.1 pc = .ok (.invokestatic i, 3)) (hc : tl_cS M N i 2) (hf : k + N.2.2.2.2.cells ≤ M.2.2.2.2.cells ∧ n + N.2.2.2.2.slots ≤ M.2.2.2.2.slots) (hr : (rest.map fun v => v.category).sum ≤ 8) : tl_R E M tl_XT (tl_ZX E M (t + 1) q0 v) k n (tl_HB E u) pc ls (b0 :: a0 :: rest) := tl_xSt (As := [a0, b0]) hN hd hc hf hr
theorem tl_xV2t {a0 b0 : Value} {i o K : Nat} {q q0 : Option Value} {C : String} {T : u_T} {NN : Nat} {ty : Nat → FieldType} (ck : tl_ck K C T NN ty) (hC : N.1.cls = C) (hT : tl_T E.2.1 o = some K) (hN : tl_MX E N (.ref o :: [a0, b0]) u (t + 1) q v) (hd : decode M.2.1 pc = .ok (.invokevirtual i, 3)) (hc : tl_cV M N i 2) (hf : k + N.2.2.2.2.cells ≤ M.2.2.2.2.cells ∧ n + N.2.2.2.2.slots ≤ M.2.2.2.2.slots) (hr : (rest.map fun v => v.category).sum ≤ 8) : tl_R E M tl_XT (tl_ZX E M (t + 1) q0 v) k n (tl_HB E u) pc ls (b0 :: a0 :: .ref o :: rest) := tl_xVt (As := [a0, b0]) hN (by rw [hC]; exact tl_recv ck hT) hd hc hf hr
theorem tl_xS3i {a0 b0 c0 : Value} {i : Nat} {x : Int32} {u1 : tl_S} (hN : tl_MX E N [a0, b0, c0] u 0 (some (.int x)) u1) (hd : decode M.2.1 pc = .ok (.invokestatic i, 3)) (hc : tl_cS M N i 3) (hf : k + N.2.2.2.2.cells ≤ M.2.2.2.2.cells ∧ n + N.2.2.2.2.slots ≤ M.2.2.2.2.slots) (hr : (rest.map fun v => v.category).sum ≤ 8)
    (kk : tl_R E M X Z (k + N.2.2.2.2.cells) (n + N.2.2.2.2.slots) (tl_HB E u1) (pc + 3) ls (.int x :: rest)) : tl_R E M X Z k n (tl_HB E u) pc ls (c0 :: b0 :: a0 :: rest) := tl_xS (As := [a0, b0, c0]) hN hd hc hf hr kk
theorem tl_xV3i {a0 b0 c0 : Value} {i o K : Nat} {x : Int32} {u1 : tl_S} {C : String} {T : u_T} {NN : Nat} {ty : Nat → FieldType} (ck : tl_ck K C T NN ty) (hC : N.1.cls = C) (hT : tl_T E.2.1 o = some K) (hN : tl_MX E N (.ref o :: [a0, b0, c0]) u 0 (some (.int x)) u1) (hd : decode M.2.1 pc = .ok (.invokevirtual i, 3)) (hc : tl_cV M N i 3) (hf : k + N.2.2.2.2.cells ≤ M.2.2.2.2.cells ∧ n + N.2.2.2.2.slots ≤ M.2.2.2.2.slots) (hr : (rest.map fun v => v.category).sum ≤ 8)
    (kk : tl_R E M X Z (k + N.2.2.2.2.cells) (n + N.2.2.2.2.slots) (tl_HB E u1) (pc + 3) ls (.int x :: rest)) : tl_R E M X Z k n (tl_HB E u) pc ls (c0 :: b0 :: a0 :: .ref o :: rest) := tl_xV (As := [a0, b0, c0]) hN (by rw [hC]; exact tl_recv ck hT) hd hc hf hr kk
theorem tl_xS3v {a0 b0 c0 : Value} {i : Nat} {u1 : tl_S} (hN : tl_MX E N [a0, b0, c0] u 0 none u1) (hd : decode M.2.1 pc = .ok (.invokestatic i, 3)) (hc : tl_cS M N i 3) (hf : k + N.2.2.2.2.cells ≤ M.2.2.2.2.cells ∧ n + N.2.2.2.2.slots ≤ M.2.2.2.2.slots) (hr : (rest.map fun v => v.category).sum ≤ 8)
    (kk : tl_R E M X Z (k + N.2.2.2.2.cells) (n + N.2.2.2.2.slots) (tl_HB E u1) (pc + 3) ls (rest)) : tl_R E M X Z k n (tl_HB E u) pc ls (c0 :: b0 :: a0 :: rest) := tl_xS (As := [a0, b0, c0]) hN hd hc hf hr kk
theorem tl_xV3v {a0 b0 c0 : Value} {i o K : Nat} {u1 : tl_S} {C : String} {T : u_T} {NN : Nat} {ty : Nat → FieldType} (ck : tl_ck K C T NN ty) (hC : N.1.cls = C) (hT : tl_T E.2.1 o = some K) (hN : tl_MX E N (.ref o :: [a0, b0, c0]) u 0 none u1) (hd : decode M.2.1 pc = .ok (.invokevirtual i, 3)) (hc : tl_cV M N i 3) (hf : k + N.2.2.2.2.cells ≤ M.2.2.2.2.cells ∧ n + N.2.2.2.2.slots ≤ M.2.2.2.2.slots) (hr : (rest.map fun v => v.category).sum ≤ 8)
    (kk : tl_R E M X Z (k + N.2.2.2.2.cells) (n + N.2.2.2.2.slots) (tl_HB E u1) (pc + 3) ls (rest)) : tl_R E M X Z k n (tl_HB E u) pc ls (c0 :: b0 :: a0 :: .ref o :: rest) := tl_xV (As := [a0, b0, c0]) hN (by rw [hC]; exact tl_recv ck hT) hd hc hf hr kk
theorem tl_xS3t {a0 b0 c0 : Value} {i : Nat} {q q0 : Option Value} (hN : tl_MX E N [a0, b0, c0] u (t + 1) q v) (hd : decode M.2.1 pc = .ok (.invokestatic i, 3)) (hc : tl_cS M N i 3) (hf : k + N.2.2.2.2.cells ≤ M.2.2.2.2.cells ∧ n + N.2.2.2.2.slots ≤ M.2.2.2.2.slots) (hr : (rest.map fun v => v.category).sum ≤ 8) : tl_R E M tl_XT (tl_ZX E M (t + 1) q0 v) k n (tl_HB E u) pc ls (c0 :: b0 :: a0 :: rest) := tl_xSt (As := [a0, b0, c0]) hN hd hc hf hr
theorem tl_xV3t {a0 b0 c0 : Value} {i o K : Nat} {q q0 : Option Value} {C : String} {T : u_T} {NN : Nat} {ty : Nat → FieldType} (ck : tl_ck K C T NN ty) (hC : N.1.cls = C) (hT : tl_T E.2.1 o = some K) (hN : tl_MX E N (.ref o :: [a0, b0, c0]) u (t + 1) q v) (hd : decode M.2.1 pc = .ok (.invokevirtual i, 3)) (hc : tl_cV M N i 3) (hf : k + N.2.2.2.2.cells ≤ M.2.2.2.2.cells ∧ n + N.2.2.2.2.slots ≤ M.2.2.2.2.slots) (hr : (rest.map fun v => v.category).sum ≤ 8) : tl_R E M tl_XT (tl_ZX E M (t + 1) q0 v) k n (tl_HB E u) pc ls (c0 :: b0 :: a0 :: .ref o :: rest) := tl_xVt (As := [a0, b0, c0]) hN (by rw [hC]; exact tl_recv ck hT) hd hc hf hr
theorem tl_xS4i {a0 b0 c0 d0 : Value} {i : Nat} {x : Int32} {u1 : tl_S} (hN : tl_MX E N [a0, b0, c0, d0] u 0 (some (.int x)) u1) (hd : decode M.2.1 pc = .ok (.invokestatic i, 3)) (hc : tl_cS M N i 4) (hf : k + N.2.2.2.2.cells ≤ M.2.2.2.2.cells ∧ n + N.2.2.2.2.slots ≤ M.2.2.2.2.slots) (hr : (rest.map fun v => v.category).sum ≤ 8)
    (kk : tl_R E M X Z (k + N.2.2.2.2.cells) (n + N.2.2.2.2.slots) (tl_HB E u1) (pc + 3) ls (.int x :: rest)) : tl_R E M X Z k n (tl_HB E u) pc ls (d0 :: c0 :: b0 :: a0 :: rest) := tl_xS (As := [a0, b0, c0, d0]) hN hd hc hf hr kk
theorem tl_xV4i {a0 b0 c0 d0 : Value} {i o K : Nat} {x : Int32} {u1 : tl_S} {C : String} {T : u_T} {NN : Nat} {ty : Nat → FieldType} (ck : tl_ck K C T NN ty) (hC : N.1.cls = C) (hT : tl_T E.2.1 o = some K) (hN : tl_MX E N (.ref o :: [a0, b0, c0, d0]) u 0 (some (.int x)) u1) (hd : decode M.2.1 pc = .ok (.invokevirtual i, 3)) (hc : tl_cV M N i 4) (hf : k + N.2.2.2.2.cells ≤ M.2.2.2.2.cells ∧ n + N.2.2.2.2.slots ≤ M.2.2.2.2.slots) (hr : (rest.map fun v => v.category).sum ≤ 8)
    (kk : tl_R E M X Z (k + N.2.2.2.2.cells) (n + N.2.2.2.2.slots) (tl_HB E u1) (pc + 3) ls (.int x :: rest)) : tl_R E M X Z k n (tl_HB E u) pc ls (d0 :: c0 :: b0 :: a0 :: .ref o :: rest) := tl_xV (As := [a0, b0, c0, d0]) hN (by rw [hC]; exact tl_recv ck hT) hd hc hf hr kk
theorem tl_xS4v {a0 b0 c0 d0 : Value} {i : Nat} {u1 : tl_S} (hN : tl_MX E N [a0, b0, c0, d0] u 0 none u1) (hd : decode M.2.1 pc = .ok (.invokestatic i, 3)) (hc : tl_cS M N i 4) (hf : k + N.2.2.2.2.cells ≤ M.2.2.2.2.cells ∧ n + N.2.2.2.2.slots ≤ M.2.2.2.2.slots) (hr : (rest.map fun v => v.category).sum ≤ 8)
    (kk : tl_R E M X Z (k + N.2.2.2.2.cells) (n + N.2.2.2.2.slots) (tl_HB E u1) (pc + 3) ls (rest)) : tl_R E M X Z k n (tl_HB E u) pc ls (d0 :: c0 :: b0 :: a0 :: rest) := tl_xS (As := [a0, b0, c0, d0]) hN hd hc hf hr kk
theorem tl_xV4v {a0 b0 c0 d0 : Value} {i o K : Nat} {u1 : tl_S} {C : String} {T : u_T} {NN : Nat} {ty : Nat → FieldType} (ck : tl_ck K C T NN ty) (hC : N.1.cls = C) (hT : tl_T E.2.1 o = some K) (hN : tl_MX E N (.ref o :: [a0, b0, c0, d0]) u 0 none u1) (hd : decode M.2.1 pc = .ok (.invokevirtual i, 3)) (hc : tl_cV M N i 4) (hf : k + N.2.2.2.2.cells ≤ M.2.2.2.2.cells ∧ n + N.2.2.2.2.slots ≤ M.2.2.2.2.slots) (hr : (rest.map fun v => v.category).sum ≤ 8)
    (kk : tl_R E M X Z (k + N.2.2.2.2.cells) (n + N.2.2.2.2.slots) (tl_HB E u1) (pc + 3) ls (rest)) : tl_R E M X Z k n (tl_HB E u) pc ls (d0 :: c0 :: b0 :: a0 :: .ref o :: rest) := tl_xV (As := [a0, b0, c0, d0]) hN (by rw [hC]; exact tl_recv ck hT) hd hc hf hr kk
theorem tl_xS4t {a0 b0 c0 d0 : Value} {i : Nat} {q q0 : Option Value} (hN : tl_MX E N [a0, b0, c0, d0] u (t + 1) q v) (hd : decode M.2.1 pc = .ok (.invokestatic i, 3)) (hc : tl_cS M N i 4) (hf : k + N.2.2.2.2.cells ≤ M.2.2.2.2.cells ∧ n + N.2.2.2.2.slots ≤ M.2.2.2.2.slots) (hr : (rest.map fun v => v.category).sum ≤ 8) : tl_R E M tl_XT (tl_ZX E M (t + 1) q0 v) k n (tl_HB E u) pc ls (d0 :: c0 :: b0 :: a0 :: rest) := tl_xSt (As := [a0, b0, c0, d0]) hN hd hc hf hr
theorem tl_xV4t {a0 b0 c0 d0 : Value} {i o K : Nat} {q q0 : Option Value} {C : String} {T : u_T} {NN : Nat} {ty : Nat → FieldType} (ck : tl_ck K C T NN ty) (hC : N.1.cls = C) (hT : tl_T E.2.1 o = some K) (hN : tl_MX E N (.ref o :: [a0, b0, c0, d0]) u (t + 1) q v) (hd : decode M.2.1 pc = .ok (.invokevirtual i, 3)) (hc : tl_cV M N i 4) (hf : k + N.2.2.2.2.cells ≤ M.2.2.2.2.cells ∧ n + N.2.2.2.2.slots ≤ M.2.2.2.2.slots) (hr : (rest.map fun v => v.category).sum ≤ 8) : tl_R E M tl_XT (tl_ZX E M (t + 1) q0 v) k n (tl_HB E u) pc ls (d0 :: c0 :: b0 :: a0 :: .ref o :: rest) := tl_xVt (As := [a0, b0, c0, d0]) hN (by rw [hC]; exact tl_recv ck hT) hd hc hf hr
theorem tl_xS5i {a0 b0 c0 d0 e0 : Value} {i : Nat} {x : Int32} {u1 : tl_S} (hN : tl_MX E N [a0, b0, c0, d0, e0] u 0 (some (.int x)) u1) (hd : decode M.2.1 pc = .ok (.invokestatic i, 3)) (hc : tl_cS M N i 5) (hf : k + N.2.2.2.2.cells ≤ M.2.2.2.2.cells ∧ n + N.2.2.2.2.slots ≤ M.2.2.2.2.slots) (hr : (rest.map fun v => v.category).sum ≤ 8)
    (kk : tl_R E M X Z (k + N.2.2.2.2.cells) (n + N.2.2.2.2.slots) (tl_HB E u1) (pc + 3) ls (.int x :: rest)) : tl_R E M X Z k n (tl_HB E u) pc ls (e0 :: d0 :: c0 :: b0 :: a0 :: rest) := tl_xS (As := [a0, b0, c0, d0, e0]) hN hd hc hf hr kk
theorem tl_xV5i {a0 b0 c0 d0 e0 : Value} {i o K : Nat} {x : Int32} {u1 : tl_S} {C : String} {T : u_T} {NN : Nat} {ty : Nat → FieldType} (ck : tl_ck K C T NN ty) (hC : N.1.cls = C) (hT : tl_T E.2.1 o = some K) (hN : tl_MX E N (.ref o :: [a0, b0, c0, d0, e0]) u 0 (some (.int x)) u1) (hd : decode M.2.1 pc = .ok (.invokevirtual i, 3)) (hc : tl_cV M N i 5) (hf : k + N.2.2.2.2.cells ≤ M.2.2.2.2.cells ∧ n + N.2.2.2.2.slots ≤ M.2.2.2.2.slots) (hr : (rest.map fun v => v.category).sum ≤ 8)
    (kk : tl_R E M X Z (k + N.2.2.2.2.cells) (n + N.2.2.2.2.slots) (tl_HB E u1) (pc + 3) ls (.int x :: rest)) : tl_R E M X Z k n (tl_HB E u) pc ls (e0 :: d0 :: c0 :: b0 :: a0 :: .ref o :: rest) := tl_xV (As := [a0, b0, c0, d0, e0]) hN (by rw [hC]; exact tl_recv ck hT) hd hc hf hr kk
theorem tl_xS5v {a0 b0 c0 d0 e0 : Value} {i : Nat} {u1 : tl_S} (hN : tl_MX E N [a0, b0, c0, d0, e0] u 0 none u1) (hd : decode M.2.1 pc = .ok (.invokestatic i, 3)) (hc : tl_cS M N i 5) (hf : k + N.2.2.2.2.cells ≤ M.2.2.2.2.cells ∧ n + N.2.2.2.2.slots ≤ M.2.2.2.2.slots) (hr : (rest.map fun v => v.category).sum ≤ 8)
    (kk : tl_R E M X Z (k + N.2.2.2.2.cells) (n + N.2.2.2.2.slots) (tl_HB E u1) (pc + 3) ls (rest)) : tl_R E M X Z k n (tl_HB E u) pc ls (e0 :: d0 :: c0 :: b0 :: a0 :: rest) := tl_xS (As := [a0, b0, c0, d0, e0]) hN hd hc hf hr kk
theorem tl_xV5v {a0 b0 c0 d0 e0 : Value} {i o K : Nat} {u1 : tl_S} {C : String} {T : u_T} {NN : Nat} {ty : Nat → FieldType} (ck : tl_ck K C T NN ty) (hC : N.1.cls = C) (hT : tl_T E.2.1 o = some K) (hN : tl_MX E N (.ref o :: [a0, b0, c0, d0, e0]) u 0 none u1) (hd : decode M.2.1 pc = .ok (.invokevirtual i, 3)) (hc : tl_cV M N i 5) (hf : k + N.2.2.2.2.cells ≤ M.2.2.2.2.cells ∧ n + N.2.2.2.2.slots ≤ M.2.2.2.2.slots) (hr : (rest.map fun v => v.category).sum ≤ 8)
    (kk : tl_R E M X Z (k + N.2.2.2.2.cells) (n + N.2.2.2.2.slots) (tl_HB E u1) (pc + 3) ls (rest)) : tl_R E M X Z k n (tl_HB E u) pc ls (e0 :: d0 :: c0 :: b0 :: a0 :: .ref o :: rest) := tl_xV (As := [a0, b0, c0, d0, e0]) hN (by rw [hC]; exact tl_recv ck hT) hd hc hf hr kk
theorem tl_xS5t {a0 b0 c0 d0 e0 : Value} {i : Nat} {q q0 : Option Value} (hN : tl_MX E N [a0, b0, c0, d0, e0] u (t + 1) q v) (hd : decode M.2.1 pc = .ok (.invokestatic i, 3)) (hc : tl_cS M N i 5) (hf : k + N.2.2.2.2.cells ≤ M.2.2.2.2.cells ∧ n + N.2.2.2.2.slots ≤ M.2.2.2.2.slots) (hr : (rest.map fun v => v.category).sum ≤ 8) : tl_R E M tl_XT (tl_ZX E M (t + 1) q0 v) k n (tl_HB E u) pc ls (e0 :: d0 :: c0 :: b0 :: a0 :: rest) := tl_xSt (As := [a0, b0, c0, d0, e0]) hN hd hc hf hr
theorem tl_xV5t {a0 b0 c0 d0 e0 : Value} {i o K : Nat} {q q0 : Option Value} {C : String} {T : u_T} {NN : Nat} {ty : Nat → FieldType} (ck : tl_ck K C T NN ty) (hC : N.1.cls = C) (hT : tl_T E.2.1 o = some K) (hN : tl_MX E N (.ref o :: [a0, b0, c0, d0, e0]) u (t + 1) q v) (hd : decode M.2.1 pc = .ok (.invokevirtual i, 3)) (hc : tl_cV M N i 5) (hf : k + N.2.2.2.2.cells ≤ M.2.2.2.2.cells ∧ n + N.2.2.2.2.slots ≤ M.2.2.2.2.slots) (hr : (rest.map fun v => v.category).sum ≤ 8) : tl_R E M tl_XT (tl_ZX E M (t + 1) q0 v) k n (tl_HB E u) pc ls (e0 :: d0 :: c0 :: b0 :: a0 :: .ref o :: rest) := tl_xVt (As := [a0, b0, c0, d0, e0]) hN (by rw [hC]; exact tl_recv ck hT) hd hc hf hr
theorem tl_xS6i {a0 b0 c0 d0 e0 f0 : Value} {i : Nat} {x : Int32} {u1 : tl_S} (hN : tl_MX E N [a0, b0, c0, d0, e0, f0] u 0 (some (.int x)) u1) (hd : decode M.2.1 pc = .ok (.invokestatic i, 3)) (hc : tl_cS M N i 6) (hf : k + N.2.2.2.2.cells ≤ M.2.2.2.2.cells ∧ n + N.2.2.2.2.slots ≤ M.2.2.2.2.slots) (hr : (rest.map fun v => v.category).sum ≤ 8)
    (kk : tl_R E M X Z (k + N.2.2.2.2.cells) (n + N.2.2.2.2.slots) (tl_HB E u1) (pc + 3) ls (.int x :: rest)) : tl_R E M X Z k n (tl_HB E u) pc ls (f0 :: e0 :: d0 :: c0 :: b0 :: a0 :: rest) := tl_xS (As := [a0, b0, c0, d0, e0, f0]) hN hd hc hf hr kk
theorem tl_xV6i {a0 b0 c0 d0 e0 f0 : Value} {i o K : Nat} {x : Int32} {u1 : tl_S} {C : String} {T : u_T} {NN : Nat} {ty : Nat → FieldType} (ck : tl_ck K C T NN ty) (hC : N.1.cls = C) (hT : tl_T E.2.1 o = some K) (hN : tl_MX E N (.ref o :: [a0, b0, c0, d0, e0, f0]) u 0 (some (.int x)) u1) (hd : decode M.2.1 pc = .ok (.invokevirtual i, 3)) (hc : tl_cV M N i 6) (hf : k + N.2.2.2.2.cells ≤ M.2.2.2.2.cells ∧ n + N.2.2.2.2.slots ≤ M.2.2.2.2.slots) (hr : (rest.map fun v => v.category).sum ≤ 8)
    (kk : tl_R E M X Z (k + N.2.2.2.2.cells) (n + N.2.2.2.2.slots) (tl_HB E u1) (pc + 3) ls (.int x :: rest)) : tl_R E M X Z k n (tl_HB E u) pc ls (f0 :: e0 :: d0 :: c0 :: b0 :: a0 :: .ref o :: rest) := tl_xV (As := [a0, b0, c0, d0, e0, f0]) hN (by rw [hC]; exact tl_recv ck hT) hd hc hf hr kk
theorem tl_xS6v {a0 b0 c0 d0 e0 f0 : Value} {i : Nat} {u1 : tl_S} (hN : tl_MX E N [a0, b0, c0, d0, e0, f0] u 0 none u1) (hd : decode M.2.1 pc = .ok (.invokestatic i, 3)) (hc : tl_cS M N i 6) (hf : k + N.2.2.2.2.cells ≤ M.2.2.2.2.cells ∧ n + N.2.2.2.2.slots ≤ M.2.2.2.2.slots) (hr : (rest.map fun v => v.category).sum ≤ 8)
    (kk : tl_R E M X Z (k + N.2.2.2.2.cells) (n + N.2.2.2.2.slots) (tl_HB E u1) (pc + 3) ls (rest)) : tl_R E M X Z k n (tl_HB E u) pc ls (f0 :: e0 :: d0 :: c0 :: b0 :: a0 :: rest) := tl_xS (As := [a0, b0, c0, d0, e0, f0]) hN hd hc hf hr kk
theorem tl_xV6v {a0 b0 c0 d0 e0 f0 : Value} {i o K : Nat} {u1 : tl_S} {C : String} {T : u_T} {NN : Nat} {ty : Nat → FieldType} (ck : tl_ck K C T NN ty) (hC : N.1.cls = C) (hT : tl_T E.2.1 o = some K) (hN : tl_MX E N (.ref o :: [a0, b0, c0, d0, e0, f0]) u 0 none u1) (hd : decode M.2.1 pc = .ok (.invokevirtual i, 3)) (hc : tl_cV M N i 6) (hf : k + N.2.2.2.2.cells ≤ M.2.2.2.2.cells ∧ n + N.2.2.2.2.slots ≤ M.2.2.2.2.slots) (hr : (rest.map fun v => v.category).sum ≤ 8)
    (kk : tl_R E M X Z (k + N.2.2.2.2.cells) (n + N.2.2.2.2.slots) (tl_HB E u1) (pc + 3) ls (rest)) : tl_R E M X Z k n (tl_HB E u) pc ls (f0 :: e0 :: d0 :: c0 :: b0 :: a0 :: .ref o :: rest) := tl_xV (As := [a0, b0, c0, d0, e0, f0]) hN (by rw [hC]; exact tl_recv ck hT) hd hc hf hr kk
theorem tl_xS6t {a0 b0 c0 d0 e0 f0 : Value} {i : Nat} {q q0 : Option Value} (hN : tl_MX E N [a0, b0, c0, d0, e0, f0] u (t + 1) q v) (hd : decode M.2.1 pc = .ok (.invokestatic i, 3)) (hc : tl_cS M N i 6) (hf : k + N.2.2.2.2.cells ≤ M.2.2.2.2.cells ∧ n + N.2.2.2.2.slots ≤ M.2.2.2.2.slots) (hr : (rest.map fun v => v.category).sum ≤ 8) : tl_R E M tl_XT (tl_ZX E M (t + 1) q0 v) k n (tl_HB E u) pc ls (f0 :: e0 :: d0 :: c0 :: b0 :: a0 :: rest) := tl_xSt (As := [a0, b0, c0, d0, e0, f0]) hN hd hc hf hr
theorem tl_xV6t {a0 b0 c0 d0 e0 f0 : Value} {i o K : Nat} {q q0 : Option Value} {C : String} {T : u_T} {NN : Nat} {ty : Nat → FieldType} (ck : tl_ck K C T NN ty) (hC : N.1.cls = C) (hT : tl_T E.2.1 o = some K) (hN : tl_MX E N (.ref o :: [a0, b0, c0, d0, e0, f0]) u (t + 1) q v) (hd : decode M.2.1 pc = .ok (.invokevirtual i, 3)) (hc : tl_cV M N i 6) (hf : k + N.2.2.2.2.cells ≤ M.2.2.2.2.cells ∧ n + N.2.2.2.2.slots ≤ M.2.2.2.2.slots) (hr : (rest.map fun v => v.category).sum ≤ 8) : tl_R E M tl_XT (tl_ZX E M (t + 1) q0 v) k n (tl_HB E u) pc ls (f0 :: e0 :: d0 :: c0 :: b0 :: a0 :: .ref o :: rest) := tl_xVt (As := [a0, b0, c0, d0, e0, f0]) hN (by rw [hC]; exact tl_recv ck hT) hd hc hf hr
end TLX
/-! ### how a function of a method that may throw goes on -/
def tl_bx (o : Option (Nat × Int32 × tl_S)) (f : Int32 → tl_S → Option (Nat × Int32 × tl_S)) : Option (Nat × Int32 × tl_S) := match o with
  | some (0, x, v) => f x v
  | some (t + 1, _, v) => some (t + 1, 0, v)
  | none => none
theorem tl_bxi {o : Option (Nat × Int32 × tl_S)} {f : Int32 → tl_S → Option (Nat × Int32 × tl_S)} {t : Nat} {r : Int32} {v : tl_S} (h : tl_bx o f = some (t, r, v)) : (∃ x w, o = some (0, x, w) ∧ f x w = some (t, r, v)) ∨ (∃ t1 x, o = some (t1 + 1, x, v) ∧ t = t1 + 1) := by
  unfold tl_bx at h
  split at h
  · exact Or.inl ⟨_, _, rfl, h⟩
  · cases h; exact Or.inr ⟨_, _, rfl, rfl⟩
  · cases h
theorem tl_bxs {o : Option (Nat × Int32 × tl_S)} {f : Int32 → tl_S → Option (Nat × Int32 × tl_S)} {x : Int32} {v : tl_S} (h : o = some (0, x, v)) : tl_bx o f = f x v := by subst h; rfl
theorem tl_bxt {o : Option (Nat × Int32 × tl_S)} {f : Int32 → tl_S → Option (Nat × Int32 × tl_S)} {t : Nat} {x : Int32} {v : tl_S} (h : o = some (t + 1, x, v)) : tl_bx o f = some (t + 1, 0, v) := by subst h; rfl
