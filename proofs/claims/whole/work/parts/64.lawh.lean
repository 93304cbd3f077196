/-! The law: rules. -/
def R_law : String := "TunnelLampsLaw"
def lw_P (b : Addr) (xs : List Int32) (args : Array Value) (s : State) : Prop := args = #[.ref b] ∧ s.IntsAt b xs ∧ xs.length ≤ 2560 ∧ (Jvm.Cond.and given_1 narrow_1).before args s = true
def lw_Q (_ : Array Value) (s : State) (o : Outcome) (t : State) : Prop := o = .returned (some (.int 1)) ∧ Framed s o t [] 634490 7192633
def lw_Z (below : List Frame) (a : Array Value) (s : State) : State → Prop := fun t => ∃ o, t.status = .running ∧ Ended t below o ∧ lw_Q a s o t
/-- the law's own end, with 1 on the stack, nothing written that was there before, its room as the claim has it -/
theorem lw_ret {p : Program} {l : Launch} {e : Env} {s : State} {m : MethodId} {below : List Frame} {meth : Method} {c : Code} {b : Nat} (hx : p.tables.exec = Jvm.exec) (hb : c.code = code) (hr : meth.sig.returnType = ret) (hlocks : meth.locks = false) {pc : Nat} {H : Heap} {ls : Array Slot} (hdg : decode code pc = .ok (.ireturn, 1)) : W p l e room_1 s m #[Value.ref b] below meth c H [] 634490 7192633 (lw_Z below #[Value.ref b] s) (F0 m pc ls [.int 1]) := by
  intro T hT X
  obtain ⟨fs, hret, hrun, hended, hW, hframe⟩ := X.leave (v := some (.int 1)) (hlocks := hlocks) (fun h => by rw [hr] at h; cases h)
  have hmeth' : T.vm.method? m = some meth := X.method'
  refine ⟨T.setFrames fs, ?_, .returned (some (.int 1)), hrun, hended, rfl, ⟨_, rfl⟩, hW, hframe⟩
  jvm_step X.here [X.here.top, hx, hb, hdg, hmeth', hr, ret, narrow_b1]
  (try refine ⟨rfl, ?_⟩); (try refine ⟨rfl, ?_⟩)
  first | (intro acts; rw [hret _ acts rfl rfl rfl]) | rw [hret _ _ rfl rfl rfl]
  exact Steps.refl _
/-- what holds at the law's entry: the machine, the code, the tables' words (any of lw_tbl by 'hts w (by decide +kernel)'), the script of L ints xs at the cell b, what the Statement gives of the start (any of its parts by flat_of_before) -/
def lw_At (p : Program) (s : State) (m : MethodId) (meth : Method) (c : Code) (b L : Nat) (xs : Nat → Int32) : Prop :=
  p.tables.exec = Jvm.exec ∧ c.code = code ∧ meth.sig.returnType = ret ∧ c.maxLocals = 7 ∧ s.vm.findClass R_law = some m.cls ∧ (∀ w ∈ lw_tbl, w.before #[Value.ref b] s = true) ∧ va_X b L xs s s.heap ∧ b < s.heap.size ∧ meth.locks = false ∧ (Jvm.Cond.and given_1 narrow_1).before #[Value.ref b] s = true
theorem i9_4 : Int32.ofInt 4 = nI 4 := by decide
theorem tw_T10 {z : Nat} : tl_T z (z + 559) = some 10 := by
  unfold tl_T
  rw [if_pos (Nat.le_add_right _ _), Nat.add_sub_cancel_left]; decide +kernel
theorem tw_T17 {z : Nat} : tl_T z (z + 566) = some 17 := by
  unfold tl_T
  rw [if_pos (Nat.le_add_right _ _), Nat.add_sub_cancel_left]; decide +kernel
def tw_X (E : tl_E) (b L : Nat) (xs : Nat → Int32) : State → Array Value → Code → Prop := fun s args _ => args = #[Value.ref b] ∧ va_X b L xs s s.heap ∧ b < s.heap.size ∧ s.heap.size = E.2.1
abbrev tw_ls (E : tl_E) (b i : Nat) (l5 l6 : Option Value) : List (Option Value) := [some (.ref b), some (.ref E.2.1), some (.ref (E.2.1 + 559)), some (.ref (E.2.1 + 566)), some (.int (nI i)), l5, l6]
theorem tw_cmp (x : Int64) : lg_cmp x x = 0 := by
  unfold lg_cmp
  simp
theorem tw_h2 {z t : Nat} {l : List Nat} {r r2 : Int32} {v w : tl_S} (hl : t = 0 ∨ t ∈ l) (hne : ∀ t ∈ l, nI (tp_cd l t) ≠ 0) (e4 : t = 0 → r2 = r) (e5 : w.2.2 = (tl_o64 z t r v).2.2) : nI (tp_cd l t) = 0 → w.2.2 (z + 566) 0 = r2.toInt64 := by
  intro h0
  rcases hl with rfl | ht
  · rw [e5, e4 rfl]
    simp [tl_o64, tl_uL]
  · exact absurd h0 (hne t ht)
section TWR
variable {E : tl_E} {nm : String} {N : tl_M} {b L i : Nat} {xs : Nat → Int32} {Z : List Frame → Array Value → State → State → Prop} {k n pc : Nat} {HP : Heap → Prop} {u v w : tl_S} {ls : List (Option Value)} {st rest : List Value} {l5 l6 : Option Value}
theorem tw_ret (hd : decode code pc = .ok (.ireturn, 1)) (hk : k ≤ 634490) (hn : n ≤ 7192633) : tl_R E (mW nm) (tw_X E b L xs) lw_Z k n HP pc ls [.int 1] := by
  intro p e s m args below meth c hC hX H la locs hH hS hL
  obtain ⟨rfl, hx, hbl, hz⟩ := hX
  refine va_forget (fun q hq => by have h1 := hS.2.2 q hq; rw [hz]; exact h1) (W.widen hk hn ?_)
  exact lw_ret hC.1 hC.2.1 hC.2.2.1 hC.2.2.2.2.2.2.1 hd
theorem tw_len (hd : decode code pc = .ok (.arraylength, 1)) (kk : tl_R E (mW nm) (tw_X E b L xs) Z k n HP (pc + 1) ls (.int (nI L) :: st)) : tl_R E (mW nm) (tw_X E b L xs) Z k n HP pc ls (.ref b :: st) := by
  intro p e s m args below meth c hC hX H la locs hH hS hL
  have hX2 := hX
  obtain ⟨_, hx, hbl, hz⟩ := hX2
  exact va_slen hC.1 hC.2.1 hx hbl (fun h : E.2.1 ≤ b => by omega) hS hd (kk p e s m args below meth c hC hX H la locs hH hS hL)
theorem tw_sld {q : Nat} (hd : decode code pc = .ok (.iaload, 1)) (h1 : q < L) (h2 : L < 2147483648) (kk : tl_R E (mW nm) (tw_X E b L xs) Z k n HP (pc + 1) ls (.int (xs q) :: st)) : tl_R E (mW nm) (tw_X E b L xs) Z k n HP pc ls (.int (nI q) :: .ref b :: st) := by
  intro p e s m args below meth c hC hX H la locs hH hS hL
  have hX2 := hX
  obtain ⟨_, hx, hbl, hz⟩ := hX2
  refine va_sld hC.1 hC.2.1 hx hbl (fun h : E.2.1 ≤ b => by omega) hS (vp_in_nI h1 h2) hd ?_
  rw [nI_clamp (show q < 2 ^ 31 by omega)]
  exact kk p e s m args below meth c hC hX H la locs hH hS hL
theorem tw_arg {j : Nat} {q : Int} (d0 : decode code pc = .ok (.aload_n 0, 1)) (d1 : decode code (pc + 1) = .ok (.iload 4, 2)) (d3 : decode code (pc + 3) = .ok (.iconst q, 1)) (d4 : decode code (pc + 4) = .ok (.iadd, 1)) (d5 : decode code (pc + 5) = .ok (.iaload, 1)) (hl0 : tl_ld ls 0 = some (.ref b)) (hl4 : tl_ld ls 4 = some (.int (nI i))) (hj : Int32.ofInt q = nI j) (h1 : i + j < L) (h2 : L < 2147483648)
    (kk : tl_R E (mW nm) (tw_X E b L xs) Z k n HP (pc + 6) ls (.int (xs (i + j)) :: st)) : tl_R E (mW nm) (tw_X E b L xs) Z k n HP pc ls st := by
  refine tl_aload_n (q := 0) d0 hl0 (tl_iload d1 hl4 (tl_iconst d3 hj (tl_iadd d4 ?_)))
  rw [nI_add]
  exact tw_sld d5 h1 h2 kk
theorem tw_callH0 {As : List Value} {i : Nat} {hh : tl_hs} {Q : Option Value → Heap → Prop} {M : tl_M} {X : State → Array Value → Code → Prop} (hN : tl_MetH E N hh As HP Q) (hd : decode M.2.1 pc = .ok (.invokestatic i, 3)) (hc : tl_w9 N hh ∈ tl_GW ∧ Cond.methodLink M.1.cls i N.1 ∈ tl_GW ∧ Cond.static N.1 ∈ tl_GW ∧ Cond.initialized N.1.cls ∈ tl_GW ∧ tl_cR M N As.length) (hf : k + N.2.2.2.2.cells ≤ M.2.2.2.2.cells ∧ n + N.2.2.2.2.slots ≤ M.2.2.2.2.slots) (hr : (rest.map fun v => v.category).sum ≤ 8)
    (kk : ∀ r, tl_R E M X Z (k + N.2.2.2.2.cells) (n + N.2.2.2.2.slots) (Q r) (pc + 3) ls (r.toList ++ rest)) : tl_R E M X Z k n HP pc ls (As.reverse ++ rest) := by
  intro p e s m args below meth c hC hX H la locs hH hS hL
  obtain ⟨c1, c2, c3, c4, c5, c6⟩ := hc
  have hts := hC.2.2.2.2.2.1
  have hG : GoodIn tl_GW (va_wsS M.1.cls i N.1 (tl_w9 N hh :: tl_GW)) := by
    intro w hw
    unfold va_wsS at hw
    rcases List.mem_append.mp hw with h | h
    · have h3 : w ∈ tl_GW := by
        rcases List.mem_cons.mp h with e1 | h
        · rw [e1]; exact c2
        · rcases List.mem_cons.mp h with e1 | h
          · rw [e1]; exact c3
          · rcases List.mem_cons.mp h with e1 | h
            · rw [e1]; exact c4
            · cases h
      exact ⟨h3, good_of_word (List.mem_filter.mp h3).2⟩
    · exact tl_goodInG c1 w h
  refine tl_after (vx_runSW (hh := hh) (bytes := N.2.1) (maxL := N.2.2.1) (ret := N.2.2.2.1) ⟨hC.1, hC.2.1, hC.2.2.2.1, hC.2.2.2.2.1, hts⟩ hN (vx_cwSW As.length hts hG rfl rfl rfl c5 c6) ⟨tl_blind E As HP, tl_pre hC.2.2.2.2.2.2.2.2.1 hC.2.2.2.2.2.2.2.2.2 hH hS⟩ rfl rfl (show la.size = _ from hL.2.1) rfl (lv_room hr) hd hf) hS ?_
  exact fun r H1 locs1 hq hS1 => kk r p e s m args below meth c hC hX H1 la locs1 hq hS1 hL
theorem tw_callH {As : List Value} {i t : Nat} {l : List Nat} {r : Int32} {hh : tl_hs} {X : State → Array Value → Code → Prop} (hN : tl_MetH E N hh As (tl_HB E u) (fun q H => ∃ w, tl_Qw E l t r v q w ∧ tl_HB E w H)) (hd : decode code pc = .ok (.invokestatic i, 3)) (hc : tl_cH (mW nm) N hh i As.length) (hf : k + N.2.2.2.2.cells ≤ 634490 ∧ n + N.2.2.2.2.slots ≤ 7192633) (hr : (rest.map fun v => v.category).sum ≤ 8)
    (kk : tl_R E (mW nm) X Z (k + N.2.2.2.2.cells) (n + N.2.2.2.2.slots) (tl_HB E (tl_o64 E.2.1 t r v)) (pc + 3) ls (.int (nI (tp_cd l t)) :: rest)) : tl_R E (mW nm) X Z k n (tl_HB E u) pc ls (As.reverse ++ rest) := by
  refine tw_callH0 hN hd hc hf hr (fun q => tl_ex (fun w h => ?_))
  obtain ⟨rfl, rfl⟩ := h
  exact kk
theorem tw_callM {As : List Value} {i a : Nat} {x : Int32} {X : State → Array Value → Code → Prop} (hN : tl_MB E N (.ref a :: As) u (fun q w' => q = some (.int x) ∧ w' = w)) (hrc : ∀ (s : State) (H : Heap), tl_KK E s → tl_HB E u H → ∃ cell : Cell, H[a]? = some cell ∧ cell.vm.isStatics = false ∧ s.vm.findClass N.1.cls = some cell.cls) (hd : decode code pc = .ok (.invokevirtual i, 3)) (hc : tl_cV (mW nm) N i As.length) (hf : k + N.2.2.2.2.cells ≤ 634490 ∧ n + N.2.2.2.2.slots ≤ 7192633) (hr : (rest.map fun v => v.category).sum ≤ 8)
    (kk : tl_R E (mW nm) X Z (k + N.2.2.2.2.cells) (n + N.2.2.2.2.slots) (tl_HB E w) (pc + 3) ls (.int x :: rest)) : tl_R E (mW nm) X Z k n (tl_HB E u) pc ls (As.reverse ++ .ref a :: rest) := by
  refine tl_callV hN hrc hd hc hf hr (fun q => tl_ex (fun w h => ?_))
  obtain ⟨rfl, rfl⟩ := h
  exact kk
/-- the row behind a call: what the reference says was thrown, and what it answers -/
abbrev tw_D (T : Nat) (off : Int) : Prop := decode code T = .ok (.istore 6, 2) ∧ decode code (T + 2) = .ok (.aload_n 2, 1) ∧ decode code (T + 3) = .ok (.invokevirtual 116, 3) ∧ decode code (T + 6) = .ok (.iload 5, 2) ∧ decode code (T + 8) = .ok (.if_icmp .eq 5, 3) ∧ decode code (T + 13) = .ok (.iload 5, 2) ∧ decode code (T + 15) = .ok (.ifCond .ne 15, 3) ∧ decode code (T + 18) = .ok (.aload_n 3, 1) ∧ decode code (T + 19) = .ok (.iconst 0, 1) ∧ decode code (T + 20) = .ok (.laload, 1) ∧ decode code (T + 21) = .ok (.iload 6, 2) ∧ decode code (T + 23) = .ok (.i2l, 1) ∧ decode code (T + 24) = .ok (.lcmp, 1) ∧ decode code (T + 25) = .ok (.ifCond .eq 5, 3) ∧ decode code (T + 30) = .ok (.goto off, 3)
theorem tw_tail {T c : Nat} {off : Int} {r2 : Int32} (D : tw_D T off) (ht : ((T + 30 : Nat) : Int) + off = ((2087 : Nat) : Int)) (hk : k ≤ 634490) (hn : n ≤ 7192633) (h1 : w.1 (E.2.1 + 559) 0 = nI c) (h2 : nI c = 0 → w.2.2 (E.2.1 + 566) 0 = r2.toInt64) (K : ∀ l5 l6, tl_R E (mW nm) (tw_X E b L xs) lw_Z k n (tl_HB E w) 2087 (tw_ls E b i l5 l6) []) : tl_R E (mW nm) (tw_X E b L xs) lw_Z k n (tl_HB E w) T (tw_ls E b i (some (.int (nI c))) l6) [.int r2] := by
  obtain ⟨d0, d2, d3, d6, d8, d13, d15, d18, d19, d20, d21, d23, d24, d25, d30⟩ := D
  have kg : tl_R E (mW nm) (tw_X E b L xs) lw_Z k n (tl_HB E w) (T + 30) (tw_ls E b i (some (.int (nI c))) (some (.int r2))) [] := tl_goto d30 ht (K _ _)
  refine tl_istore (i := 6) d0 (Nat.le_of_ble_eq_true rfl) (tl_aload_n (q := 2) d2 rfl ?_)
  refine tw_callM (As := []) (rest := []) (l10_thrown tw_T10 (r := nI c) (v := w) (by show some (w.1 (E.2.1 + 559) 0, w) = _; rw [h1])) (tl_recv tl_ck10 tw_T10) d3 cV_X10_thrown ⟨hk, hn⟩ (Nat.le_of_ble_eq_true rfl) ?_
  refine tl_iload (i := 5) d6 rfl (tl_icmp_eq (tgt := T + 13) d8 (by omega) (fun _ => ?_) (fun hne => absurd rfl hne))
  refine tl_iload (i := 5) d13 rfl (tl_if_ne (tgt := T + 30) d15 (by omega) (fun _ => kg) (fun h0 => ?_))
  refine tl_aload_n (q := 3) d18 rfl (tl_iconst d19 (v := 0) rfl (tl_lald (fun _ _ => rfl) d20 tw_T17 (N := 1) (j := 0) (by unfold vp_in; decide) rfl (tl_iload (i := 6) d21 rfl (tl_i2l d23 (tl_lcmp d24 ?_)))))
  rw [h2 h0, tw_cmp]
  exact tl_if_eq (tgt := T + 30) d25 (by omega) (fun _ => kg) (fun hne => absurd rfl hne)
end TWR
