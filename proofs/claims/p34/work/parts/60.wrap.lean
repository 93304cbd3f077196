/-! The law's wrappers: a call of the class whose exceptions are caught, row by row. -/
abbrev tl_hs : Type := List (Nat × Nat × Nat × Nat)
def tl_w9 (M : tl_M) (hh : tl_hs) : Cond := Cond.codeWith M.1 M.2.1 M.2.2.1 M.2.2.2.1 hh
def tl_XH (hh : tl_hs) : State → Array Value → Code → Prop := fun _ _ c => c.exceptionTable.toList = tableOf hh
def tl_MetH (E : tl_E) (M : tl_M) (hh : tl_hs) (av : List Value) (HP : Heap → Prop) (Q : Option Value → Heap → Prop) : Prop :=
  Met E.1 M.1 (tl_w9 M hh :: tl_GW) M.2.2.2.2 (tl_Pc E av HP) (tl_Qc E Q) M.2.2.2.2.cells M.2.2.2.2.slots (tl_Fr E)
theorem tl_startH {E : tl_E} {M : tl_M} {hh : tl_hs} {av : List Value} {HP : Heap → Prop} {Q : Option Value → Heap → Prop} (ls0 : List (Option Value)) (hy : plainName M.1.cls = true) (h0 : ls0.length = M.2.2.1) (hls : tl_lq ls0 0 = lv_args 0 av) (hlen : (lg_sl av).length ≤ M.2.2.1)
    (body : tl_R E M (tl_XH hh) (tl_Z E M Q) 0 0 HP 0 ls0 []) : tl_MetH E M hh av HP Q := by
  refine va_MetW (cc := M.2.1) (maxL := M.2.2.1) (ret := M.2.2.2.1) (hh := hh) hy rfl ?_
  intro p e s m args below meth c s₁ B hml hv
  obtain ⟨rfl, hH, hKK, hz⟩ := hv
  have hts := atoms_spec (ws := tl_w9 M hh :: tl_GW) B.pre
  rw [lg_entry_eq]
  refine body p e s m _ below meth c ⟨B.exec, B.bytes, B.returns, hml, findClass_of_methodNamed B.named, fun w hw => hts w (List.mem_cons_of_mem _ hw), B.notSynchronized, (name_of_methodNamed B.named B.method).1, hKK, hz⟩ (vx_table (x := M.1) B (hts _ List.mem_cons_self)) s.heap _ [] hH va_S.rf ⟨h0, ?_⟩
  rw [hls]
  exact lv_entry av hlen
/-- the row that takes what is thrown with the number t at pc -/
def tl_ho (M : tl_M) (hh : tl_hs) (pc t tgt : Nat) : Prop := ∃ (pre suf : tl_hs) (a b i : Nat), hh = pre ++ (a, b, tgt, i) :: suf ∧ (a ≤ pc ∧ pc < b) ∧ i ≠ 0 ∧ Cond.classLink M.1.cls i (tl_xn t) ∈ tl_GW ∧ ∀ y ∈ pre, y.2.2.2 ≠ 0 ∧ ∃ nm ∈ tl_NC, Cond.classLink M.1.cls y.2.2.2 nm ∈ tl_GW ∧ tl_xn t ≠ nm
theorem tl_xnC (t : Nat) : tl_xn t ∈ tl_NC := by
  unfold tl_xn tl_NC
  split
  · exact List.mem_cons_self
  · exact List.mem_cons_of_mem _ List.mem_cons_self
  · exact List.mem_cons_of_mem _ (List.mem_cons_of_mem _ List.mem_cons_self)
/-- a handler: the thing away, a number of the pool back -/
def tz_hb (M : tl_M) (tg : Nat) (x : Int32) : Prop := ∃ (pc1 : Nat) (q : Nat), ((∃ j : Fin 4, decode M.2.1 tg = .ok (.astore_n j, 1) ∧ (j : Nat) < M.2.2.1 ∧ pc1 = tg + 1) ∨ (∃ j : Nat, decode M.2.1 tg = .ok (.astore j, 2) ∧ j < M.2.2.1 ∧ pc1 = tg + 2)) ∧ decode M.2.1 pc1 = .ok (.ldc q, 2) ∧ Cond.constant M.1.cls q x ∈ tl_GW ∧ decode M.2.1 (pc1 + 2) = .ok (.ireturn, 1)
section TLWR
variable {E : tl_E} {M N : tl_M} {Z : List Frame → Array Value → State → State → Prop} {k n pc : Nat} {u v : tl_S} {ls : List (Option Value)} {st rest : List Value} {t : Nat} {hh : tl_hs}
theorem tl_wcall {As : List Value} {i b tgt : Nat} {q : Option Value} (hN : tl_MX E N (.ref b :: As) u t q v) (hrc : ∀ (s : State) (H : Heap), tl_KK E s → tl_HB E u H → ∃ cell : Cell, H[b]? = some cell ∧ cell.vm.isStatics = false ∧ s.vm.findClass N.1.cls = some cell.cls) (hd : decode M.2.1 pc = .ok (.invokevirtual i, 3)) (hc : tl_cV M N i As.length) (hf : k + N.2.2.2.2.cells ≤ M.2.2.2.2.cells ∧ n + N.2.2.2.2.slots ≤ M.2.2.2.2.slots) (hr : (rest.map fun v => v.category).sum ≤ 8)
    (hx : t ≠ 0 → tl_ho M hh pc t tgt)
    (kk : t = 0 → tl_R E M (tl_XH hh) Z (k + N.2.2.2.2.cells) (n + N.2.2.2.2.slots) (tl_HB E v) (pc + 3) ls (q.toList ++ rest))
    (kx : t ≠ 0 → ∀ q9 : Nat, tl_R E M (tl_XH hh) Z (k + N.2.2.2.2.cells) (n + N.2.2.2.2.slots) (tl_HB E v) tgt ls [.ref q9]) : tl_R E M (tl_XH hh) Z k n (tl_HB E u) pc ls (As.reverse ++ .ref b :: rest) := by
  intro p e s m args below meth c hC hX H la locs hH hS hL
  obtain ⟨c1, c2, c3, c4, c7, c5, c6⟩ := hc
  have hts := hC.2.2.2.2.2.1
  have hKK := hC.2.2.2.2.2.2.2.2.1
  refine tl_afterX (vx_runV (C := N.1.cls) ⟨hC.1, hC.2.1, hC.2.2.2.1, hC.2.2.2.2.1, hts⟩ hN ⟨callB_of As.length hts (tl_goodInG c1) rfl rfl rfl (hts _ c7) (hts _ c2) c5 c6, hts _ c3, hts _ c4⟩ ⟨tl_blind E _ _, hrc s H hKK hH, tl_pre hKK hC.2.2.2.2.2.2.2.2.2 hH hS⟩ rfl rfl (show la.size = _ from hL.2.1) rfl (lv_room hr) hd hf) hS ?_ ?_
  · exact fun h0 H1 locs1 hq hS1 => kk h0 p e s m args below meth c hC hX H1 la locs1 hq hS1 hL
  · intro ht H1 locs1 q9 ce hq hS1 h1 h2 h3
    obtain ⟨pre, suf, a, b', i', e1, e2, e3, e4, e5⟩ := hx ht
    have e6 : c.exceptionTable.toList = tableOf pre ++ (⟨a, b', tgt, i'⟩ : ExceptionTableEntry) :: tableOf suf := by
      rw [show c.exceptionTable.toList = tableOf hh from hX, e1]
      simp [tableOf]
    refine vx_catch (own := M.1.cls) (name := tl_xn t) (E := tl_xn t) hC.2.2.2.2.1 (tableOf pre) ⟨a, b', tgt, i'⟩ (tableOf suf) e6 ?_ ?_ e3 (hts _ e4) (va_Nw.use rfl (hKK.2.2.2.2.1 _ (tl_xnC t))) h1 h2 h3 (kx ht q9 p e s m args below meth c hC hX H1 la locs1 hq hS1 hL)
    · intro y hy
      obtain ⟨y0, hy0, rfl⟩ := List.mem_map.mp hy
      obtain ⟨f1, nm, f2, f3, f4⟩ := e5 y0 hy0
      exact Or.inr ⟨f1, nm, hts _ f3, hKK.2.2.2.2.2.2.2.2.2.1 _ (tl_xnC t) nm f2 f4⟩
    · show (decide (a ≤ pc) && decide (pc < b')) = true
      rw [decide_eq_true e2.1, decide_eq_true e2.2]; rfl
theorem tz_hend {x : Int32} {Q : Option Value → tl_S → Prop} {X : State → Array Value → Code → Prop} {tg q9 : Nat} (hb : tz_hb M tg x) (hret : M.2.2.2.1 = some .int) (hk : k ≤ M.2.2.2.2.cells) (hn2 : n ≤ M.2.2.2.2.slots) (hq : Q (some (.int x)) v) : tl_R E M X (tl_ZB E M Q) k n (tl_HB E v) tg ls [.ref q9] := by
  obtain ⟨pc1, q, h1, h2, h3, h4⟩ := hb
  rcases h1 with ⟨j, a1, a2, rfl⟩ | ⟨j, a1, a2, rfl⟩
  · exact tl_astore_n a1 a2 (tl_ldc h2 h3 (tl_iretB h4 hret rfl hk hn2 hq))
  · exact tl_astore a1 a2 (tl_ldc h2 h3 (tl_iretB h4 hret rfl hk hn2 hq))
/-- what a wrapper tells of an outcome -/
def tz_an (t : Nat) (x : Int32) : Int32 := if t = 0 then x else if t = 1 then -9999001 else if t = 2 then -9999002 else -9999003
theorem tz_wend {As : List Value} {i c b : Nat} {l : List Nat} {r : Int32} {Q : Option Value → tl_S → Prop} (hN : tl_MX E N (.ref b :: As) u t (some (.int r)) v) (hT : tl_T E.2.1 b = some 9) (hl : t = 0 ∨ t ∈ l) (hcls : N.1.cls = RX9) (hret : M.2.2.2.1 = some .int) (hd : decode M.2.1 c = .ok (.invokevirtual i, 3)) (hc : tl_cV M N i As.length) (hf : N.2.2.2.2.cells ≤ M.2.2.2.2.cells ∧ N.2.2.2.2.slots ≤ M.2.2.2.2.slots) (d1 : decode M.2.1 (c + 3) = .ok (.ireturn, 1))
    (hx : ∀ t ∈ l, t ≠ 0 ∧ ∃ tg, tl_ho M hh c t tg ∧ tz_hb M tg (tz_an t 0)) (hQ : Q (some (.int (tz_an t r))) v) : tl_R E M (tl_XH hh) (tl_ZB E M Q) 0 0 (tl_HB E u) c ls (As.reverse ++ .ref b :: []) := by
  have hf' : 0 + N.2.2.2.2.cells ≤ M.2.2.2.2.cells ∧ 0 + N.2.2.2.2.slots ≤ M.2.2.2.2.slots := by rw [Nat.zero_add, Nat.zero_add]; exact hf
  have hrc : ∀ (s : State) (H : Heap), tl_KK E s → tl_HB E u H → ∃ cell : Cell, H[b]? = some cell ∧ cell.vm.isStatics = false ∧ s.vm.findClass N.1.cls = some cell.cls := by rw [hcls]; exact tl_recv tl_ck9 hT
  have k0 : t = 0 → tl_R E M (tl_XH hh) (tl_ZB E M Q) (0 + N.2.2.2.2.cells) (0 + N.2.2.2.2.slots) (tl_HB E v) (c + 3) ls ((some (Value.int r)).toList ++ []) := by
    intro ht
    subst ht
    exact tl_iretB d1 hret rfl hf'.1 hf'.2 hQ
  rcases Nat.eq_zero_or_pos t with ht | ht
  · exact tl_wcall (tgt := 0) hN hrc hd hc hf' (Nat.le_of_ble_eq_true rfl) (fun h => absurd ht h) k0 (fun h => absurd ht h)
  · have ht0 : t ≠ 0 := by omega
    obtain ⟨_, tg, g1, g2⟩ := hx t (hl.resolve_left ht0)
    refine tl_wcall hN hrc hd hc hf' (Nat.le_of_ble_eq_true rfl) (fun _ => g1) k0 (fun _ q9 => tz_hend g2 hret hf'.1 hf'.2 ?_)
    have e : tz_an t r = tz_an t 0 := by unfold tz_an; rw [if_neg ht0, if_neg ht0]
    rw [← e]; exact hQ
end TLWR
theorem tl_x21 : tl_xn 2 ≠ tl_xn 1 := by decide +kernel
theorem tl_x31 : tl_xn 3 ≠ tl_xn 1 := by decide +kernel
theorem tl_x32 : tl_xn 3 ≠ tl_xn 2 := by decide +kernel
