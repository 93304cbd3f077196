/-! The class's reading of a text: commands, the place of an error, loading. -/
def tp_FR (S : Nat → Prop) (u v : tl_S) : Prop := (∀ q, ¬ S q → v.1 q = u.1 q ∧ v.2.1 q = u.2.1 q) ∧ v.2.2 = u.2.2
theorem tp_FR_rf {S : Nat → Prop} (u : tl_S) : tp_FR S u u := ⟨fun _ _ => ⟨rfl, rfl⟩, rfl⟩
theorem tp_FR_tr {S : Nat → Prop} {u v w : tl_S} (h1 : tp_FR S u v) (h2 : tp_FR S v w) : tp_FR S u w := ⟨fun q hq => ⟨(h2.1 q hq).1.trans (h1.1 q hq).1, (h2.1 q hq).2.trans (h1.1 q hq).2⟩, h2.2.trans h1.2⟩
theorem tp_FR_m {S T : Nat → Prop} {u v : tl_S} (h : tp_FR S u v) (hs : ∀ q, S q → T q) : tp_FR T u v := ⟨fun q hq => h.1 q (fun z => hq (hs q z)), h.2⟩
theorem tp_FR_A {a : Nat} {u v : tl_S} (h : tp_FA a u v) : tp_FR (fun q => a ≤ q ∧ q < a + 29) u v := ⟨fun q hq => h.1 q (by omega), h.2⟩
theorem tp_FR_B {b : Nat} {u v : tl_S} (h : tp_FB b u v) : tp_FR (fun q => q = b) u v := ⟨fun q hq => ⟨h.1 q hq, by rw [h.2]⟩, by rw [h.2]⟩
theorem tp_Mp_f {a : Nat} {u v : tl_S} (h : tp_Mp a u) (e : v.2.1 (a + 5) = u.2.1 (a + 5)) : tp_Mp a v := by
  unfold tp_Mp
  rw [e]
  exact h
theorem tp_Mn_f {a : Nat} {r : tp_R} {u v : tl_S} (h : tp_Mn a r u) (e : ∀ q, a ≤ q → q < a + 29 → v.1 q = u.1 q ∧ v.2.1 q = u.2.1 q) : tp_Mn a r v := by
  obtain ⟨h1, h2, h3⟩ := h
  have e5 := (e (a + 5) (by omega) (by omega)).2
  refine ⟨fun i hi => ?_, tp_Mp_f h2 e5, fun k h6 hk => ?_⟩
  · have := tp_of_o i hi
    rw [(e (a + tp_of i) (by omega) (by omega)).1]
    exact h1 i hi
  · have := h2.1 k h6
    rw [e5, (e (u.2.1 (a + 5) k) (by omega) (by omega)).1]
    exact h3 k h6 hk
theorem tp_Mn_FR {a : Nat} {r : tp_R} {S : Nat → Prop} {u v : tl_S} (h : tp_Mn a r u) (e : tp_FR S u v) (hs : ∀ q, a ≤ q → q < a + 29 → ¬ S q) : tp_Mn a r v := tp_Mn_f h (fun q h1 h2 => e.1 q (hs q h1 h2))
theorem tp_Mp_FR {a : Nat} {S : Nat → Prop} {u v : tl_S} (h : tp_Mp a u) (e : tp_FR S u v) (hs : ¬ S (a + 5)) : tp_Mp a v := tp_Mp_f h (e.1 _ hs).2
def tp_acn (ch : Nat) : Nat := if ch = 103 then 1 else if ch = 109 then 2 else if ch = 108 then 4 else if ch = 115 then 5 else if ch = 104 then 6 else if ch = 102 then 7 else if ch = 97 then 9 else if ch = 116 then 10 else 0
section TQC
variable {u : tl_S} {c b p : Nat} {o K : tp_R} {tx : tp_R} {len : Nat}
theorem tp_Y_self (h : u.1 c 2 = nI p) : tp_Y u c b (u.1 c) p (u.1 b) = u := by
  unfold tp_Y
  rw [tp_w_self, ← h, tp_ui, tp_w_self]
theorem tp_Y_FR : tp_FR (fun q => q = c ∨ q = b) u (tp_Y u c b o p K) := by
  refine ⟨fun q hq => ⟨?_, rfl⟩, rfl⟩
  exact (tp_wgn (fun z => hq (Or.inl z))).trans (tp_wgn (fun z => hq (Or.inr z)))
theorem tc_action {ch : Nat} {w : tl_S} (hc : ch ≤ 255) : f6_actionOf (nI ch) w = some (nI (tp_acn ch), w) := by
  have e : (nI ch).toInt = (ch : Int) := tp_ti (by omega)
  unfold f6_actionOf tp_acn
  rw [e]
  by_cases c0 : ch < 97 ∨ 116 < ch
  · rw [if_pos (by omega), if_neg (by omega), if_neg (by omega), if_neg (by omega), if_neg (by omega), if_neg (by omega), if_neg (by omega), if_neg (by omega), if_neg (by omega)]; rfl
  · have : ch = 97 ∨ ch = 98 ∨ ch = 99 ∨ ch = 100 ∨ ch = 101 ∨ ch = 102 ∨ ch = 103 ∨ ch = 104 ∨ ch = 105 ∨ ch = 106 ∨ ch = 107 ∨ ch = 108 ∨ ch = 109 ∨ ch = 110 ∨ ch = 111 ∨ ch = 112 ∨ ch = 113 ∨ ch = 114 ∨ ch = 115 ∨ ch = 116 := by omega
    rcases this with rfl | rfl | rfl | rfl | rfl | rfl | rfl | rfl | rfl | rfl | rfl | rfl | rfl | rfl | rfl | rfl | rfl | rfl | rfl | rfl
    all_goals rfl
theorem tp_acn_le (ch : Nat) : tp_acn ch ≤ 10 := by
  unfold tp_acn
  repeat' split
  all_goals decide
theorem tp_cmd_u {ch q : Nat} (h : tp_acn ch = 0) : tp_cmd tx len ch q = (false, 0, 0, 0, 0, 0, q - 1) := by
  have : ∀ x, x = 103 ∨ x = 109 ∨ x = 108 ∨ x = 115 ∨ x = 104 ∨ x = 102 ∨ x = 97 ∨ x = 116 → ¬ ch = x := by
    intro x hx e
    subst e
    rcases hx with rfl | rfl | rfl | rfl | rfl | rfl | rfl | rfl <;> exact absurd h (by decide)
  unfold tp_cmd
  rw [if_neg (this _ (by decide)), if_neg (this _ (by decide)), if_neg (this _ (by decide)), if_neg (this _ (by decide)), if_neg (this _ (by decide)), if_neg (this _ (by decide)), if_neg (this _ (by decide)), if_neg (this _ (by decide))]
theorem tp_cmd_q {ch q : Nat} : (tp_cmd tx len ch q).2.1 = tp_acn ch := by
  unfold tp_cmd tp_acn
  repeat' split
  all_goals rfl
theorem tp_cmd_t {ch q : Nat} (h : (tp_cmd tx len ch q).1 = true) : 1 ≤ (tp_cmd tx len ch q).2.1 ∧ (tp_cmd tx len ch q).2.1 ≤ 10 := by
  rw [tp_cmd_q]
  refine ⟨?_, tp_acn_le ch⟩
  by_cases e : tp_acn ch = 0
  · rw [tp_cmd_u e] at h; cases h
  · omega
theorem tc_numbers (h1 : c ≠ b) (h2 : c + 1 ≠ b) (hlen : len ≤ 120) (ht : ∀ i, i < len → u.1 (c + 1) i = tx i ∧ tp_N 255 (tx i)) (ho : o 1 = nI len) (hp : p ≤ len) {ch : Nat} (h0 : ¬ tp_acn ch = 0) (hK : tp_K0 K (tp_acn ch)) : tp_T (f6_readNumbers c b (tp_Y u c b o p K)) (tp_CQ u c b o (tp_cmd tx len ch p)) := by
  have : ch = 103 ∨ ch = 109 ∨ ch = 108 ∨ ch = 115 ∨ ch = 104 ∨ ch = 102 ∨ ch = 97 ∨ ch = 116 := by
    unfold tp_acn at h0
    by_cases c1 : ch = 103
    · exact Or.inl c1
    · by_cases c2 : ch = 109
      · exact Or.inr (Or.inl c2)
      · by_cases c3 : ch = 108
        · omega
        · by_cases c4 : ch = 115
          · omega
          · by_cases c5 : ch = 104
            · omega
            · by_cases c6 : ch = 102
              · omega
              · by_cases c7 : ch = 97
                · omega
                · by_cases c8 : ch = 116
                  · omega
                  · rw [if_neg c1, if_neg c2, if_neg c3, if_neg c4, if_neg c5, if_neg c6, if_neg c7, if_neg c8] at h0
                    exact absurd rfl h0
  rcases this with rfl | rfl | rfl | rfl | rfl | rfl | rfl | rfl
  · exact tc_numbers1 h1 h2 hlen ht ho hp hK
  · exact tc_numbers2 h1 h2 hlen ht ho hp hK
  · exact tc_numbers4 h1 h2 hlen ht ho hp hK
  · exact tc_numbers5 h1 h2 hlen ht ho hp hK
  · exact tc_numbers6 h1 h2 hlen ht ho hp hK
  · exact tc_numbers7 h1 h2 hlen ht ho hp hK
  · exact tc_numbers9 h1 h2 hlen ht ho hp hK
  · exact tc_numbers10 h1 h2 hlen ht ho hp hK
theorem tc_readCommand (h1 : c ≠ b) (h2 : c + 1 ≠ b) (hlen : len ≤ 120) (ht : ∀ i, i < len → u.1 (c + 1) i = tx i ∧ tp_N 255 (tx i)) (ho : o 1 = nI len) (hp : p ≤ len) : tp_T (f6_readCommand c b (tp_Y u c b o p K)) (fun q => (p < len → tp_CQ u c b o (tp_cmd tx len (tp_cl (tx p)) (p + 1)) q) ∧ (¬ p < len → q.1 = 0 ∧ ∃ K, q.2 = tp_Y u c b o p K ∧ K 0 = 0)) := by
  unfold f6_readCommand
  rw [tp_Yb1 h1, tp_bS]
  have hK : tp_K0 (tp_up (tp_up (tp_up (tp_up (tp_up K 0 0) 1 0) 2 0) 3 0) 4 0) 0 := by
    refine ⟨?_, ?_, ?_, ?_, ?_⟩
    · rw [tp_un (by decide), tp_un (by decide), tp_un (by decide), tp_un (by decide), tp_us]; rfl
    · rw [tp_un (by decide), tp_un (by decide), tp_un (by decide), tp_us]
    · rw [tp_un (by decide), tp_un (by decide), tp_us]
    · rw [tp_un (by decide), tp_us]
    · rw [tp_us]
  generalize tp_up (tp_up (tp_up (tp_up (tp_up K 0 0) 1 0) 2 0) 3 0) 4 0 = L at hK
  have e2 : tp_up o 2 (nI p) 2 = nI p := tp_us _ _ _
  have e1 : tp_up o 2 (nI p) 1 = nI len := (tp_un (by decide)).trans ho
  have elt : (nI p < nI len) = (p < len) := tp_lt (by omega) (by omega)
  rw [tp_Yc, e2, e1, if_neg (by rw [tp_neg (by omega)]; exact id)]
  by_cases c1 : p < len
  · obtain ⟨ht1, ch, ch2, ht2⟩ := ht p c1
    have hcl : tp_cl (tx p) = ch := by unfold tp_cl; rw [ht2, tp_cn (by omega)]
    have le10 := tp_acn_le ch
    rw [hcl, if_pos (elt.mpr c1), tl_gs (tp_ix (by omega) (by omega)), tp_cn (by omega), tp_Yx h2, ht1, ht2, tc_action ch2, tp_b2S, tp_Yk h1, tp_L, tp_Yb h1, tp_us]
    have e0 : (nI (tp_acn ch) = 0) = (tp_acn ch = 0) := by rw [tp_k0, tp_eq (by omega) (by decide)]
    by_cases c2 : tp_acn ch = 0
    · rw [if_pos (e0.mpr c2)]
      refine tp_ret ⟨fun _ => ?_, fun z => absurd c1 z⟩
      rw [tp_cmd_u c2]
      exact tp_CQn (Q := 0) (n := p) rfl rfl rfl (by rw [tp_us, c2])
    · rw [if_neg (fun z => c2 (e0.mp z)), tp_Yc, e2, tp_Yp (nI_1 p), tp_L]
      have hK' : tp_K0 (tp_up L 0 (nI (tp_acn ch))) (tp_acn ch) := ⟨tp_us _ _ _, (tp_un (by decide)).trans hK.2.1, (tp_un (by decide)).trans hK.2.2.1, (tp_un (by decide)).trans hK.2.2.2.1, (tp_un (by decide)).trans hK.2.2.2.2⟩
      refine tp_b2 (tc_numbers h1 h2 hlen ht ho (p := p + 1) (by omega) c2 hK') (fun x w hw => ?_)
      refine tp_g ?_ (tp_ret ⟨fun _ => hw, fun z => absurd c1 z⟩)
      have : x = tp_b01 _ := hw.1
      rw [this]; exact tp_b01_c _
  · rw [if_neg (fun z => c1 (elt.mp z))]
    exact tp_ret ⟨fun z => absurd z c1, fun _ => ⟨rfl, L, rfl, hK.1⟩⟩
theorem tc_find_e (h1 : c ≠ b) (hlen : len ≤ 120) (ho : o 1 = nI len) (hp : p ≤ len) {f : Nat} {i : Int32} {k : Nat} (hk : K 0 = nI k) (hk2 : k ≤ 10) : f6_findError_p28 (f + 1) c b 0 i (tp_Y u c b o p K) = some (if k = 0 then (if p < len then nI p else -1) else nI p, tp_Y u c b o p K) := by
  unfold f6_findError_p28
  have e2 : tp_up o 2 (nI p) 2 = nI p := tp_us _ _ _
  have e1 : tp_up o 2 (nI p) 1 = nI len := (tp_un (by decide)).trans ho
  have elt : (nI p < nI len) = (p < len) := tp_lt (by omega) (by omega)
  have e0 : (nI k = 0) = (k = 0) := by rw [tp_k0, tp_eq (by omega) (by decide)]
  rw [tp_Yb h1, tp_Yc, e2, e1, hk, if_pos rfl]
  simp only [elt, e0]
  rw [ite_self]
  split
  · split <;> rfl
  · rfl
theorem tc_find_l (h1 : c ≠ b) (h2 : c + 1 ≠ b) (hlen : len ≤ 120) (ht : ∀ i, i < len → u.1 (c + 1) i = tx i ∧ tp_N 255 (tx i)) (ho : o 1 = nI len) {r : tp_R} {y : Int32} : ∀ (f fu p i : Nat) (K r : tp_R) (y : Int32), len + 1 ≤ f + p → p ≤ len → i + 1 ≤ p → 122 ≤ fu + i → tp_T (f6_findError_p28 fu c b 1 (nI i) (tp_Y u c b o p K)) (fun q => q.1 = (tp_run tx len f p r y).1 ∧ ∃ p K, q.2 = tp_Y u c b o p K)
  | 0, _, _, _, _, _, _, h, h', _, _ => by omega
  | f + 1, 0, _, _, _, _, _, _, _, _, h => by omega
  | f + 1, 1, _, _, _, _, _, _, _, _, h => by omega
  | f + 1, fu + 2, p, i, K, r, y, hf, hp, hi, hfu => by
    unfold f6_findError_p28
    have e120 : (120 ≤ nI i) = (120 ≤ i) := by rw [tp_k120, tp_le (by decide) (by omega)]
    rw [if_neg (fun z => by have := e120.mp z; omega), if_neg (by decide)]
    refine tp_b2 (tc_readCommand (K := K) h1 h2 hlen ht ho hp) (fun x w hw => ?_)
    rw [tp_L, nI_1]
    unfold tp_run
    by_cases c1 : p < len
    · obtain ⟨hx, K2, hw2, hk0, hk1⟩ := hw.1 c1
      have hx : x = _ := hx
      have hw2 : w = _ := hw2
      obtain ⟨m1, m2⟩ := tp_cmd_f (tx := tx) (len := len) (ch := tp_cl (tx p)) (p := p + 1) (by omega)
      have m3 := tp_cmd_q (tx := tx) (len := len) (ch := tp_cl (tx p)) (q := p + 1)
      have m4 := tp_cmd_u (tx := tx) (len := len) (ch := tp_cl (tx p)) (q := p + 1)
      have m5 := tp_acn_le (tp_cl (tx p))
      rw [if_pos c1]
      generalize tp_cmd tx len (tp_cl (tx p)) (p + 1) = M at *
      show tp_T _ (fun q : Int32 × tl_S => q.1 = (if M.1 = true then _ else _ : Int32 × tp_R × Int32).1 ∧ _)
      rw [hx, hw2]
      rcases em : M.1 with _ | _
      · show tp_T (f6_findError_p28 (fu + 1) c b 0 _ _) _
        rw [tc_find_e h1 hlen ho m1 hk0 (by omega)]
        refine tp_ret ⟨?_, _, _, rfl⟩
        show (if M.2.1 = 0 then _ else _ : Int32) = nI M.2.2.2.2.2.2
        by_cases q0 : M.2.1 = 0
        · rw [if_pos q0]
          have := m4 (m3.symm.trans q0)
          rw [this]
          show (if p + 1 - 1 < len then nI (p + 1 - 1) else -1) = nI (p + 1 - 1)
          rw [if_pos (by omega)]
        · rw [if_neg q0]
      · show tp_T (f6_findError_p28 (fu + 1) c b 1 _ _) _
        have m2 := m2 em
        exact tc_find_l h1 h2 hlen ht ho (r := r) (y := y) f (fu + 1) M.2.2.2.2.2.2 (i + 1) K2 _ _ (by omega) m1 (by omega) (by omega)
    · obtain ⟨hx, K2, hw2, hk0⟩ := hw.2 c1
      have hx : x = 0 := hx
      have hw2 : w = _ := hw2
      rw [hx, hw2, tc_find_e h1 hlen ho hp (k := 0) hk0 (by decide), if_neg c1, if_pos rfl, if_neg c1]
      exact tp_ret ⟨rfl, _, _, rfl⟩
theorem tc_find (h1 : c ≠ b) (h2 : c + 1 ≠ b) (hlen : len ≤ 120) (ht : ∀ i, i < len → u.1 (c + 1) i = tx i ∧ tp_N 255 (tx i)) (ho : u.1 c 1 = nI len) : tp_T (f6_findError c b u) (fun q => q.1 = (tp_txt tx len).1 ∧ tp_FR (fun q => q = c ∨ q = b) u q.2 ∧ q.2.1 c 1 = nI len) := by
  unfold f6_findError tp_txt
  have e0 : (nI len = 0) = (len = 0) := by rw [tp_k0, tp_eq (by omega) (by decide)]
  rw [ho]
  by_cases c0 : len = 0
  · rw [if_pos (e0.mpr c0), if_pos c0]
    exact tp_ret ⟨rfl, tp_FR_rf u, ho⟩
  · rw [if_neg (fun z => c0 (e0.mp z)), if_neg c0, (ht 0 (by omega)).1]
    by_cases c2 : tx 0 = 84
    · rw [if_pos c2, if_pos c2]
      unfold f6_startCommands
      rw [tp_L, tp_bS, tp_tw]
      have e : tp_w u c (tp_up (u.1 c) 2 1) = tp_Y u c b (u.1 c) 1 (u.1 b) := by
        unfold tp_Y
        rw [tp_w_self]; rfl
      rw [e]
      refine tp_mono (tc_find_l (r := tp_clr) (y := 0) h1 h2 hlen ht ho len tl_F 1 0 (u.1 b) tp_clr 0 (by omega) (by omega) (by omega) (by unfold tl_F; omega)) (fun q hq => ?_)
      obtain ⟨q1, p, K, q2⟩ := hq
      rw [q2]
      exact ⟨q1, tp_Y_FR, by rw [tp_Yc, tp_un (by decide)]; exact ho⟩
    · rw [if_neg c2, if_neg c2]
      exact tp_ret ⟨rfl, tp_FR_rf u, ho⟩
/-- the cells that loading changes -/
def tp_LS (z : Nat) (q : Nat) : Prop := q = z + 1 ∨ q = z + 3 ∨ (z + 4 ≤ q ∧ q < z + 33)
theorem tc_load_l {z : Nat} (hlen : len ≤ 120) (htx : ∀ i, i < len → tp_N 255 (tx i)) : ∀ (f fu p i : Nat) (r : tp_R) (y : Int32) (v : tl_S), tp_Mn (z + 4) r v → tp_Ok r → (∀ i, i < len → v.1 (z + 2) i = tx i) → v.1 (z + 1) 1 = nI len → v.1 (z + 1) 2 = nI p →
    len + 1 ≤ f + p → p ≤ len → i + 1 ≤ p → 122 ≤ fu + i → (tp_run tx len f p r y).1 = -1 →
    tp_T (f9_load_p74 fu z y (nI i) v) (fun q => q.1 = 0 ∧ q.2.1 = (tp_run tx len f p r y).2.2 ∧ tp_Mn (z + 4) (tp_run tx len f p r y).2.1 q.2.2 ∧ tp_FR (tp_LS z) v q.2.2 ∧ q.2.2.1 (z + 1) 1 = nI len)
  | 0, _, _, _, _, _, _, _, _, _, _, _, h, h', _, _, _ => by omega
  | f + 1, 0, _, _, _, _, _, _, _, _, _, _, _, _, _, h, _ => by omega
  | f + 1, fu + 1, p, i, r, y, v, hM, hk, ht, hl, h2, hf, hp, hi, hfu, hres => by
    unfold f9_load_p74
    have e120 : (120 ≤ nI i) = (120 ≤ i) := by rw [tp_k120, tp_le (by decide) (by omega)]
    rw [if_neg (fun z => by have := e120.mp z; omega)]
    have eY : tp_Y v (z + 1) (z + 3) (v.1 (z + 1)) p (v.1 (z + 3)) = v := tp_Y_self h2
    have R := tc_readCommand (u := v) (c := z + 1) (b := z + 3) (o := v.1 (z + 1)) (K := v.1 (z + 3)) (tx := tx) (len := len) (p := p) (by omega) (by omega) hlen (fun i hi => ⟨ht i hi, htx i hi⟩) hl hp
    rw [eY] at R
    refine tp_b2 R (fun x w hw => ?_)
    unfold tp_run at hres ⊢
    by_cases c1 : p < len
    · rw [if_pos c1] at hres ⊢
      obtain ⟨hx, K2, hw2, hk0, hk1⟩ := hw.1 c1
      have hx : x = _ := hx
      have hw2 : w = _ := hw2
      obtain ⟨m1, m2⟩ := tp_cmd_f (tx := tx) (len := len) (ch := tp_cl (tx p)) (p := p + 1) (by omega)
      have m3 := tp_cmd_t (tx := tx) (len := len) (ch := tp_cl (tx p)) (q := p + 1)
      generalize tp_cmd tx len (tp_cl (tx p)) (p + 1) = M at *
      rcases em : M.1 with _ | _
      · have : nI M.2.2.2.2.2.2 = -1 := by
          have h' : (if M.1 = true then (tp_run tx len f M.2.2.2.2.2.2 (tp_do M.2.1 M.2.2.1 M.2.2.2.1 M.2.2.2.2.1 M.2.2.2.2.2.1 r y).1 (tp_do M.2.1 M.2.2.1 M.2.2.2.1 M.2.2.2.2.1 M.2.2.2.2.2.1 r y).2) else (nI M.2.2.2.2.2.2, r, y) : Int32 × tp_R × Int32).1 = -1 := hres
          rw [em] at h'
          exact h'
        exact absurd this (fun z => (tp_m1n (by omega)).mp z)
      · obtain ⟨m4, m5⟩ := m3 em
        have m2 := m2 em
        obtain ⟨kA, kB, kC, kD⟩ := hk1 em
        have h' : (tp_run tx len f M.2.2.2.2.2.2 (tp_do M.2.1 M.2.2.1 M.2.2.2.1 M.2.2.2.2.1 M.2.2.2.2.2.1 r y).1 (tp_do M.2.1 M.2.2.1 M.2.2.2.1 M.2.2.2.2.1 M.2.2.2.2.2.1 r y).2).1 = -1 := by
          have h' : (if M.1 = true then (tp_run tx len f M.2.2.2.2.2.2 (tp_do M.2.1 M.2.2.1 M.2.2.2.1 M.2.2.2.2.1 M.2.2.2.2.2.1 r y).1 (tp_do M.2.1 M.2.2.1 M.2.2.2.1 M.2.2.2.2.1 M.2.2.2.2.2.1 r y).2) else (nI M.2.2.2.2.2.2, r, y) : Int32 × tp_R × Int32).1 = -1 := hres
          rw [em] at h'
          exact h'
        show tp_T _ (fun q : Nat × Int32 × tl_S => q.1 = 0 ∧ q.2.1 = (if M.1 = true then (tp_run tx len f M.2.2.2.2.2.2 (tp_do M.2.1 M.2.2.1 M.2.2.2.1 M.2.2.2.2.1 M.2.2.2.2.2.1 r y).1 (tp_do M.2.1 M.2.2.1 M.2.2.2.1 M.2.2.2.2.1 M.2.2.2.2.2.1 r y).2) else (nI M.2.2.2.2.2.2, r, y) : Int32 × tp_R × Int32).2.2 ∧ tp_Mn (z + 4) (if M.1 = true then (tp_run tx len f M.2.2.2.2.2.2 (tp_do M.2.1 M.2.2.1 M.2.2.2.1 M.2.2.2.2.1 M.2.2.2.2.2.1 r y).1 (tp_do M.2.1 M.2.2.1 M.2.2.2.1 M.2.2.2.2.1 M.2.2.2.2.2.1 r y).2) else (nI M.2.2.2.2.2.2, r, y) : Int32 × tp_R × Int32).2.1 q.2.2 ∧ tp_FR (tp_LS z) v q.2.2 ∧ q.2.2.1 (z + 1) 1 = nI len)
        rw [if_pos em]
        have hx1 : x = 1 := by rw [hx, em]; rfl
        have FY : tp_FR (fun q => q = z + 1 ∨ q = z + 3) v w := by rw [hw2]; exact tp_Y_FR
        have hMw : tp_Mn (z + 4) r w := tp_Mn_FR hM FY (by intro q; omega)
        have wb : w.1 (z + 3) = K2 := by rw [hw2]; exact tp_Yb (by omega)
        have wc : w.1 (z + 1) = tp_up (v.1 (z + 1)) 2 (nI M.2.2.2.2.2.2) := by rw [hw2]; exact tp_Yc
        have hC : tp_Cm (z + 3) M.2.1 M.2.2.1 M.2.2.2.1 M.2.2.2.2.1 M.2.2.2.2.2.1 w := by
          unfold tp_Cm
          rw [wb]
          exact ⟨hk0, kA, kB, kC, kD⟩
        rw [hx1, if_neg (by decide)]
        refine tp_b2 (tc_attempt (tp_P_rf hMw) hk m4 m5 hC) (fun x2 w2 hw3 => ?_)
        obtain ⟨hx2, hP⟩ := hw3
        have hx2 : x2 = _ := hx2
        have hP : tp_P w (z + 4) _ w2 := hP
        have FA := tp_FR_A hP.2
        have cl : ∀ q, q = z + 1 ∨ q = z + 2 → w2.1 q = w.1 q := fun q hq => (FA.1 q (by omega)).1
        have F2 : tp_FR (tp_LS z) v w2 := tp_FR_tr (tp_FR_m FY (by unfold tp_LS; intro q; omega)) (tp_FR_m FA (by unfold tp_LS; intro q; omega))
        have t2 : ∀ i, i < len → w2.1 (z + 2) i = tx i := fun i hi => by rw [cl _ (Or.inr rfl), (FY.1 (z + 2) (by omega)).1]; exact ht i hi
        have l2 : w2.1 (z + 1) 1 = nI len := by rw [cl _ (Or.inl rfl), wc, tp_un (by decide)]; exact hl
        have p2 : w2.1 (z + 1) 2 = nI M.2.2.2.2.2.2 := by rw [cl _ (Or.inl rfl), wc, tp_us]
        rw [hx2, tp_if0]
        by_cases c3 : tp_rf M.2.1 M.2.2.1 M.2.2.2.1 M.2.2.2.2.1 M.2.2.2.2.2.1 r = 0
        · rw [tp_tt_p c3] at hP
          rw [tp_do_T c3] at h' ⊢
          rw [decide_eq_true c3, if_pos rfl, tp_L, nI_1]
          refine tp_mono (tc_load_l hlen htx f fu M.2.2.2.2.2.2 (i + 1) _ y w2 hP.1 (tp_Ok_pf hk c3) t2 l2 p2 (by omega) m1 (by omega) (by omega) h') (fun q hq => ?_)
          exact ⟨hq.1, hq.2.1, hq.2.2.1, tp_FR_tr F2 hq.2.2.2.1, hq.2.2.2.2⟩
        · rw [tp_tt_n c3] at hP
          rw [tp_do_F c3] at h' ⊢
          rw [decide_eq_false c3, if_neg (by decide), tp_L, tp_L, nI_1]
          refine tp_mono (tc_load_l hlen htx f fu M.2.2.2.2.2.2 (i + 1) _ (y + 1) w2 hP.1 hk t2 l2 p2 (by omega) m1 (by omega) (by omega) h') (fun q hq => ?_)
          exact ⟨hq.1, hq.2.1, hq.2.2.1, tp_FR_tr F2 hq.2.2.2.1, hq.2.2.2.2⟩
    · obtain ⟨hx, K2, hw2, hk0⟩ := hw.2 c1
      have hx : x = 0 := hx
      have hw2 : w = _ := hw2
      rw [if_neg c1, hx, if_pos rfl]
      have FY : tp_FR (fun q => q = z + 1 ∨ q = z + 3) v w := by rw [hw2]; exact tp_Y_FR
      refine tp_ret ⟨rfl, rfl, tp_Mn_FR hM FY (by intro q; omega), tp_FR_m FY (by unfold tp_LS; intro q; omega), ?_⟩
      show w.1 (z + 1) 1 = _
      rw [hw2, tp_Yc, tp_un (by decide)]
      exact hl
end TQC
