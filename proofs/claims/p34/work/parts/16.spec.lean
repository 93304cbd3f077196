/-! What the calls do, over a row of 104 numbers: 0 galleries, 1 miners, 2 lamps, 3 time, 4 store, 5 burnt, 6 spilled, 7 came, 8 orders, 9 dark hours, 10 dug, 11 the lad's gallery, 12 his cell, 13 his lamp, 14 his oil, 15 has fetched, 16 steps, 17 looks around, then galleries by 2, miners by 4, lamps by 4 (reach, oil, gallery, cell), orders by 4. -/
def tp_any (p : Nat → Bool) : Nat → Bool
  | 0 => false
  | n + 1 => tp_any p n || p n
def tp_cnt (p : Nat → Bool) : Nat → Nat
  | 0 => 0
  | n + 1 => tp_cnt p n + (if p n then 1 else 0)
def tp_nf (f : Nat → tp_R → tp_R) : Nat → tp_R → tp_R
  | 0, r => r
  | n + 1, r => f n (tp_nf f n r)
def tp_hd (g c : Int32) : Int32 := 3 + (((7 * c) + (5 * g)) - ((7 * c) + (5 * g)) / 6 * 6)
def tp_ltl (r : tp_R) (g c : Int32) (l : Nat) : Bool := decide (r (50 + 4 * l) = g) && (!decide (r (49 + 4 * l) ≤ 0) && (!decide (r (48 + 4 * l) < c - r (51 + 4 * l)) && !decide (r (48 + 4 * l) < r (51 + 4 * l) - c)))
def tp_lit (r : tp_R) (g c : Int32) : Bool := tp_any (tp_ltl r g c) (tp_cl (r 2))
def tp_dig (g : Int32) (i : Nat) : Nat → tp_R → tp_R
  | 0, r => r
  | n + 1, r => if 60 ≤ r i then r else if r (i + 1) < tp_hd g (r i) then r else tp_dig g i n (tp_up (tp_up (tp_up r (i + 1) (r (i + 1) - tp_hd g (r i))) i (r i + 1)) 10 (r 10 + 1))
/-- an hour of a miner -/
def tp_mi1 (m : Nat) (r : tp_R) : tp_R :=
  if 60 ≤ r (18 + 2 * tp_cl (r (24 + 4 * m))) then r
  else if tp_lit r (r (24 + 4 * m)) (r (18 + 2 * tp_cl (r (24 + 4 * m)))) then
    tp_dig (r (24 + 4 * m)) (18 + 2 * tp_cl (r (24 + 4 * m))) 61 (tp_up (tp_up r (26 + 4 * m) (r (26 + 4 * m) + r (25 + 4 * m))) (19 + 2 * tp_cl (r (24 + 4 * m))) (r (19 + 2 * tp_cl (r (24 + 4 * m))) + r (25 + 4 * m)))
  else tp_up (tp_up r (27 + 4 * m) (r (27 + 4 * m) + 1)) 9 (r 9 + 1)
/-- an hour of a lamp -/
def tp_bu1 (l : Nat) (r : tp_R) : tp_R := if r (49 + 4 * l) ≤ 0 then r else tp_up (tp_up r (49 + 4 * l) (r (49 + 4 * l) - 1)) 5 (r 5 + 1)
/-- where the lad is to go -/
def tp_gg (r : tp_R) : Int32 := if r 80 = 0 then (if r 13 = -1 then r (50 + 4 * tp_cl (r 81)) else r 82) else if r 15 = 0 then r 11 else r (50 + 4 * tp_cl (r 81))
def tp_gc (r : tp_R) : Int32 := if r 80 = 0 then (if r 13 = -1 then r (51 + 4 * tp_cl (r 81)) else r 83) else if r 15 = 0 then 0 else r (51 + 4 * tp_cl (r 81))
def tp_bt (g c g2 c2 : Int32) : Int32 := if g = g2 then (if c2 ≤ c then c - c2 else c2 - c) else c + c2
def tp_at (r : tp_R) : Bool := decide (tp_bt (r 11) (r 12) (tp_gg r) (tp_gc r) = 0)
/-- an order is gone -/
def tp_od (k : Nat) (r : tp_R) : tp_R := fun i => if 80 + 4 * k ≤ i ∧ i < 80 + 4 * (tp_cl (r 8) - 1) then r (i + 4) else tp_up r 8 (r 8 - 1) i
def tp_pr2 (l : Nat) (x : Int32) (r : tp_R) : tp_R := tp_up (tp_up (tp_up (tp_up r (49 + 4 * l) (r (49 + 4 * l) - x)) 6 (r 6 + x)) 14 0) 15 0
def tp_pr1 (l : Nat) (r : tp_R) : tp_R := if r (49 + 4 * l) ≤ 99 then tp_pr2 l 0 r else tp_pr2 l (r (49 + 4 * l) - 99) r
def tp_pour (l : Nat) (r : tp_R) : tp_R := tp_pr1 l (tp_up r (49 + 4 * l) (r (49 + 4 * l) + r 14))
def tp_tk1 (x : Int32) (r : tp_R) : tp_R := tp_up (tp_up (tp_up r 4 (r 4 - x)) 14 x) 15 1
def tp_take (r : tp_R) : tp_R := if r 4 ≤ r 82 then tp_tk1 (r 4) r else tp_tk1 (r 82) r
/-- what needs no step, once -/
def tp_han (r : tp_R) : tp_R :=
  if r 80 = 0 then
    (if r 13 = -1 then tp_up (tp_up (tp_up (tp_up r 11 (r (50 + 4 * tp_cl (r 81)))) 13 (r 81)) (50 + 4 * tp_cl (r 81)) (-1)) (51 + 4 * tp_cl (r 81)) (-1)
    else tp_od 0 (tp_up (tp_up (tp_up (tp_up r 11 (r 82)) (50 + 4 * tp_cl (r 81)) (r 82)) (51 + 4 * tp_cl (r 81)) (r 83)) 13 (-1)))
  else if r 15 = 0 then tp_take r
  else tp_od 0 (tp_pour (tp_cl (r 81)) (tp_up r 11 (r (50 + 4 * tp_cl (r 81)))))
def tp_ha : Nat → tp_R → tp_R
  | 0, r => r
  | n + 1, r => if r 8 ≤ 0 then r else if tp_at r then tp_ha n (tp_han r) else r
def tp_hal (r : tp_R) : tp_R := tp_ha 12 r
def tp_st (r : tp_R) : tp_R :=
  if tp_gg r = r 11 then (if tp_gc r ≤ r 12 then tp_up r 12 (r 12 + (-1)) else tp_up r 12 (r 12 + 1))
  else if r 12 ≤ 0 then tp_up (tp_up r 11 (tp_gg r)) 12 1 else tp_up r 12 (r 12 - 1)
/-- at most n steps -/
def tp_gs : Nat → tp_R → tp_R
  | 0, r => r
  | n + 1, r => if r 8 ≤ 0 then r else tp_gs n (tp_hal (tp_st r))
/-- how many steps these are -/
def tp_gn : Nat → tp_R → Nat
  | 0, _ => 0
  | n + 1, r => if r 8 ≤ 0 then 0 else tp_gn n (tp_hal (tp_st r)) + 1
def tp_goes (r : tp_R) : tp_R := tp_gs (tp_cl (r 16)) (tp_hal r)
/-- the lamp that is to be moved forward -/
def tp_fwc (r : tp_R) (g : Nat) (b : Int32) (l : Nat) : Bool := decide (r (50 + 4 * l) = nI g) && (!decide (r (49 + 4 * l) ≤ 0) && (!decide (r (18 + 2 * g) - 1 ≤ r (51 + 4 * l)) && (decide (b = -1) || !decide (r (49 + 4 * l) ≤ r (49 + 4 * tp_cl b)))))
def tp_fw (r : tp_R) (g : Nat) : Nat → Int32
  | 0 => -1
  | l + 1 => if tp_fwc r g (tp_fw r g l) l then nI l else tp_fw r g l
def tp_isg (r : tp_R) (g : Nat) (m : Nat) : Bool := decide (r (24 + 4 * m) = nI g)
def tp_wk (r : tp_R) (g : Nat) : Bool := tp_any (tp_isg r g) (tp_cl (r 1))
def tp_dk (r : tp_R) (g : Nat) : Bool := tp_wk r g && (!decide (r (18 + 2 * g) ≤ 1) && (!decide (60 ≤ r (18 + 2 * g)) && !tp_lit r (nI g) (r (18 + 2 * g))))
def tp_oo (r : tp_R) (q l w c : Int32) : tp_R := tp_up (tp_up (tp_up (tp_up (tp_up r (80 + 4 * tp_cl (r 8)) q) (81 + 4 * tp_cl (r 8)) l) (82 + 4 * tp_cl (r 8)) w) (83 + 4 * tp_cl (r 8)) c) 8 (r 8 + 1)
def tp_se (r : tp_R) : Nat → Nat → tp_R
  | 0, _ => r
  | n + 1, g => if tp_dk r g && !decide (tp_fw r g (tp_cl (r 2)) = -1) then tp_oo r 0 (tp_fw r g (tp_cl (r 2))) (nI g) (r (18 + 2 * g) - 1) else tp_se r n (g + 1)
def tp_sees (r : tp_R) : tp_R := tp_se r (tp_cl (r 0)) 0
def tp_ho3 (r : tp_R) : tp_R := if r 17 = 1 then (if r 8 = 0 then tp_sees r else r) else r
def tp_ho2 (r : tp_R) : tp_R := tp_nf tp_bu1 (tp_cl (r 2)) r
def tp_ho1 (r : tp_R) : tp_R := tp_nf tp_mi1 (tp_cl (r 1)) r
def tp_hour (r : tp_R) : tp_R := tp_ho3 (tp_goes (tp_ho2 (tp_ho1 (tp_up r 3 (r 3 + 1)))))
def tp_hrs (n : Nat) (r : tp_R) : tp_R := tp_nf (fun _ => tp_hour) n r
def tp_clr : tp_R := fun i => if i = 13 then -1 else if i = 16 then 4 else 0
/-! ### the state -/
def tp_Ok (r : tp_R) : Prop := tp_rng r ∧
  (∀ m, m < tp_cl (r 1) → tp_cl (r (24 + 4 * m)) < tp_cl (r 0)) ∧
  (∀ k, k < tp_cl (r 8) → tp_cl (r (81 + 4 * k)) < tp_cl (r 2) ∧ (r (80 + 4 * k) = 0 → tp_cl (r (82 + 4 * k)) ≤ 2 ∧ r (83 + 4 * k) ≠ -1) ∧ (r (80 + 4 * k) ≠ 0 → r (83 + 4 * k) = -1)) ∧
  (∀ l, l < tp_cl (r 2) → r (50 + 4 * l) = -1 ∨ r (51 + 4 * l) = -1 → r 13 = nI l) ∧
  (r 13 ≠ -1 → 0 < tp_cl (r 8) ∧ r 80 = 0 ∧ r 81 = r 13 ∧ r 15 = 0) ∧
  (r 15 ≠ 0 → 0 < tp_cl (r 8) ∧ r 80 ≠ 0) ∧ (r 15 = 0 → r 14 = 0)
theorem tp_kd_ga : ∀ g, g < 3 → tp_kd (18 + 2 * g) = (1, 60) := by decide
theorem tp_kd_gs : ∀ g, g < 3 → tp_kd (19 + 2 * g) = (0, 0) := by decide
theorem tp_kd_mg : ∀ m, m < 6 → tp_kd (24 + 4 * m) = (1, 2) := by decide
theorem tp_kd_mp : ∀ m, m < 6 → tp_kd (25 + 4 * m) = (0, 0) := by decide
theorem tp_kd_ms : ∀ m, m < 6 → tp_kd (26 + 4 * m) = (0, 0) := by decide
theorem tp_kd_md : ∀ m, m < 6 → tp_kd (27 + 4 * m) = (0, 0) := by decide
theorem tp_kd_lr : ∀ l, l < 8 → tp_kd (48 + 4 * l) = (1, 9) := by decide
theorem tp_kd_lo : ∀ l, l < 8 → tp_kd (49 + 4 * l) = (1, 99) := by decide
theorem tp_kd_lg : ∀ l, l < 8 → tp_kd (50 + 4 * l) = (2, 2) := by decide
theorem tp_kd_lc : ∀ l, l < 8 → tp_kd (51 + 4 * l) = (2, 59) := by decide
theorem tp_kd_ok : ∀ k, k < 6 → tp_kd (80 + 4 * k) = (1, 1) := by decide
theorem tp_kd_ol : ∀ k, k < 6 → tp_kd (81 + 4 * k) = (1, 7) := by decide
theorem tp_kd_ow : ∀ k, k < 6 → tp_kd (82 + 4 * k) = (1, 99) := by decide
theorem tp_kd_oc : ∀ k, k < 6 → tp_kd (83 + 4 * k) = (2, 59) := by decide
section TPO
variable {r : tp_R}
theorem tp_rN (h : tp_rng r) {i b : Nat} (e : tp_kd i = (1, b)) (hb : b < 2147483648) : r i = nI (tp_cl (r i)) ∧ tp_cl (r i) ≤ b := tp_N_cl ((tp_in1 e).mp (h i)) hb
theorem tp_rM (h : tp_rng r) {i b : Nat} (e : tp_kd i = (2, b)) (hb : b < 2147483648) : r i = -1 ∨ (r i = nI (tp_cl (r i)) ∧ tp_cl (r i) ≤ b) := ((tp_in2 e).mp (h i)).imp id (fun q => tp_N_cl q hb)
theorem tp_r0 (h : tp_rng r) : r 0 = nI (tp_cl (r 0)) ∧ tp_cl (r 0) ≤ 3 := tp_rN h rfl (by decide)
theorem tp_r1 (h : tp_rng r) : r 1 = nI (tp_cl (r 1)) ∧ tp_cl (r 1) ≤ 6 := tp_rN h rfl (by decide)
theorem tp_r2 (h : tp_rng r) : r 2 = nI (tp_cl (r 2)) ∧ tp_cl (r 2) ≤ 8 := tp_rN h rfl (by decide)
theorem tp_r4 (h : tp_rng r) : r 4 = nI (tp_cl (r 4)) ∧ tp_cl (r 4) ≤ 9999 := tp_rN h rfl (by decide)
theorem tp_r8 (h : tp_rng r) : r 8 = nI (tp_cl (r 8)) ∧ tp_cl (r 8) ≤ 6 := tp_rN h rfl (by decide)
theorem tp_r11 (h : tp_rng r) : r 11 = nI (tp_cl (r 11)) ∧ tp_cl (r 11) ≤ 2 := tp_rN h rfl (by decide)
theorem tp_r12 (h : tp_rng r) : r 12 = nI (tp_cl (r 12)) ∧ tp_cl (r 12) ≤ 59 := tp_rN h rfl (by decide)
theorem tp_r13 (h : tp_rng r) : r 13 = -1 ∨ (r 13 = nI (tp_cl (r 13)) ∧ tp_cl (r 13) ≤ 7) := tp_rM h rfl (by decide)
theorem tp_r14 (h : tp_rng r) : r 14 = nI (tp_cl (r 14)) ∧ tp_cl (r 14) ≤ 99 := tp_rN h rfl (by decide)
theorem tp_r15 (h : tp_rng r) : r 15 = nI (tp_cl (r 15)) ∧ tp_cl (r 15) ≤ 1 := tp_rN h rfl (by decide)
theorem tp_r16 (h : tp_rng r) : r 16 = nI (tp_cl (r 16)) ∧ tp_cl (r 16) ≤ 12 := tp_rN h rfl (by decide)
theorem tp_r17 (h : tp_rng r) : r 17 = nI (tp_cl (r 17)) ∧ tp_cl (r 17) ≤ 1 := tp_rN h rfl (by decide)
theorem tp_rga (h : tp_rng r) {g : Nat} (hg : g < 3) : r (18 + 2 * g) = nI (tp_cl (r (18 + 2 * g))) ∧ tp_cl (r (18 + 2 * g)) ≤ 60 := tp_rN h (tp_kd_ga g hg) (by decide)
theorem tp_rmg (h : tp_rng r) {m : Nat} (hm : m < 6) : r (24 + 4 * m) = nI (tp_cl (r (24 + 4 * m))) ∧ tp_cl (r (24 + 4 * m)) ≤ 2 := tp_rN h (tp_kd_mg m hm) (by decide)
theorem tp_rlr (h : tp_rng r) {l : Nat} (hl : l < 8) : r (48 + 4 * l) = nI (tp_cl (r (48 + 4 * l))) ∧ tp_cl (r (48 + 4 * l)) ≤ 9 := tp_rN h (tp_kd_lr l hl) (by decide)
theorem tp_rlo (h : tp_rng r) {l : Nat} (hl : l < 8) : r (49 + 4 * l) = nI (tp_cl (r (49 + 4 * l))) ∧ tp_cl (r (49 + 4 * l)) ≤ 99 := tp_rN h (tp_kd_lo l hl) (by decide)
theorem tp_rlg (h : tp_rng r) {l : Nat} (hl : l < 8) : r (50 + 4 * l) = -1 ∨ (r (50 + 4 * l) = nI (tp_cl (r (50 + 4 * l))) ∧ tp_cl (r (50 + 4 * l)) ≤ 2) := tp_rM h (tp_kd_lg l hl) (by decide)
theorem tp_rlc (h : tp_rng r) {l : Nat} (hl : l < 8) : r (51 + 4 * l) = -1 ∨ (r (51 + 4 * l) = nI (tp_cl (r (51 + 4 * l))) ∧ tp_cl (r (51 + 4 * l)) ≤ 59) := tp_rM h (tp_kd_lc l hl) (by decide)
theorem tp_rok (h : tp_rng r) {k : Nat} (hk : k < 6) : r (80 + 4 * k) = nI (tp_cl (r (80 + 4 * k))) ∧ tp_cl (r (80 + 4 * k)) ≤ 1 := tp_rN h (tp_kd_ok k hk) (by decide)
theorem tp_rol (h : tp_rng r) {k : Nat} (hk : k < 6) : r (81 + 4 * k) = nI (tp_cl (r (81 + 4 * k))) ∧ tp_cl (r (81 + 4 * k)) ≤ 7 := tp_rN h (tp_kd_ol k hk) (by decide)
theorem tp_row (h : tp_rng r) {k : Nat} (hk : k < 6) : r (82 + 4 * k) = nI (tp_cl (r (82 + 4 * k))) ∧ tp_cl (r (82 + 4 * k)) ≤ 99 := tp_rN h (tp_kd_ow k hk) (by decide)
theorem tp_roc (h : tp_rng r) {k : Nat} (hk : k < 6) : r (83 + 4 * k) = -1 ∨ (r (83 + 4 * k) = nI (tp_cl (r (83 + 4 * k))) ∧ tp_cl (r (83 + 4 * k)) ≤ 59) := tp_rM h (tp_kd_oc k hk) (by decide)
end TPO
theorem tp_Ok_clr : tp_Ok tp_clr := by
  refine ⟨fun i => ?_, fun m h => ?_, fun k h => ?_, fun l h => ?_, fun h => ?_, fun h => ?_, fun _ => rfl⟩
  · unfold tp_clr
    split
    · subst_vars; exact (tp_in2 rfl).mpr (Or.inl rfl)
    · split
      · subst_vars; exact (tp_in1 rfl).mpr ⟨4, by decide, rfl⟩
      · exact ⟨fun _ => ⟨0, Nat.zero_le _, rfl⟩, fun _ => Or.inr ⟨0, Nat.zero_le _, rfl⟩⟩
  · exact absurd h (Nat.not_lt_zero m)
  · exact absurd h (Nat.not_lt_zero k)
  · exact absurd h (Nat.not_lt_zero l)
  · exact absurd rfl h
  · exact absurd rfl h
