/-! The law's loops answer true. -/
theorem tz_and (x : Int32) {M : Nat} (hM : M < 2147483648) : ∃ e, e ≤ M ∧ x &&& nI M = nI e := by
  refine ⟨x.toBitVec.toNat &&& M, Nat.and_le_right, ?_⟩
  have hle : x.toBitVec.toNat &&& M ≤ M := Nat.and_le_right
  apply Int32.toBitVec_inj.mp
  apply BitVec.eq_of_toNat_eq
  rw [Int32.toBitVec_and, BitVec.toNat_and]
  show x.toBitVec.toNat &&& (BitVec.ofNat 32 M).toNat = (BitVec.ofNat 32 (x.toBitVec.toNat &&& M)).toNat
  rw [BitVec.toNat_ofNat, BitVec.toNat_ofNat, Nat.mod_eq_of_lt (by omega), Nat.mod_eq_of_lt (by omega)]
theorem tz_sc_N (L : Nat) (xs : Nat → Int32) (k : Int32) : ∃ n, n < 2147483648 ∧ tz_sc L xs k = nI n := by
  obtain ⟨e, e1, e2⟩ := tz_and (if nI L ≤ k then ((15519781 * (k + 3)) + 11789) else xs k.toNatClampNeg) (M := 2147483647) (by decide)
  exact ⟨e, by omega, e2⟩
section TZLP
variable {a b : Nat} {s : tz_S} {U : tz_U} {T : Nat}
/-- an action of both that is done -/
theorem tz_do2 {f : Nat → tz_U → Option (Int32 × tz_U)} {q : Nat} {A B C D : Int32} (h : tz_P a b s U) (hab : a ≠ b) (hf : ∀ a U, f a U = tz_o a (tz_act q A B C D (U a)) U) (c : tp_rf q A B C D s.1 = 0) : ∃ U1 U2, f a U = some (tp_pa q A B s.1, U1) ∧ f b U1 = some (tp_pa q A B s.1, U2) ∧ tz_P a b (tz_act q A B C D s).2.2 U2 := by
  obtain ⟨U1, U2, e1, e2, e3, -⟩ := tz_2 h hab hf
  have ea : tz_an (tz_act q A B C D s).1 (tz_act q A B C D s).2.1 = tp_pa q A B s.1 := by rw [tz_act_0 c]; rfl
  rw [ea] at e1 e2
  exact ⟨U1, U2, e1, e2, e3⟩
/-- one gallery and one miner in both -/
theorem tz_gm {x5 : Int32} {k : Nat} {sc : Int32 → Int32} {x4 : Int32} {fu : Nat} (hk : k < 2) (hP : tz_P a b s U) (hab : a ≠ b) (hS : tz_SO s) (r0 : s.1 0 = nI k) (r1 : s.1 1 = nI k) (hJ1 : ∀ p, 1 ≤ p → p ≤ 60 → tz_J 0 (tz_act 1 (nI p) 0 0 0 s).2.2) :
    ∃ U' s', fL_law_p41 sc (fu + 1) a b x4 x5 1 (nI k) U = fL_law_p41 sc fu a b x4 x5 1 (nI (k + 1)) U' ∧ tz_P a b s' U' ∧ tz_J 0 s' ∧ s'.1 0 = nI (k + 1) ∧ s'.1 1 = nI (k + 1) := by
  obtain ⟨e, e15, ee⟩ := tz_and (tz_shr x5 (4 * nI k)) (M := 15) (by decide)
  obtain ⟨f, f3, fe⟩ := tz_and (tz_shr x5 8) (M := 3) (by decide)
  have ee : tz_shr x5 (4 * nI k) &&& 15 = nI e := ee
  have fe : tz_shr x5 8 &&& 3 = nI f := fe
  have c1 : tp_rf 1 (nI (1 + e)) 0 0 0 s.1 = 0 := tp_rf1.mpr ⟨tz_iwp (by omega) (by omega), by
    rw [r0, decide_eq_false (by rw [tp_k3, tp_le (by decide) (by omega)]; omega)]; rfl⟩
  obtain ⟨U1, U2, a1, a2, a3⟩ := tz_do2 (f := fun a U => fL_call a 9 (nI (1 + e)) 0 0 U) hP hab (fun a U => gc_9) c1
  have J1 := hJ1 (1 + e) (by omega) (by omega)
  have e1 : (tz_act 1 (nI (1 + e)) 0 0 0 s).2.2.1 = tp_ga (nI (1 + e)) s.1 := by rw [tz_act_0 c1]; rfl
  generalize (tz_act 1 (nI (1 + e)) 0 0 0 s).2.2 = s2 at a3 J1 e1
  have q0 : s2.1 0 = nI (k + 1) := by rw [e1]; unfold tp_ga; rw [tp_us, r0, nI_1]
  have q1 : s2.1 1 = nI k := by
    rw [e1]; unfold tp_ga
    rw [tp_un (by decide), tp_un (by omega), tp_un (by omega), r1]
  have c2 : tp_rf 2 (nI k) (nI (1 + f)) 0 0 s2.1 = 0 := tp_rf2.mpr ⟨tz_ig J1.2.1.1.1.1 (by rw [q0, tz_cn (by omega)]; omega), tz_iw_in (L := 1) (B := 5) (by decide) (by omega) (by omega), by
    rw [q1, decide_eq_false (by rw [tp_k6, tp_le (by decide) (by omega)]; omega)]; rfl⟩
  obtain ⟨U3, U4, b1, b2, b3⟩ := tz_do2 (f := fun a U => fL_call a 10 (nI k) (nI (1 + f)) 0 U) a3 hab (fun a U => gc_10) c2
  have J2 := tz_J_act (q := 2) (A := nI k) (B := nI (1 + f)) (C := 0) (D := 0) J1 (by decide) (by decide)
  have e2 : (tz_act 2 (nI k) (nI (1 + f)) 0 0 s2).2.2.1 = tp_mi (nI k) (nI (1 + f)) s2.1 := by rw [tz_act_0 c2]; rfl
  have J2 : tz_J 0 (tz_act 2 (nI k) (nI (1 + f)) 0 0 s2).2.2 := J2
  generalize (tz_act 2 (nI k) (nI (1 + f)) 0 0 s2).2.2 = s4 at b3 J2 e2
  refine ⟨U4, s4, ?_, b3, J2, ?_, ?_⟩
  · have pa1 : tp_pa 1 (nI (1 + e)) 0 s.1 = nI k := r0
    have pa2 : tp_pa 2 (nI k) (nI (1 + f)) s2.1 = nI k := q1
    rw [pa1] at a1 a2
    rw [pa2] at b1 b2
    rw [fL_law_p41]
    rw [if_neg (show ¬ 2 ≤ nI k by rw [tp_k2, tp_le (by decide) (by omega)]; omega), if_neg (by decide), ee, fe, show (1 : Int32) + nI e = nI (1 + e) from nI_add 1 _, show (1 : Int32) + nI f = nI (1 + f) from nI_add 1 _, a1, tp_b2S, if_pos rfl, a2, tp_b2S, if_pos rfl, b1, tp_b2S, if_pos rfl, b2, tp_b2S, if_pos rfl, tp_L, nI_1]
  · rw [e2]; unfold tp_mi
    rw [tp_un (by decide), tp_un (by omega), tp_un (by omega), tp_un (by omega), tp_un (by omega), q0]
  · rw [e2]; unfold tp_mi
    rw [tp_us, q1, nI_1]
theorem tz_SO_0 : tz_SO tz_s0 := ⟨Nat.zero_le _, fun i h => absurd h (Nat.not_lt_zero _), tp_Ok_clr, Nat.zero_le _, fun i h => absurd h (Nat.not_lt_zero _), fun _ _ (h : false = true) => absurd h (by decide)⟩
/-- two galleries, two miners -/
theorem tz_law41 {x5 : Int32} {sc : Int32 → Int32} {x4 : Int32} (hP : tz_P a b tz_s0 U) (hab : a ≠ b) : ∃ U' s', fL_law_p41 sc 3 a b x4 x5 1 0 U = some (1, U') ∧ tz_P a b s' U' ∧ tz_J 0 s' := by
  obtain ⟨U1, s1, a1, a2, a3, a4, a5⟩ := tz_gm (x5 := x5) (k := 0) (sc := sc) (x4 := x4) (fu := 2) (by decide) hP hab tz_SO_0 rfl rfl (fun p p1 p2 => by
    have c : tp_rf 1 (nI p) 0 0 0 tz_s0.1 = 0 := tp_rf1.mpr ⟨tz_iwp p1 p2, rfl⟩
    have hS := tz_SO_act tz_SO_0 c
    rw [tz_act_0 c]
    refine ⟨hS, tz_V0 p1 p2, fun i (hi : i < 1) => Or.inr ⟨0, by decide, ?_⟩, fun _ _ (h : false = true) => absurd h (by decide)⟩
    have i0 : i = 0 := by omega
    subst i0
    rfl)
  obtain ⟨U2, s2, b1, b2, b3, b4, b5⟩ := tz_gm (x5 := x5) (k := 1) (sc := sc) (x4 := x4) (fu := 1) (by decide) a2 hab a3.1 a4 a5 (fun p p1 p2 => tz_J_act (q := 1) (A := nI p) (B := 0) (C := 0) (D := 0) a3 (by decide) (by decide))
  refine ⟨U2, s2, ?_, b2, b3⟩
  have a1 : fL_law_p41 sc 3 a b x4 x5 1 0 U = fL_law_p41 sc 2 a b x4 x5 1 (nI (0 + 1)) U1 := a1
  rw [a1, b1]
  rw [fL_law_p41, if_pos (by decide)]
def tz_t2 (sc : Int32 → Int32) (fu a2 a3 : Nat) (x4 x6 x9 : Int32) (u41 : tz_U) : Option (Int32 × tz_U) :=
  (if 1 < (x6 - x6 / 4 * 4) then tl_let (x6 + 1) (fun x43 => fL_law_p164 sc fu a2 a3 x4 1 x43 u41) else tl_b2 (fL_best a2 a3 (x9 / 11) u41) (fun x43 u45 => (if x43 = 0 then tl_let (x6 + 1) (fun x47 => fL_law_p164 sc fu a2 a3 x4 0 x47 u45) else tl_let (x6 + 1) (fun x47 => fL_law_p164 sc fu a2 a3 x4 1 x47 u45))))
def tz_t1 (sc : Int32 → Int32) (fu a2 a3 : Nat) (x4 x6 x9 : Int32) (u33 : tz_U) : Option (Int32 × tz_U) :=
  tl_b2 (fL_dark a2 a3 (x9 / 7) u33) (fun x34 u36 => (if x34 = 0 then tl_let (x6 + 1) (fun x38 => fL_law_p164 sc fu a2 a3 x4 0 x38 u36) else (if 0 < (x6 - x6 / 3 * 3) then tz_t2 sc fu a2 a3 x4 x6 x9 u36 else tl_b2 (fL_done a2 a3 u36) (fun x49 u51 => (if x49 = 0 then tl_let (x6 + 1) (fun x53 => fL_law_p164 sc fu a2 a3 x4 0 x53 u51) else tz_t2 sc fu a2 a3 x4 x6 x9 u51)))))
/-- one turn, and those behind it -/
theorem tz_turns {sc : Int32 → Int32} {N : Nat} (hsc : ∀ k, ∃ n, n < 2147483648 ∧ sc k = nI n) (hab : a ≠ b) (hN : N ≤ 100) : ∀ (fu i : Nat) (s : tz_S) (U : tz_U), tz_P a b s U → tz_J (9 * i) s → i ≤ N → N < i + fu → ∃ U', fL_law_p164 sc fu a b (nI N) 1 (nI i) U = some (1, U')
  | 0, _, _, _, _, _, _, h => absurd h (by omega)
  | fu + 1, i, s, U, hP, hJ, h1, h2 => by
    have ih := tz_turns hsc hab hN fu (i + 1)
    rw [fL_law_p164]
    by_cases c : N ≤ i
    · rw [if_pos (by rw [tp_le (by omega) (by omega)]; exact c)]
      exact ⟨U, rfl⟩
    · rw [if_neg (by rw [tp_le (by omega) (by omega)]; exact c), if_neg (by decide)]
      have e2 : (2 : Int32) + nI i = nI (2 + i) := nI_add 2 i
      rw [e2, tl_gs (show ¬ nI (2 + i) < 0 by rw [tp_k0, tp_lt (by omega) (by decide)]; omega), tp_L]
      obtain ⟨x, hx, ex⟩ := hsc (nI (2 + i))
      rw [ex]
      have q5 : nI x - nI x / 100000 * 100000 = nI (x % 100000) := pk_rem (d := 100000) hx (by decide) (by decide)
      have q3 : nI x - nI x / 1000 * 1000 = nI (x % 1000) := pk_rem (d := 1000) hx (by decide) (by decide)
      have e7 : nI x / 7 = nI (x / 7) := pk_div (d := 7) hx (by decide) (by decide)
      have e11 : nI x / 11 = nI (x / 11) := pk_div (d := 11) hx (by decide) (by decide)
      obtain ⟨r, s', J', hr⟩ := tz_act_D hJ hx
      have J' : tz_J (9 * (i + 1)) s' := J'
      have a1 := hr a U hP.1
      have b1 : tz_set U a s' b = s := by rw [tz_set_n (Ne.symm hab), hP.2]
      have rf1 : fL_refuses b (nI (x % 100000)) (tz_set U a s') = some (1, tz_set U a s') := tz_refuses (T := 9 * i) (by rw [b1]; exact hJ.2.1) (by omega)
      have a2 := hr b (tz_set U a s') b1
      have P2 : tz_P a b s' (tz_set (tz_set U a s') b s') := ⟨by rw [tz_set_n hab, tz_set_s], tz_set_s _ _ _⟩
      generalize tz_set (tz_set U a s') b s' = U2 at a2 P2
      have rf2 : fL_refuses b (nI (x % 1000)) U2 = some (1, U2) := tz_refuses (T := 9 * (i + 1)) (by rw [P2.2]; exact J'.2.1) (by omega)
      have al := tz_alike P2 (nI x - nI x / 5000 * 5000)
      have ho1 : fL_holds a U2 = some (1, U2) := tz_holds (T := 9 * (i + 1)) (by rw [P2.1]; exact J'.2.1) (by omega)
      have ho2 : fL_holds b U2 = some (1, U2) := tz_holds (T := 9 * (i + 1)) (by rw [P2.2]; exact J'.2.1) (by omega)
      dsimp only at a1 a2
      have n1 : nI i + 1 = nI (i + 1) := nI_1 i
      have t2 : ∀ s U, tz_P a b s U → tz_J (9 * (i + 1)) s → ∃ U', tz_t2 sc fu a b (nI N) (nI i) (nI x) U = some (1, U') := fun s U hP hJ => by
        unfold tz_t2
        by_cases c4 : 1 < nI i - nI i / 4 * 4
        · rw [if_pos c4, tp_L, n1]
          exact ih s U hP hJ (by omega) (by omega)
        · obtain ⟨U', s', k1, k2, k3⟩ := tz_best_ok2 hJ hP hab (show x / 11 < 2147483648 by omega)
          rw [if_neg c4, e11, k1, tp_b2S, if_neg (by decide), tp_L, n1]
          exact ih s' U' k2 (tz_B_J k3 hJ) (by omega) (by omega)
      have t1 : ∃ U', tz_t1 sc fu a b (nI N) (nI i) (nI x) U2 = some (1, U') := by
        unfold tz_t1
        obtain ⟨U3, s3, k1, k2, k3⟩ := tz_dark_ok2 J' P2 hab (show x / 7 < 2147483648 by omega)
        have J3 := tz_B_J k3 J'
        rw [e7, k1, tp_b2S, if_neg (by decide)]
        by_cases c3 : 0 < nI i - nI i / 3 * 3
        · rw [if_pos c3]; exact t2 s3 U3 k2 J3
        · obtain ⟨U4, s4, l1, l2, l3⟩ := tz_done_ok J3 k2 hab
          rw [if_neg c3, l1, tp_b2S, if_neg (by decide)]
          exact t2 s4 U4 l2 (tz_B_J l3 J3)
      obtain ⟨U', ht⟩ := t1
      refine ⟨U', ?_⟩
      rw [a1, tp_b2S, q5, rf1, tp_b2S, if_neg (by decide), a2, tp_b2S, if_pos rfl, q3, rf2, tp_b2S, if_neg (by decide), al, tp_b2S, if_neg (by decide), tz_k]
      by_cases c2 : nI i - nI i / 2 * 2 = 0
      · rw [if_pos c2, ho1, tp_b2S, if_neg (by decide)]
        exact ht
      · rw [if_neg c2, ho2, tp_b2S, if_neg (by decide)]
        exact ht
end TZLP
