/-! Light, counted by spans. -/
section TPV
variable {a : Nat} {r : tp_R} {u0 u : tl_S}
def tp_bn (r : tp_R) (g l : Nat) : Bool := decide (r (50 + 4 * l) = nI g) && !decide (r (49 + 4 * l) ≤ 0)
def tp_slo (r : tp_R) (l : Nat) : Nat := tp_cl (r (51 + 4 * l)) - tp_cl (r (48 + 4 * l))
def tp_shi (r : tp_R) (l : Nat) : Nat := if r (51 + 4 * l) = -1 then tp_cl (r (48 + 4 * l)) else tp_cl (r (51 + 4 * l)) + tp_cl (r (48 + 4 * l)) + 1
theorem tp_clm1 : tp_cl (-1) = 0 := by decide
theorem tp_clm2 : ((-1) : Int32).toNatClampNeg = 0 := by decide
theorem tp_m1s {n : Nat} (h : n < 2147483647) : ((-1 : Int32) - nI n).toInt = -1 - (n : Int) := by
  rw [tp_tsub (by rw [tp_m1i, tp_ti (by omega)]; omega) (by rw [tp_m1i, tp_ti (by omega)]; omega), tp_m1i, tp_ti (by omega)]
theorem tp_ss {m n : Nat} (hm : m < 2147483648) (hn : n < 2147483648) : (nI m - nI n).toInt = (m : Int) - n := by
  rw [tp_tsub (by rw [tp_ti hm, tp_ti hn]; omega) (by rw [tp_ti hm, tp_ti hn]; omega), tp_ti hm, tp_ti hn]
theorem tp_sm1 {n : Nat} (h : n < 2147483647) : (nI n - (-1)).toInt = (n : Int) + 1 := by
  rw [tp_tsub (by rw [tp_m1i, tp_ti (by omega)]; omega) (by rw [tp_m1i, tp_ti (by omega)]; omega), tp_m1i, tp_ti (by omega)]
  omega
theorem tp_ltl_s (hr : tp_rng r) {g l c : Nat} (hl : l < 8) (hc : c < 60) : tp_ltl r (nI g) (nI c) l = true ↔ tp_bn r g l = true ∧ tp_slo r l ≤ c ∧ c < tp_shi r l := by
  obtain ⟨p, p2, p1, p3⟩ := tp_xx (tp_rlr hr hl)
  unfold tp_ltl tp_bn tp_slo tp_shi tp_cl
  rw [← Bool.and_assoc, Bool.and_eq_true, p3]
  refine and_congr Iff.rfl ?_
  rw [Bool.and_eq_true, p1]
  rcases tp_rlc hr hl with e | e
  · rw [e, if_pos rfl, tp_clm2]
    simp only [tp_lti, tp_sm1 (show c < 2147483647 by omega), tp_m1s (show c < 2147483647 by omega), tp_ti (show p < 2147483648 by omega), Bool.not_eq_true', decide_eq_false_iff_not]
    omega
  · obtain ⟨q, q2, q1, q3⟩ := tp_xx e
    rw [q1, if_neg (fun z => (tp_m1n (show q < 2147483648 by omega)).mp z), tp_cn (by omega)]
    simp only [tp_lti, tp_ss (show c < 2147483648 by omega) (show q < 2147483648 by omega), tp_ss (show q < 2147483648 by omega) (show c < 2147483648 by omega), tp_ti (show p < 2147483648 by omega), Bool.not_eq_true', decide_eq_false_iff_not]
    omega
theorem tp_from (hr : tp_rng r) {l n : Nat} (hl : l < 8) (hn : n ≤ 60) : (if nI n < r (51 + 4 * l) - r (48 + 4 * l) then r (51 + 4 * l) - r (48 + 4 * l) else nI n) = nI (max n (tp_slo r l)) := by
  obtain ⟨p, p2, p1, p3⟩ := tp_xx (tp_rlr hr hl)
  unfold tp_slo tp_cl
  rw [p3, p1]
  rcases tp_rlc hr hl with e | e
  · rw [e, tp_clm2, if_neg (by rw [tp_lti, tp_m1s (by omega), tp_ti (by omega)]; omega)]
    congr 1
    omega
  · obtain ⟨q, q2, q1, q3⟩ := tp_xx e
    rw [q1, tp_cn (by omega)]
    by_cases c : p ≤ q
    · rw [tp_sb c]
      have el : (nI n < nI (q - p)) = (n < q - p) := tp_lt (by omega) (by omega)
      by_cases d : n < q - p
      · rw [if_pos (el.mpr d)]; congr 1; omega
      · rw [if_neg (fun z => d (el.mp z))]; congr 1; omega
    · rw [if_neg (by rw [tp_lti, tp_ss (by omega) (by omega), tp_ti (by omega)]; omega)]
      congr 1; omega
theorem tp_till (hr : tp_rng r) {l D : Nat} (hl : l < 8) (hD : D ≤ 60) : (if r (51 + 4 * l) + r (48 + 4 * l) + 1 < nI D then r (51 + 4 * l) + r (48 + 4 * l) + 1 else nI D) = nI (min D (tp_shi r l)) := by
  obtain ⟨p, p2, p1, p3⟩ := tp_xx (tp_rlr hr hl)
  have e : r (51 + 4 * l) + r (48 + 4 * l) + 1 = nI (tp_shi r l) ∧ tp_shi r l ≤ 100 := by
    unfold tp_shi tp_cl
    rw [p3, p1]
    rcases tp_rlc hr hl with e | e
    · rw [e, if_pos rfl]
      refine ⟨?_, by omega⟩
      rw [Int32.add_comm (-1) (nI p), Int32.add_assoc]
      exact Int32.add_zero _
    · obtain ⟨q, q2, q1, q3⟩ := tp_xx e
      rw [q3, q1, if_neg (fun z => (tp_m1n (show q < 2147483648 by omega)).mp z), nI_add, nI_1]
      exact ⟨rfl, by omega⟩
  rw [e.1]
  have el : (nI (tp_shi r l) < nI D) = (tp_shi r l < D) := tp_lt (by omega) (by omega)
  by_cases d : tp_shi r l < D
  · rw [if_pos (el.mpr d)]; congr 1; omega
  · rw [if_neg (fun z => d (el.mp z))]; congr 1; omega
/-- the next span, among the first l lamps -/
def tp_sc (r : tp_R) (g next D : Nat) : Nat → Nat × Nat
  | 0 => (D, D)
  | l + 1 => if tp_bn r g l = true ∧ max next (tp_slo r l) < min D (tp_shi r l) ∧ max next (tp_slo r l) < (tp_sc r g next D l).1 then (max next (tp_slo r l), min D (tp_shi r l)) else tp_sc r g next D l
def tp_out (r : tp_R) (g D n : Nat) : Nat → Nat → Nat → Nat
  | 0, cnt, _ => cnt
  | k + 1, cnt, next => tp_out r g D n k (cnt + ((tp_sc r g next D n).2 - (tp_sc r g next D n).1)) (tp_sc r g next D n).2
def tp_lv (r : tp_R) (g D next l : Nat) : Bool := tp_bn r g l && decide (max next (tp_slo r l) < min D (tp_shi r l))
theorem tp_sc_p {g next D : Nat} : ∀ l : Nat, (tp_sc r g next D l).2 ≤ D ∧ (((tp_sc r g next D l).1 = D ∧ (tp_sc r g next D l).2 = D ∧ ∀ j, j < l → tp_lv r g D next j = false) ∨ ((∃ j, j < l ∧ tp_bn r g j = true ∧ (tp_sc r g next D l).1 = max next (tp_slo r j) ∧ (tp_sc r g next D l).2 = min D (tp_shi r j)) ∧ (tp_sc r g next D l).1 < (tp_sc r g next D l).2)) ∧ (∀ j, j < l → tp_lv r g D next j = true → (tp_sc r g next D l).1 ≤ max next (tp_slo r j))
  | 0 => ⟨Nat.le_refl _, Or.inl ⟨rfl, rfl, fun _ h => absurd h (Nat.not_lt_zero _)⟩, fun _ h => absurd h (Nat.not_lt_zero _)⟩
  | l + 1 => by
    obtain ⟨i1, i2, i3⟩ := tp_sc_p (g := g) (next := next) (D := D) l
    unfold tp_sc
    by_cases c : tp_bn r g l = true ∧ max next (tp_slo r l) < min D (tp_shi r l) ∧ max next (tp_slo r l) < (tp_sc r g next D l).1
    · rw [if_pos c]
      refine ⟨Nat.min_le_left _ _, Or.inr ⟨⟨l, by omega, c.1, rfl, rfl⟩, c.2.1⟩, fun j hj hlv => ?_⟩
      show max next (tp_slo r l) ≤ _
      by_cases e : j = l
      · rw [e]; exact Nat.le_refl _
      · have := i3 j (by omega) hlv
        omega
    · rw [if_neg c]
      have nl : tp_lv r g D next l = true → (tp_sc r g next D l).1 ≤ max next (tp_slo r l) := by
        intro z
        unfold tp_lv at z
        rw [Bool.and_eq_true, decide_eq_true_iff] at z
        exact Nat.le_of_not_lt (fun w => c ⟨z.1, z.2, w⟩)
      refine ⟨i1, i2.imp (fun z => ⟨z.1, z.2.1, fun j hj => ?_⟩) (fun z => ⟨?_, z.2⟩), fun j hj hlv => ?_⟩
      · by_cases e : j = l
        · subst e
          rcases w : tp_lv r g D next j with _ | _
          · rfl
          · have w1 := nl w
            unfold tp_lv at w
            rw [Bool.and_eq_true, decide_eq_true_iff] at w
            omega
        · exact z.2.2 j (by omega)
      · obtain ⟨j, j1, j2⟩ := z.1
        exact ⟨j, by omega, j2⟩
      · by_cases e : j = l
        · subst e; exact nl hlv
        · exact i3 j (by omega) hlv
theorem tp_cnt_z {p : Nat → Bool} {x : Nat} : ∀ k : Nat, (∀ c, x ≤ c → c < x + k → p c = false) → tp_cnt p (x + k) = tp_cnt p x
  | 0, _ => rfl
  | k + 1, h => by
    show tp_cnt p (x + k) + (if p (x + k) = true then 1 else 0) = _
    rw [h (x + k) (by omega) (by omega), tp_cnt_z k (fun c h1 h2 => h c h1 (by omega))]; rfl
theorem tp_cnt_o {p : Nat → Bool} {x : Nat} : ∀ k : Nat, (∀ c, x ≤ c → c < x + k → p c = true) → tp_cnt p (x + k) = tp_cnt p x + k
  | 0, _ => rfl
  | k + 1, h => by
    show tp_cnt p (x + k) + (if p (x + k) = true then 1 else 0) = _
    rw [h (x + k) (by omega) (by omega), tp_cnt_o k (fun c h1 h2 => h c h1 (by omega)), if_pos rfl]; omega
theorem tp_cnt_m {p q : Nat → Bool} : ∀ n : Nat, (∀ j, j < n → p j = true → q j = true) → tp_cnt p n ≤ tp_cnt q n
  | 0, _ => Nat.le_refl _
  | n + 1, h => by
    have ih := tp_cnt_m n (fun j hj => h j (by omega))
    have hn := h n (by omega)
    show tp_cnt p n + (if p n = true then 1 else 0) ≤ tp_cnt q n + (if q n = true then 1 else 0)
    by_cases c : p n = true
    · rw [if_pos c, if_pos (hn c)]; omega
    · rw [if_neg c]; omega
theorem tp_cnt_lt {p q : Nat → Bool} : ∀ (n j : Nat), j < n → (∀ j, j < n → p j = true → q j = true) → q j = true → p j = false → tp_cnt p n < tp_cnt q n
  | 0, _, h, _, _, _ => absurd h (Nat.not_lt_zero _)
  | n + 1, j, hj, h, h1, h2 => by
    show tp_cnt p n + (if p n = true then 1 else 0) < tp_cnt q n + (if q n = true then 1 else 0)
    by_cases e : j = n
    · subst e
      have := tp_cnt_m j (fun j hj => h j (by omega))
      rw [h1, h2]
      show tp_cnt p j + 0 < tp_cnt q j + 1
      omega
    · have ih := tp_cnt_lt n j (by omega) (fun j hj => h j (by omega)) h1 h2
      have hn := h n (by omega)
      by_cases c : p n = true
      · rw [if_pos c, if_pos (hn c)]; omega
      · rw [if_neg c]; omega
theorem tp_out_p (hr : tp_rng r) {g D n : Nat} (hn : tp_cl (r 2) = n) (hD : D ≤ 60) : ∀ (k next : Nat), next ≤ D → tp_cnt (tp_lv r g D next) n ≤ k → tp_out r g D n k (tp_cnt (fun c => tp_lit r (nI g) (nI c)) next) next = tp_cnt (fun c => tp_lit r (nI g) (nI c)) D := by
  have hn8 : n ≤ 8 := hn ▸ (tp_r2 hr).2
  have hlit : ∀ c, c < D → (tp_lit r (nI g) (nI c) = true ↔ ∃ j, j < n ∧ tp_bn r g j = true ∧ tp_slo r j ≤ c ∧ c < tp_shi r j) := by
    intro c hc
    unfold tp_lit
    rw [hn]
    constructor
    · intro z
      rcases w : tp_any (tp_ltl r (nI g) (nI c)) n with _ | _
      · rw [w] at z; cases z
      · by_cases y : ∃ j, j < n ∧ tp_ltl r (nI g) (nI c) j = true
        · obtain ⟨j, j1, j2⟩ := y
          exact ⟨j, j1, (tp_ltl_s hr (by omega) (by omega)).mp j2⟩
        · have := (tp_any_f (p := tp_ltl r (nI g) (nI c)) (n := n)).mpr (fun k hk => by
            rcases v : tp_ltl r (nI g) (nI c) k with _ | _
            · rfl
            · exact absurd ⟨k, hk, v⟩ y)
          rw [this] at w; cases w
    · rintro ⟨j, j1, j2⟩
      exact tp_any_t j1 ((tp_ltl_s hr (by omega) (by omega)).mpr j2)
  have dark : ∀ next E, next ≤ E → E ≤ D → (∀ j, j < n → tp_lv r g D next j = true → E ≤ max next (tp_slo r j)) → tp_cnt (fun c => tp_lit r (nI g) (nI c)) E = tp_cnt (fun c => tp_lit r (nI g) (nI c)) next := by
    intro next E h1 h2 h3
    have := tp_cnt_z (p := fun c => tp_lit r (nI g) (nI c)) (x := next) (E - next) (fun c c1 c2 => by
      rcases w : tp_lit r (nI g) (nI c) with _ | _
      · rfl
      · obtain ⟨j, j1, j2, j3, j4⟩ := (hlit c (by omega)).mp w
        have lv : tp_lv r g D next j = true := by
          unfold tp_lv
          rw [Bool.and_eq_true, decide_eq_true_iff]
          exact ⟨j2, by omega⟩
        have := h3 j j1 lv
        omega)
    rw [show next + (E - next) = E by omega] at this
    exact this
  intro k
  induction k with
  | zero =>
    intro next h1 h2
    have h0 := (tp_cnt0 (p := tp_lv r g D next) n).mp (by omega)
    rw [tp_any_f] at h0
    show tp_cnt _ next = tp_cnt _ D
    exact (dark next D h1 (Nat.le_refl _) (fun j hj z => by rw [h0 j hj] at z; cases z)).symm
  | succ k ih =>
    intro next h1 h2
    obtain ⟨p1, p2, p3⟩ := tp_sc_p (r := r) (g := g) (next := next) (D := D) n
    show tp_out r g D n k (tp_cnt _ next + ((tp_sc r g next D n).2 - (tp_sc r g next D n).1)) (tp_sc r g next D n).2 = _
    generalize tp_sc r g next D n = S at p1 p2 p3
    obtain ⟨s, e⟩ := S
    rcases p2 with ⟨s1, e1, nl⟩ | ⟨⟨j, j1, j2, j3, j4⟩, j5⟩
    · have s1 : s = D := s1
      have e1 : e = D := e1
      subst s1
      subst e1
      have d := dark next e h1 (Nat.le_refl _) (fun j hj z => by rw [nl j hj] at z; cases z)
      have := ih e (Nat.le_refl _) (by
        have : tp_cnt (tp_lv r g e e) n = 0 := (tp_cnt0 (p := tp_lv r g e e) n).mpr (tp_any_f.mpr (fun k hk => by
          unfold tp_lv
          rw [decide_eq_false (by omega), Bool.and_false]))
        omega)
      rw [d] at this
      show tp_out r g e n k (tp_cnt _ next + (e - e)) e = _
      rw [Nat.sub_self, Nat.add_zero, d]
      exact this
    · have j3 : s = max next (tp_slo r j) := j3
      have j4 : e = min D (tp_shi r j) := j4
      have j5 : s < e := j5
      have p1 : e ≤ D := p1
      have d := dark next s (by omega) (by omega) (fun i hi z => p3 i hi z)
      have l := tp_cnt_o (p := fun c => tp_lit r (nI g) (nI c)) (x := s) (e - s) (fun c c1 c2 => (hlit c (by omega)).mpr ⟨j, j1, j2, by omega, by omega⟩)
      rw [show s + (e - s) = e by omega] at l
      have := ih e p1 (by
        have := tp_cnt_lt (p := tp_lv r g D e) (q := tp_lv r g D next) n j j1 (fun i hi z => by
          unfold tp_lv at z ⊢
          rw [Bool.and_eq_true, decide_eq_true_iff] at z ⊢
          exact ⟨z.1, by omega⟩) (by
          unfold tp_lv
          rw [Bool.and_eq_true, decide_eq_true_iff]
          exact ⟨j2, by omega⟩) (by
          unfold tp_lv
          rw [decide_eq_false (by omega), Bool.and_false])
        omega)
      rw [l, d] at this
      exact this
theorem tc_span_l (h : tp_P u0 a r u) (hr : tp_rng r) {g D n : Nat} (hn : tp_cl (r 2) = n) (hD : D ≤ 60) : ∀ (k f cnt next rd : Nat) (x7 x8 x9 : Int32), rd + k = n → next ≤ D → cnt + k * 60 ≤ 1000 → k * (n + 2) < f →
    f5_litBySpans_pN f 0 a (nI g) (nI D) (nI cnt) (nI next) (nI rd) x7 x8 x9 u = some (nI (tp_out r g D n k cnt next), u) := by
  have hn8 : n ≤ 8 := hn ▸ (tp_r2 hr).2
  have e2 : u.1 a 6 = nI n := by rw [tq_g2 h, (tp_r2 hr).1, hn]
  intro k
  induction k with
  | zero =>
    intro f cnt next rd x7 x8 x9 h1 h2 h3 h4
    obtain ⟨f', rfl⟩ : ∃ f', f = f' + 1 := ⟨f - 1, by omega⟩
    unfold f5_litBySpans_pN
    have el : (nI n ≤ nI rd) = (n ≤ rd) := tp_le (by omega) (by omega)
    rw [if_pos rfl, e2, if_pos (el.mpr (by omega))]; rfl
  | succ k ih =>
    intro f cnt next rd x7 x8 x9 h1 h2 h3 h4
    have hmul : (k + 1) * (n + 2) = k * (n + 2) + (n + 2) := Nat.succ_mul k (n + 2)
    obtain ⟨f', rfl⟩ : ∃ f', f = f' + 1 := ⟨f - 1, by omega⟩
    unfold f5_litBySpans_pN
    have el : (nI n ≤ nI rd) = (n ≤ rd) := tp_le (by omega) (by omega)
    rw [if_pos rfl, e2, if_neg (fun z => by have := el.mp z; omega)]
    have inner : ∀ (m fi l : Nat), l + m = n → m + k * (n + 2) + 1 < fi → f5_litBySpans_pN fi 1 a (nI g) (nI D) (nI cnt) (nI next) (nI rd) (nI (tp_sc r g next D l).1) (nI (tp_sc r g next D l).2) (nI l) u = some (nI (tp_out r g D n (k + 1) cnt next), u) := by
      intro m
      induction m with
      | zero =>
        intro fi l h5 h6
        obtain ⟨f2, rfl⟩ : ∃ f2, fi = f2 + 1 := ⟨fi - 1, by omega⟩
        have hl : l = n := by omega
        subst hl
        unfold f5_litBySpans_pN
        have el2 : (nI l ≤ nI l) = (l ≤ l) := tp_le (by omega) (by omega)
        rw [if_neg (by decide), e2, if_pos (el2.mpr (Nat.le_refl _)), tp_L, tp_L, nI_1]
        obtain ⟨p1, p2, p3⟩ := tp_sc_p (r := r) (g := g) (next := next) (D := D) l
        have hle : (tp_sc r g next D l).1 ≤ (tp_sc r g next D l).2 := by rcases p2 with z | z <;> omega
        rw [tp_sb hle, nI_add]
        exact ih f2 _ _ (rd + 1) _ _ _ (by omega) p1 (by omega) (by omega)
      | succ m ihm =>
        intro fi l h5 h6
        obtain ⟨f2, rfl⟩ : ∃ f2, fi = f2 + 1 := ⟨fi - 1, by omega⟩
        have hl8 : l < 8 := by omega
        unfold f5_litBySpans_pN
        have el2 : (nI n ≤ nI l) = (n ≤ l) := tp_le (by omega) (by omega)
        rw [if_neg (by decide), e2, if_neg (fun z => by have := el2.mp z; omega), tl_gs (tp_ix hl8 (by omega)), tl_gs (tp_ix hl8 (by omega)), tp_cn (by omega), tq_gL3 h hl8, tq_gL0 h hl8, tp_from hr hl8 (by omega), tp_L, tl_gs (tp_ixn hl8 (by omega)), tl_gs (tp_ixn hl8 (by omega)), tp_till hr hl8 hD, tp_L, tl_gs (tp_ixn hl8 (by omega)), tc_burnsIn h hl8, tp_b2S, tp_if0]
        have nx := ihm f2 (l + 1) (by omega) (by omega)
        rw [← nI_1] at nx
        unfold tp_sc at nx
        obtain ⟨p1, p2, p3⟩ := tp_sc_p (r := r) (g := g) (next := next) (D := D) l
        have hle : (tp_sc r g next D l).1 ≤ (tp_sc r g next D l).2 := by rcases p2 with z | z <;> omega
        have eb : (decide (r (50 + 4 * l) = nI g) && !decide (r (49 + 4 * l) ≤ 0)) = tp_bn r g l := rfl
        rw [eb]
        have elt : (nI (min D (tp_shi r l)) ≤ nI (max next (tp_slo r l))) = (min D (tp_shi r l) ≤ max next (tp_slo r l)) := tp_le (by omega) (by have := (tp_rlc hr hl8); unfold tp_slo; rcases this with z | z <;> (try rw [z, tp_clm1]) <;> omega)
        have elu : (nI (tp_sc r g next D l).1 ≤ nI (max next (tp_slo r l))) = ((tp_sc r g next D l).1 ≤ max next (tp_slo r l)) := tp_le (by omega) (by have := (tp_rlc hr hl8); unfold tp_slo; rcases this with z | z <;> (try rw [z, tp_clm1]) <;> omega)
        rcases w : tp_bn r g l with _ | _
        · rw [if_neg (by decide), tp_L]
          rw [if_neg (fun z => by rw [w] at z; cases z.1)] at nx
          exact nx
        · rw [if_pos rfl]
          by_cases c : min D (tp_shi r l) ≤ max next (tp_slo r l)
          · rw [if_pos (elt.mpr c), tp_L]
            rw [if_neg (fun z => by omega)] at nx
            exact nx
          · rw [if_neg (fun z => c (elt.mp z))]
            by_cases d : (tp_sc r g next D l).1 ≤ max next (tp_slo r l)
            · rw [if_pos (elu.mpr d), tp_L]
              rw [if_neg (fun z => by omega)] at nx
              exact nx
            · rw [if_neg (fun z => d (elu.mp z)), tp_L]
              rw [if_pos ⟨w, by omega, by omega⟩] at nx
              exact nx
    exact inner n f' 0 (by omega) (by omega)
theorem tc_spans (h : tp_P u0 a r u) (hr : tp_rng r) {g : Nat} (hg : g < tp_cl (r 0)) : f5_litBySpans a (nI g) u = some (nI (tp_litn r g), u) := by
  have hg3 : g < 3 := by have := (tp_r0 hr).2; omega
  obtain ⟨d, d2, d1, d3⟩ := tp_xx (tp_rga hr hg3)
  have b2 := (tp_r2 hr).2
  unfold f5_litBySpans
  rw [tc_hasGallery h, tp_b2S, tp_if0, (tp_ig_N hr).mpr ⟨g, hg, rfl⟩, if_pos rfl, tl_gs (tp_ix hg3 (by omega)), tp_L, tp_cn (by omega), tq_gG0 h hg3, d1]
  have hm : tp_cl (r 2) * (tp_cl (r 2) + 2) ≤ 8 * 10 := Nat.mul_le_mul b2 (by omega)
  have L := tc_span_l (g := g) (D := d) h hr rfl d2 (tp_cl (r 2)) tl_F 0 0 0 0 0 0 (by omega) (by omega) (by omega) (by unfold tl_F; omega)
  refine Eq.trans L ?_
  have O := tp_out_p (g := g) hr rfl d2 (tp_cl (r 2)) 0 (Nat.zero_le _) (tp_cnt_le _)
  have hcl : tp_cl (r (18 + 2 * g)) = d := d3
  unfold tp_litn
  rw [hcl, ← O]; rfl
end TPV
