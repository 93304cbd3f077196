/-! The reference's reading of a text: commands. -/
section TPC
variable {u : tl_S} {m c : Nat} {o t : tp_R} {tx : tp_R} {len : Nat}
theorem ts_canMiner (hmc : m ≠ c) (h : tp_rng t) {g : Int32} : f10_canMiner c g (tp_w (tp_w u c t) m o) = some (tp_b01 (tp_ig t g && !decide (6 ≤ t 1)), tp_w (tp_w u c t) m o) := by
  rw [tp_wc hmc, tr_canMiner h]
theorem ts_canLamp (hmc : m ≠ c) (h : tp_rng t) {g q : Int32} : f10_canLamp c g q (tp_w (tp_w u c t) m o) = some (tp_b01 (tp_ic t g q && !decide (8 ≤ t 2)), tp_w (tp_w u c t) m o) := by
  rw [tp_wc hmc, tr_canLamp h]
theorem ts_canHang (hmc : m ≠ c) (h : tp_rng t) {l g q : Int32} : f10_canHang c l g q (tp_w (tp_w u c t) m o) = some (tp_b01 (tp_il t l && tp_ic t g q && !decide (6 ≤ t 8)), tp_w (tp_w u c t) m o) := by
  rw [tp_wc hmc, tr_canHang h]
theorem ts_canFill (hmc : m ≠ c) (h : tp_rng t) {l n : Int32} : f10_canFill c l n (tp_w (tp_w u c t) m o) = some (tp_b01 (tp_il t l && tp_iw n 1 99 && !decide (6 ≤ t 8)), tp_w (tp_w u c t) m o) := by
  rw [tp_wc hmc, tr_canFill h]
theorem ts_galleryOn (hmc : m ≠ c) (h : tp_rng t) (h3 : tp_cl (t 0) < 3) {d : Int32} : f10_galleryOn c d (tp_w (tp_w u c t) m o) = some (t 0, tp_w (tp_w u c (tp_ga d t)) m o) := by
  rw [tp_wc hmc, tr_galleryOn h h3, tp_wc hmc]
theorem ts_minerOn (hmc : m ≠ c) (h : tp_rng t) (h6 : tp_cl (t 1) < 6) {g p : Int32} : f10_minerOn c g p (tp_w (tp_w u c t) m o) = some (t 1, tp_w (tp_w u c (tp_mi g p t)) m o) := by
  rw [tp_wc hmc, tr_minerOn h h6, tp_wc hmc]
theorem ts_lampOn (hmc : m ≠ c) (h : tp_rng t) (h8 : tp_cl (t 2) < 8) {g q e d : Int32} : f10_lampOn c g q e d (tp_w (tp_w u c t) m o) = some (t 2, tp_w (tp_w u c (tp_la g q e d t)) m o) := by
  rw [tp_wc hmc, tr_lampOn h h8, tp_wc hmc]
theorem ts_orderOn (hmc : m ≠ c) (h : tp_rng t) (ho : tp_cl (t 8) < 6) {k l w q : Int32} : f10_orderOn c k l w q (tp_w (tp_w u c t) m o) = some (t 8 + 1, tp_w (tp_w u c (tp_oo t k l w q)) m o) := by
  rw [tp_wc hmc, tr_orderOn h ho, tp_wc hmc]
theorem ts_storeOn (hmc : m ≠ c)  {n : Int32} : f10_storeOn c n (tp_w (tp_w u c t) m o) = some (t 4 + n, tp_w (tp_w u c (tp_so n t)) m o) := by
  rw [tp_wc hmc, tr_storeOn , tp_wc hmc]
theorem ts_hours (hmc : m ≠ c) (h : tp_Ok t) {n : Nat} (hn : n ≤ 1000) : f10_hoursOn c (nI n) (tp_w (tp_w u c t) m o) = some (tp_hrs n t 10 - t 10, tp_w (tp_w u c (tp_hrs n t)) m o) := by
  rw [tp_wc hmc, tr_hours h hn, tp_wc hmc]

theorem tr_done0 {v : tl_S} : f10_done m 0 (tp_w v m o) = some (1, tp_w v m (tp_up o 10 (o 10 + 1))) := by
  unfold f10_done
  rw [if_pos rfl]
  simp only [tp_L, tp_wu1, tp_w2, tp_wp, tp_wg]
theorem tr_done1 {v : tl_S} : f10_done m 1 (tp_w v m o) = some (1, tp_w v m (tp_up o 10 (o 10))) := by
  unfold f10_done
  rw [if_neg (by decide)]
  simp only [tp_L, tp_wu1, tp_w2, tp_wp, tp_wg, Int32.add_zero]
theorem tp_do_T {q : Nat} {a b d e : Int32} {r : tp_R} {x : Int32} (h : tp_rf q a b d e r = 0) : tp_do q a b d e r x = (tp_pf q a b d e r, x) := by unfold tp_do; rw [if_pos h]
theorem tp_do_F {q : Nat} {a b d e : Int32} {r : tp_R} {x : Int32} (h : ¬ tp_rf q a b d e r = 0) : tp_do q a b d e r x = (r, x + 1) := by unfold tp_do; rw [if_neg h]
theorem tp_iwN {n L B : Nat} {l h : Int32} (hl : l = nI L) (hh : h = nI B) (h1 : L ≤ n) (h2 : n ≤ B) (hB : B < 2147483648) : tp_iw (nI n) l h = true := by
  subst hl hh
  unfold tp_iw
  simp (disch := omega) only [tp_lt]
  simp; omega
theorem tp_pos_nn {r : tp_R} {i b : Nat} (h : r i = nI (tp_cl (r i)) ∧ tp_cl (r i) ≤ b) (hb : b < 2147483648) : ¬ r i < 0 := by
  rw [h.1, tp_neg (by omega)]; exact id
theorem tr_vo_m1 {n : Nat} (h : n ≤ 1000) : ¬ tp_vo (some n) = -1 := fun z => (tp_m1n (by omega)).mp z
section TPC2
theorem tr_gs {x : Option Nat} {p : Nat} (hlen : len ≤ 120) (ht : ∀ i, i < len → u.1 (m + 1) i = tx i ∧ tp_N 255 (tx i)) (h2 : o 2 = nI len) (hx : ∀ n, x = some n → n ≤ 1000) (hp : p ≤ len) : f10_gallerySign m (tp_vo x) (tp_w u m (tp_up o 9 (nI p))) = some (tp_vo (tp_sq tx len x 1 0 2 p).1, tp_w u m (tp_up o 9 (nI (tp_sq tx len x 1 0 2 p).2))) := by
  unfold f10_gallerySign
  rw [tr_fig hlen ht h2 (lo := 0) (hi := 2) (w := 1) (W := 1) (LO := 0) (HI := 2) rfl rfl rfl (by omega) (by omega) (by omega) hx hp, tp_b2S]
theorem tr_cs {x : Option Nat} {p : Nat} (hlen : len ≤ 120) (ht : ∀ i, i < len → u.1 (m + 1) i = tx i ∧ tp_N 255 (tx i)) (h2 : o 2 = nI len) (hx : ∀ n, x = some n → n ≤ 1000) (hp : p ≤ len) : f10_cellSign m (tp_vo x) (tp_w u m (tp_up o 9 (nI p))) = some (tp_vo (tp_sq tx len x 2 0 59 p).1, tp_w u m (tp_up o 9 (nI (tp_sq tx len x 2 0 59 p).2))) := by
  unfold f10_cellSign
  rw [tr_fig hlen ht h2 (lo := 0) (hi := 59) (w := 2) (W := 2) (LO := 0) (HI := 59) rfl rfl rfl (by omega) (by omega) (by omega) hx hp, tp_b2S]
theorem tr_ls {x : Option Nat} {p : Nat} (hlen : len ≤ 120) (ht : ∀ i, i < len → u.1 (m + 1) i = tx i ∧ tp_N 255 (tx i)) (h2 : o 2 = nI len) (hx : ∀ n, x = some n → n ≤ 1000) (hp : p ≤ len) : f10_lampSign m (tp_vo x) (tp_w u m (tp_up o 9 (nI p))) = some (tp_vo (tp_sq tx len x 1 0 7 p).1, tp_w u m (tp_up o 9 (nI (tp_sq tx len x 1 0 7 p).2))) := by
  unfold f10_lampSign
  rw [tr_fig hlen ht h2 (lo := 0) (hi := 7) (w := 1) (W := 1) (LO := 0) (HI := 7) rfl rfl rfl (by omega) (by omega) (by omega) hx hp, tp_b2S]
end TPC2
theorem tp_vo0 : tp_vo (some 0) = 0 := rfl
theorem tp_vos (n : Nat) : tp_vo (some n) = nI n := rfl
theorem tp_sq_b {x : Option Nat} {w lo hi p : Nat} (hw : w ≠ 0) (hh : hi ≤ 1000) : ∀ n, (tp_sq tx len x w lo hi p).1 = some n → n ≤ 1000 := fun n h => Nat.le_trans (tp_sq_r hw h).2.1 hh
/-- what a read command does to the two rows -/
def tp_rs (u : tl_S) (m c : Nat) (o t : tp_R) (K : Bool × Nat × Int32 × Int32 × Int32 × Int32 × Nat) : Option (Int32 × tl_S) :=
  if K.1 then (fun D : tp_R × Int32 => some (1, tp_w (tp_w u c D.1) m (tp_up (tp_up o 9 (nI K.2.2.2.2.2.2)) 10 D.2))) (tp_do K.2.1 K.2.2.1 K.2.2.2.1 K.2.2.2.2.1 K.2.2.2.2.2.1 t (o 10))
  else some (0, tp_w (tp_w u c t) m (tp_up o 9 (nI K.2.2.2.2.2.2)))
theorem tp_rs_T {q p : Nat} {a b d e : Int32} (h : tp_rf q a b d e t = 0) : tp_rs u m c o t (true, q, a, b, d, e, p) = some (1, tp_w (tp_w u c (tp_pf q a b d e t)) m (tp_up (tp_up o 9 (nI p)) 10 (o 10))) := by
  unfold tp_rs
  rw [if_pos rfl, tp_do_T h]
theorem tp_rs_N {q p : Nat} {a b d e : Int32} (h : ¬ tp_rf q a b d e t = 0) : tp_rs u m c o t (true, q, a, b, d, e, p) = some (1, tp_w (tp_w u c t) m (tp_up (tp_up o 9 (nI p)) 10 (o 10 + 1))) := by
  unfold tp_rs
  rw [if_pos rfl, tp_do_F h]
theorem tp_rs_F {q p : Nat} {a b d e : Int32} : tp_rs u m c o t (false, q, a, b, d, e, p) = some (0, tp_w (tp_w u c t) m (tp_up o 9 (nI p))) := rfl
theorem tp_u9_10 {x : Int32} : tp_up o 9 x 10 = o 10 := tp_un (by decide)
end TPC
