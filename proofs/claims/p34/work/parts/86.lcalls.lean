/-! The law's one call, by its number. -/
theorem tz_b2i (o : Option (Int32 × tz_U)) : tl_b2 o (fun x u => some (x, u)) = o := by
  rcases o with _ | ⟨x, u⟩ <;> rfl
theorem tz_k {α β : Type} (f : α) (g : α → β) : tl_k f g = g f := rfl
theorem tz_o0 {a : Nat} {x : Int32} {U : tz_U} : tz_o a (0, x, U a) U = some (x, U) := by
  unfold tz_o
  show some (tz_an 0 x, tz_set U a (U a)) = _
  rw [tz_set_i]; rfl
theorem tz_ot {a t : Nat} {x : Int32} {U : tz_U} : tz_o a (t, x, U a) U = some (tz_an t x, U) := by
  unfold tz_o
  show some (tz_an t x, tz_set U a (U a)) = _
  rw [tz_set_i]
section TZK
variable {a : Nat} {U : tz_U} {x y z : Int32}
theorem gc_0 : fL_call a 0 x y z U = fL_tryAppend a x U := by
  unfold fL_call
  rw [if_neg (by decide), if_pos (by decide), tz_b2i]
theorem gc_2 : fL_call a 2 x y z U = fL_tryAbout a x U := by
  unfold fL_call
  rw [if_neg (by decide), if_neg (by decide), if_neg (by decide), if_pos (by decide), tz_b2i]
theorem gc_3 : fL_call a 3 x y z U = fL_tryTold a x y U := by
  unfold fL_call
  rw [if_neg (by decide), if_neg (by decide), if_neg (by decide), if_neg (by decide), if_pos (by decide), tz_b2i]
theorem gc_4 : fL_call a 4 x y z U = fL_tryWorker a x y U := by
  unfold fL_call
  rw [if_neg (by decide), if_neg (by decide), if_neg (by decide), if_neg (by decide), if_neg (by decide), if_pos (by decide), tz_b2i]
theorem gc_5 : fL_call a 5 x y z U = fL_tryGlow a x y U := by
  unfold fL_call
  rw [if_neg (by decide), if_neg (by decide), if_neg (by decide), if_neg (by decide), if_neg (by decide), if_neg (by decide), if_pos (by decide), tz_b2i]
theorem gc_6 : fL_call a 6 x y z U = fL_tryLad a x U := by
  unfold fL_call
  rw [if_neg (by decide), if_neg (by decide), if_neg (by decide), if_neg (by decide), if_neg (by decide), if_neg (by decide), if_neg (by decide), if_pos (by decide), tz_b2i]
theorem gc_7 : fL_call a 7 x y z U = fL_tryOrder a x y U := by
  unfold fL_call
  rw [if_neg (by decide), if_neg (by decide), if_neg (by decide), if_neg (by decide), if_neg (by decide), if_neg (by decide), if_neg (by decide), if_neg (by decide), if_pos (by decide), tz_b2i]
theorem gc_8 : fL_call a 8 x y z U = fL_tryLit a x y U := by
  unfold fL_call
  rw [if_neg (by decide), if_neg (by decide), if_neg (by decide), if_neg (by decide), if_neg (by decide), if_neg (by decide), if_neg (by decide), if_neg (by decide), if_neg (by decide), if_pos (by decide), tz_b2i]
theorem gc_9 : fL_call a 9 x y z U = fL_tryGallery a x U := by
  unfold fL_call
  rw [if_neg (by decide), if_neg (by decide), if_neg (by decide), if_neg (by decide), if_neg (by decide), if_neg (by decide), if_neg (by decide), if_neg (by decide), if_neg (by decide), if_neg (by decide), if_pos (by decide), tz_b2i]
theorem gc_10 : fL_call a 10 x y z U = fL_tryMiner a x y U := by
  unfold fL_call
  rw [if_neg (by decide), if_neg (by decide), if_neg (by decide), if_neg (by decide), if_neg (by decide), if_neg (by decide), if_neg (by decide), if_neg (by decide), if_neg (by decide), if_neg (by decide), if_neg (by decide), if_pos (by decide), tz_b2i]
theorem gc_11 : fL_call a 11 x y z U = fL_trySend a x y U := by
  unfold fL_call
  rw [if_neg (by decide), if_neg (by decide), if_neg (by decide), if_neg (by decide), if_neg (by decide), if_neg (by decide), if_neg (by decide), if_neg (by decide), if_neg (by decide), if_neg (by decide), if_neg (by decide), if_neg (by decide), if_pos (by decide), tz_b2i]
theorem gc_12 : fL_call a 12 x y z U = fL_tryStore a x U := by
  unfold fL_call
  rw [if_neg (by decide), if_neg (by decide), if_neg (by decide), if_neg (by decide), if_neg (by decide), if_neg (by decide), if_neg (by decide), if_neg (by decide), if_neg (by decide), if_neg (by decide), if_neg (by decide), if_neg (by decide), if_neg (by decide), if_pos (by decide), tz_b2i]
theorem gc_13 : fL_call a 13 x y z U = fL_tryHang a x y z U := by
  unfold fL_call
  rw [if_neg (by decide), if_neg (by decide), if_neg (by decide), if_neg (by decide), if_neg (by decide), if_neg (by decide), if_neg (by decide), if_neg (by decide), if_neg (by decide), if_neg (by decide), if_neg (by decide), if_neg (by decide), if_neg (by decide), if_neg (by decide), if_pos (by decide), tz_b2i]
theorem gc_14 : fL_call a 14 x y z U = fL_tryFill a x y U := by
  unfold fL_call
  rw [if_neg (by decide), if_neg (by decide), if_neg (by decide), if_neg (by decide), if_neg (by decide), if_neg (by decide), if_neg (by decide), if_neg (by decide), if_neg (by decide), if_neg (by decide), if_neg (by decide), if_neg (by decide), if_neg (by decide), if_neg (by decide), if_neg (by decide), if_pos (by decide), tz_b2i]
theorem gc_15 : fL_call a 15 x y z U = fL_tryDrop a x U := by
  unfold fL_call
  rw [if_neg (by decide), if_neg (by decide), if_neg (by decide), if_neg (by decide), if_neg (by decide), if_neg (by decide), if_neg (by decide), if_neg (by decide), if_neg (by decide), if_neg (by decide), if_neg (by decide), if_neg (by decide), if_neg (by decide), if_neg (by decide), if_neg (by decide), if_neg (by decide), if_pos (by decide), tz_b2i]
theorem gc_16 : fL_call a 16 x y z U = fL_tryLay a x y U := by
  unfold fL_call
  rw [if_neg (by decide), if_neg (by decide), if_neg (by decide), if_neg (by decide), if_neg (by decide), if_neg (by decide), if_neg (by decide), if_neg (by decide), if_neg (by decide), if_neg (by decide), if_neg (by decide), if_neg (by decide), if_neg (by decide), if_neg (by decide), if_neg (by decide), if_neg (by decide), if_neg (by decide), if_pos (by decide), tz_b2i]
theorem gc_17 : fL_call a 17 x y z U = fL_tryHours a x U := by
  unfold fL_call
  rw [if_neg (by decide), if_neg (by decide), if_neg (by decide), if_neg (by decide), if_neg (by decide), if_neg (by decide), if_neg (by decide), if_neg (by decide), if_neg (by decide), if_neg (by decide), if_neg (by decide), if_neg (by decide), if_neg (by decide), if_neg (by decide), if_neg (by decide), if_neg (by decide), if_neg (by decide), if_neg (by decide), if_pos (by decide), tz_b2i]
theorem gc_18 : fL_call a 18 x y z U = fL_tryUndo a U := by
  unfold fL_call
  rw [if_neg (by decide), if_neg (by decide), if_neg (by decide), if_neg (by decide), if_neg (by decide), if_neg (by decide), if_neg (by decide), if_neg (by decide), if_neg (by decide), if_neg (by decide), if_neg (by decide), if_neg (by decide), if_neg (by decide), if_neg (by decide), if_neg (by decide), if_neg (by decide), if_neg (by decide), if_neg (by decide), if_neg (by decide), if_pos (by decide), tz_b2i]
theorem gc_19 : fL_call a 19 x y z U = fL_tryDark a x U := by
  unfold fL_call
  rw [if_neg (by decide), if_neg (by decide), if_neg (by decide), if_neg (by decide), if_neg (by decide), if_neg (by decide), if_neg (by decide), if_neg (by decide), if_neg (by decide), if_neg (by decide), if_neg (by decide), if_neg (by decide), if_neg (by decide), if_neg (by decide), if_neg (by decide), if_neg (by decide), if_neg (by decide), if_neg (by decide), if_neg (by decide), if_neg (by decide), if_pos (by decide), tz_b2i]
theorem gc_20 : fL_call a 20 x y z U = fL_tryDeep a x y U := by
  unfold fL_call
  rw [if_neg (by decide), if_neg (by decide), if_neg (by decide), if_neg (by decide), if_neg (by decide), if_neg (by decide), if_neg (by decide), if_neg (by decide), if_neg (by decide), if_neg (by decide), if_neg (by decide), if_neg (by decide), if_neg (by decide), if_neg (by decide), if_neg (by decide), if_neg (by decide), if_neg (by decide), if_neg (by decide), if_neg (by decide), if_neg (by decide), if_neg (by decide), if_pos (by decide), tz_b2i]
theorem gc_21 : fL_call a 21 x y z U = fL_tryBest a x y z U := by
  unfold fL_call
  rw [if_neg (by decide), if_neg (by decide), if_neg (by decide), if_neg (by decide), if_neg (by decide), if_neg (by decide), if_neg (by decide), if_neg (by decide), if_neg (by decide), if_neg (by decide), if_neg (by decide), if_neg (by decide), if_neg (by decide), if_neg (by decide), if_neg (by decide), if_neg (by decide), if_neg (by decide), if_neg (by decide), if_neg (by decide), if_neg (by decide), if_neg (by decide), if_neg (by decide), if_pos (by decide), tz_b2i]
theorem gc_22 : fL_call a 22 x y z U = fL_tryKeep a x U := by
  unfold fL_call
  rw [if_neg (by decide), if_neg (by decide), if_neg (by decide), if_neg (by decide), if_neg (by decide), if_neg (by decide), if_neg (by decide), if_neg (by decide), if_neg (by decide), if_neg (by decide), if_neg (by decide), if_neg (by decide), if_neg (by decide), if_neg (by decide), if_neg (by decide), if_neg (by decide), if_neg (by decide), if_neg (by decide), if_neg (by decide), if_neg (by decide), if_neg (by decide), if_neg (by decide), if_neg (by decide), tz_b2i]
theorem gc_23 : fL_call a 23 x y z U = fL_tryBack a x U := by
  unfold fL_call
  rw [if_pos (by decide), tz_b2i]
theorem gA_0 : fL_call a 2 0 y z U = some ((U a).1 0, U) := by
  rw [gc_2]
  unfold fL_tryAbout tz_about
  rw [if_pos (by decide), tz_o0]; rfl
theorem gA_1 : fL_call a 2 1 y z U = some ((U a).1 1, U) := by
  rw [gc_2]
  unfold fL_tryAbout tz_about
  rw [if_pos (by decide), tz_o0]; rfl
theorem gA_2 : fL_call a 2 2 y z U = some ((U a).1 2, U) := by
  rw [gc_2]
  unfold fL_tryAbout tz_about
  rw [if_pos (by decide), tz_o0]; rfl
theorem gA_3 : fL_call a 2 3 y z U = some ((U a).1 3, U) := by
  rw [gc_2]
  unfold fL_tryAbout tz_about
  rw [if_pos (by decide), tz_o0]; rfl
theorem gA_4 : fL_call a 2 4 y z U = some ((U a).1 4, U) := by
  rw [gc_2]
  unfold fL_tryAbout tz_about
  rw [if_pos (by decide), tz_o0]; rfl
theorem gA_5 : fL_call a 2 5 y z U = some (tp_oil (U a).1 (tp_cl ((U a).1 2)), U) := by
  rw [gc_2]
  unfold fL_tryAbout tz_about
  rw [if_pos (by decide), tz_o0]; rfl
theorem gA_6 : fL_call a 2 6 y z U = some ((U a).1 14, U) := by
  rw [gc_2]
  unfold fL_tryAbout tz_about
  rw [if_pos (by decide), tz_o0]; rfl
theorem gA_7 : fL_call a 2 7 y z U = some ((U a).1 5, U) := by
  rw [gc_2]
  unfold fL_tryAbout tz_about
  rw [if_pos (by decide), tz_o0]; rfl
theorem gA_8 : fL_call a 2 8 y z U = some ((U a).1 6, U) := by
  rw [gc_2]
  unfold fL_tryAbout tz_about
  rw [if_pos (by decide), tz_o0]; rfl
theorem gA_9 : fL_call a 2 9 y z U = some ((U a).1 7, U) := by
  rw [gc_2]
  unfold fL_tryAbout tz_about
  rw [if_pos (by decide), tz_o0]; rfl
theorem gA_10 : fL_call a 2 10 y z U = some ((U a).1 8, U) := by
  rw [gc_2]
  unfold fL_tryAbout tz_about
  rw [if_pos (by decide), tz_o0]; rfl
theorem gA_11 : fL_call a 2 11 y z U = some ((U a).1 9, U) := by
  rw [gc_2]
  unfold fL_tryAbout tz_about
  rw [if_pos (by decide), tz_o0]; rfl
theorem gA_12 : fL_call a 2 12 y z U = some ((U a).1 10, U) := by
  rw [gc_2]
  unfold fL_tryAbout tz_about
  rw [if_pos (by decide), tz_o0]; rfl
theorem gD_0 : fL_call a 6 0 y z U = some ((U a).1 11, U) := by
  rw [gc_6]
  unfold fL_tryLad tz_lad
  rw [if_pos (by decide), tz_o0]; rfl
theorem gD_1 : fL_call a 6 1 y z U = some ((U a).1 12, U) := by
  rw [gc_6]
  unfold fL_tryLad tz_lad
  rw [if_pos (by decide), tz_o0]; rfl
theorem gD_2 : fL_call a 6 2 y z U = some ((U a).1 13, U) := by
  rw [gc_6]
  unfold fL_tryLad tz_lad
  rw [if_pos (by decide), tz_o0]; rfl
theorem gD_3 : fL_call a 6 3 y z U = some (nI (tp_gn 1440 (tp_hal (U a).1)), U) := by
  rw [gc_6]
  unfold fL_tryLad tz_lad
  rw [if_pos (by decide), tz_o0]; rfl
end TZK
section TZK2
variable {a : Nat} {U : tz_U} {z : Int32}
theorem tz_ig {r : tp_R} {g : Nat} (hr : tp_rng r) (h : g < tp_cl (r 0)) : tp_ig r (nI g) = true := (tp_ig_N hr).mpr ⟨g, h, rfl⟩
theorem tz_im {r : tp_R} {g : Nat} (hr : tp_rng r) (h : g < tp_cl (r 1)) : tp_im r (nI g) = true := (tp_im_N hr).mpr ⟨g, h, rfl⟩
theorem tz_il {r : tp_R} {g : Nat} (hr : tp_rng r) (h : g < tp_cl (r 2)) : tp_il r (nI g) = true := (tp_il_N hr).mpr ⟨g, h, rfl⟩
theorem tz_io {r : tp_R} {g : Nat} (hr : tp_rng r) (h : g < tp_cl (r 8)) : tp_io r (nI g) = true := (tp_io_N hr).mpr ⟨g, h, rfl⟩
theorem gT_0 {g : Nat} (hr : tp_rng (U a).1) (h : g < tp_cl ((U a).1 0)) : fL_call a 3 (nI g) 0 z U = some ((U a).1 (18 + 2 * g), U) := by
  have b := (tp_r0 hr).2
  rw [gc_3]
  unfold fL_tryTold tz_told
  rw [if_pos (tz_ig hr h), if_pos (by decide), tz_o0, tz_cn (by omega)]; rfl
theorem gT_1 {g : Nat} (hr : tp_rng (U a).1) (h : g < tp_cl ((U a).1 0)) : fL_call a 3 (nI g) 1 z U = some ((U a).1 (19 + 2 * g), U) := by
  have b := (tp_r0 hr).2
  rw [gc_3]
  unfold fL_tryTold tz_told
  rw [if_pos (tz_ig hr h), if_pos (by decide), tz_o0, tz_cn (by omega)]; rfl
theorem gT_2 {g : Nat} (hr : tp_rng (U a).1) (h : g < tp_cl ((U a).1 0)) : fL_call a 3 (nI g) 2 z U = some (tp_hd (nI g) ((U a).1 (18 + 2 * g)), U) := by
  have b := (tp_r0 hr).2
  rw [gc_3]
  unfold fL_tryTold tz_told
  rw [if_pos (tz_ig hr h), if_pos (by decide), tz_o0, tz_cn (by omega)]; rfl
theorem gT_3 {g : Nat} (hr : tp_rng (U a).1) (h : g < tp_cl ((U a).1 0)) : fL_call a 3 (nI g) 3 z U = some (tp_b01 (tp_lit (U a).1 (nI g) ((U a).1 (18 + 2 * g))), U) := by
  have b := (tp_r0 hr).2
  rw [gc_3]
  unfold fL_tryTold tz_told
  rw [if_pos (tz_ig hr h), if_pos (by decide), tz_o0, tz_cn (by omega)]; rfl
theorem gT_4 {g : Nat} (hr : tp_rng (U a).1) (h : g < tp_cl ((U a).1 0)) : fL_call a 3 (nI g) 4 z U = some (nI (tp_cnt (tp_isg (U a).1 g) (tp_cl ((U a).1 1))), U) := by
  have b := (tp_r0 hr).2
  rw [gc_3]
  unfold fL_tryTold tz_told
  rw [if_pos (tz_ig hr h), if_pos (by decide), tz_o0, tz_cn (by omega)]; rfl
theorem gT_5 {g : Nat} (hr : tp_rng (U a).1) (h : g < tp_cl ((U a).1 0)) : fL_call a 3 (nI g) 5 z U = some (nI (tp_cnt (tp_isl (U a).1 g) (tp_cl ((U a).1 2))), U) := by
  have b := (tp_r0 hr).2
  rw [gc_3]
  unfold fL_tryTold tz_told
  rw [if_pos (tz_ig hr h), if_pos (by decide), tz_o0, tz_cn (by omega)]; rfl
theorem gW_0 {m : Nat} (hr : tp_rng (U a).1) (h : m < tp_cl ((U a).1 1)) : fL_call a 4 (nI m) 0 z U = some ((U a).1 (24 + 4 * m), U) := by
  have b := (tp_r1 hr).2
  rw [gc_4]
  unfold fL_tryWorker tz_worker
  rw [if_pos (tz_im hr h), if_pos (by decide), tz_o0, tz_cn (by omega), show tp_cl (0 : Int32) = 0 from rfl, show 24 + 4 * m + 0 = 24 + 4 * m by omega]
theorem gW_1 {m : Nat} (hr : tp_rng (U a).1) (h : m < tp_cl ((U a).1 1)) : fL_call a 4 (nI m) 1 z U = some ((U a).1 (25 + 4 * m), U) := by
  have b := (tp_r1 hr).2
  rw [gc_4]
  unfold fL_tryWorker tz_worker
  rw [if_pos (tz_im hr h), if_pos (by decide), tz_o0, tz_cn (by omega), show tp_cl (1 : Int32) = 1 from rfl, show 24 + 4 * m + 1 = 25 + 4 * m by omega]
theorem gW_2 {m : Nat} (hr : tp_rng (U a).1) (h : m < tp_cl ((U a).1 1)) : fL_call a 4 (nI m) 2 z U = some ((U a).1 (26 + 4 * m), U) := by
  have b := (tp_r1 hr).2
  rw [gc_4]
  unfold fL_tryWorker tz_worker
  rw [if_pos (tz_im hr h), if_pos (by decide), tz_o0, tz_cn (by omega), show tp_cl (2 : Int32) = 2 from rfl, show 24 + 4 * m + 2 = 26 + 4 * m by omega]
theorem gW_3 {m : Nat} (hr : tp_rng (U a).1) (h : m < tp_cl ((U a).1 1)) : fL_call a 4 (nI m) 3 z U = some ((U a).1 (27 + 4 * m), U) := by
  have b := (tp_r1 hr).2
  rw [gc_4]
  unfold fL_tryWorker tz_worker
  rw [if_pos (tz_im hr h), if_pos (by decide), tz_o0, tz_cn (by omega), show tp_cl (3 : Int32) = 3 from rfl, show 24 + 4 * m + 3 = 27 + 4 * m by omega]
theorem gG_0 {l : Nat} (hr : tp_rng (U a).1) (h : l < tp_cl ((U a).1 2)) : fL_call a 5 (nI l) 0 z U = some ((U a).1 (48 + 4 * l), U) := by
  have b := (tp_r2 hr).2
  rw [gc_5]
  unfold fL_tryGlow tz_glow
  rw [if_pos (tz_il hr h), if_pos (by decide), tz_o0, tz_cn (by omega)]
  unfold tp_lq
  rw [show tp_cl (0 : Int32) = 0 from rfl, if_neg (by decide), show 48 + 4 * l + 0 = 48 + 4 * l by omega]
theorem gG_1 {l : Nat} (hr : tp_rng (U a).1) (h : l < tp_cl ((U a).1 2)) : fL_call a 5 (nI l) 1 z U = some ((U a).1 (49 + 4 * l), U) := by
  have b := (tp_r2 hr).2
  rw [gc_5]
  unfold fL_tryGlow tz_glow
  rw [if_pos (tz_il hr h), if_pos (by decide), tz_o0, tz_cn (by omega)]
  unfold tp_lq
  rw [show tp_cl (1 : Int32) = 1 from rfl, if_neg (by decide), show 48 + 4 * l + 1 = 49 + 4 * l by omega]
theorem gG_2 {l : Nat} (hr : tp_rng (U a).1) (h : l < tp_cl ((U a).1 2)) : fL_call a 5 (nI l) 2 z U = some ((U a).1 (50 + 4 * l), U) := by
  have b := (tp_r2 hr).2
  rw [gc_5]
  unfold fL_tryGlow tz_glow
  rw [if_pos (tz_il hr h), if_pos (by decide), tz_o0, tz_cn (by omega)]
  unfold tp_lq
  rw [show tp_cl (2 : Int32) = 2 from rfl, if_neg (by decide), show 48 + 4 * l + 2 = 50 + 4 * l by omega]
theorem gG_3 {l : Nat} (hr : tp_rng (U a).1) (h : l < tp_cl ((U a).1 2)) : fL_call a 5 (nI l) 3 z U = some ((U a).1 (51 + 4 * l), U) := by
  have b := (tp_r2 hr).2
  rw [gc_5]
  unfold fL_tryGlow tz_glow
  rw [if_pos (tz_il hr h), if_pos (by decide), tz_o0, tz_cn (by omega)]
  unfold tp_lq
  rw [show tp_cl (3 : Int32) = 3 from rfl, if_neg (by decide), show 48 + 4 * l + 3 = 51 + 4 * l by omega]
theorem gG_4 {l : Nat} (hr : tp_rng (U a).1) (h : l < tp_cl ((U a).1 2)) : fL_call a 5 (nI l) 4 z U = some (if (U a).1 (49 + 4 * l) ≤ 0 then 0 else 1, U) := by
  have b := (tp_r2 hr).2
  rw [gc_5]
  unfold fL_tryGlow tz_glow
  rw [if_pos (tz_il hr h), if_pos (by decide), tz_o0, tz_cn (by omega)]
  rfl
theorem gO_0 {k : Nat} (hr : tp_rng (U a).1) (h : k < tp_cl ((U a).1 8)) : fL_call a 7 (nI k) 0 z U = some ((U a).1 (80 + 4 * k), U) := by
  have b := (tp_r8 hr).2
  rw [gc_7]
  unfold fL_tryOrder tz_order
  rw [if_pos (tz_io hr h), if_pos (by decide), tz_o0, tz_cn (by omega), show tp_cl (0 : Int32) = 0 from rfl, show 80 + 4 * k + 0 = 80 + 4 * k by omega]
theorem gO_1 {k : Nat} (hr : tp_rng (U a).1) (h : k < tp_cl ((U a).1 8)) : fL_call a 7 (nI k) 1 z U = some ((U a).1 (81 + 4 * k), U) := by
  have b := (tp_r8 hr).2
  rw [gc_7]
  unfold fL_tryOrder tz_order
  rw [if_pos (tz_io hr h), if_pos (by decide), tz_o0, tz_cn (by omega), show tp_cl (1 : Int32) = 1 from rfl, show 80 + 4 * k + 1 = 81 + 4 * k by omega]
theorem gO_2 {k : Nat} (hr : tp_rng (U a).1) (h : k < tp_cl ((U a).1 8)) : fL_call a 7 (nI k) 2 z U = some ((U a).1 (82 + 4 * k), U) := by
  have b := (tp_r8 hr).2
  rw [gc_7]
  unfold fL_tryOrder tz_order
  rw [if_pos (tz_io hr h), if_pos (by decide), tz_o0, tz_cn (by omega), show tp_cl (2 : Int32) = 2 from rfl, show 80 + 4 * k + 2 = 82 + 4 * k by omega]
theorem gO_3 {k : Nat} (hr : tp_rng (U a).1) (h : k < tp_cl ((U a).1 8)) : fL_call a 7 (nI k) 3 z U = some ((U a).1 (83 + 4 * k), U) := by
  have b := (tp_r8 hr).2
  rw [gc_7]
  unfold fL_tryOrder tz_order
  rw [if_pos (tz_io hr h), if_pos (by decide), tz_o0, tz_cn (by omega), show tp_cl (3 : Int32) = 3 from rfl, show 80 + 4 * k + 3 = 83 + 4 * k by omega]
theorem gL_0 {g : Nat} (hr : tp_rng (U a).1) (h : g < tp_cl ((U a).1 0)) : fL_call a 8 (nI g) 0 z U = some (nI (tp_litn (U a).1 g), U) := by
  have b := (tp_r0 hr).2
  rw [gc_8]
  unfold fL_tryLit tz_lit
  rw [if_pos (tz_ig hr h), if_pos (by decide), tz_o0, tz_cn (by omega)]
theorem gL_1 {g : Nat} (hr : tp_rng (U a).1) (h : g < tp_cl ((U a).1 0)) : fL_call a 8 (nI g) 1 z U = some (nI (tp_litn (U a).1 g), U) := by
  have b := (tp_r0 hr).2
  rw [gc_8]
  unfold fL_tryLit tz_lit
  rw [if_pos (tz_ig hr h), if_pos (by decide), tz_o0, tz_cn (by omega)]
end TZK2
