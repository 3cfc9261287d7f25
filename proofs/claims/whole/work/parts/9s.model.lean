/-! PURE: the reference's constructor -/
theorem kt271 : KTab.getD 271 0 = 13 := by decide +kernel
theorem kM : KTab.getD 272 0 = 100 ∧ NTab.getD 272 0 = 8 ∧ KTab.getD 273 0 = 100 ∧ NTab.getD 273 0 = 8 ∧ KTab.getD 276 0 = 100 ∧ NTab.getD 276 0 = 17532 ∧ KTab.getD 278 0 = 100 ∧ NTab.getD 278 0 = 8766 := by decide +kernel
theorem rI_s {I : Nat → Nat → Int32} (a i : Nat) (x : Int32) (b j : Nat) : (if b = a ∧ j = i then x else rI I a i x b j) = rI I a (i + 1) x b j := by
  unfold rI
  by_cases h : b = a ∧ j = i
  · rw [if_pos h, if_pos ⟨h.1, by omega⟩]
  · rw [if_neg h]
    by_cases h2 : b = a ∧ j < i
    · rw [if_pos h2, if_pos ⟨h2.1, by omega⟩]
    · rw [if_neg h2, if_neg (fun q => by rcases Nat.lt_or_ge j i with r | r; exact h2 ⟨q.1, r⟩; exact h ⟨q.1, by omega⟩)]
theorem up_rI (I : Nat → Nat → Int32) (a i : Nat) (x : Int32) : up2 (rI I a i x) a i x = rI I a (i + 1) x := funext fun b => funext fun j => rI_s a i x b j
theorem up_rI2 (I : Nat → Nat → Int32) {a c : Nat} (h : a ≠ c) (i : Nat) (x : Int32) : up2 (up2 (rI (rI I a i x) c i x) a i x) c i x = rI (rI I a (i + 1) x) c (i + 1) x := by
  funext b j
  show (if b = c ∧ j = i then x else if b = a ∧ j = i then x else if b = c ∧ j < i then x else if b = a ∧ j < i then x else I b j) = if b = c ∧ j < i + 1 then x else if b = a ∧ j < i + 1 then x else I b j
  repeat' split
  all_goals first
    | rfl
    | (exfalso; omega)
theorem rI_0 (I : Nat → Nat → Int32) (a : Nat) (x : Int32) : rI I a 0 x = I := funext fun b => funext fun j => if_neg (by omega)
theorem FUEL_vb : 8766 < FUEL := by decide +kernel
theorem FUEL_vb2 : 17532 < FUEL := by decide +kernel
section
variable {L q : Nat} {I : Nat → Nat → Int32} {l : List (Nat × Nat × Nat)}
theorem L_wipe26 (h7 : Rl l 271 7 = 278) : ∀ (j i fu : Nat), i + j = 8766 → j < fu → F_M_wipe_26 fu 271 (nI i) (Wc L 300 q (rI I 278 i (mI 1)) l) = some (Wc L 300 q (rI I 278 8766 (mI 1)) l) := by
  intro j
  induction j with
  | zero =>
    intro i fu hi hfu
    obtain ⟨fu, rfl⟩ : ∃ m, fu = m + 1 := ⟨fu - 1, by omega⟩
    obtain rfl : i = 8766 := by omega
    show F_M_wipe_26_B (F_M_wipe_26 fu) 271 (nI 8766) _ = _
    unfold F_M_wipe_26_B
    rw [if_pos (show (8766 : Int32) ≤ nI 8766 by decide +kernel)]
  | succ j ih =>
    intro i fu hi hfu
    obtain ⟨fu, rfl⟩ : ∃ m, fu = m + 1 := ⟨fu - 1, by omega⟩
    have e := ih (i + 1) fu (by omega) (by omega)
    show F_M_wipe_26_B (F_M_wipe_26 fu) 271 (nI i) _ = _
    unfold F_M_wipe_26_B
    rw [if_neg (show ¬ (8766 : Int32) ≤ nI i by rw [l_8766, q_le (by omega) (by omega)]; omega), wk_W (by omega), kt271, gk rfl, wr_W, h7, wk_W (by omega), kM.2.2.2.2.2.2.1, gk rfl, wn_W (by omega) (by omega), kM.2.2.2.2.2.2.2, gd_t (q_inb (by omega) (by omega)), q_nat (by omega), show (-1 : Int32) = mI 1 from rfl, W_iu, up_rI, l_1, nI_add]
    exact e
theorem L_wipe2 (h5 : Rl l 271 5 = 276) (h7 : Rl l 271 7 = 278) : ∀ (j i fu : Nat), i + j = 17532 → j < fu → F_M_wipe_2 fu 271 (nI i) (Wc L 300 q (rI I 276 i (mI 1000)) l) = some (Wc L 300 q (rI (rI I 276 17532 (mI 1000)) 278 8766 (mI 1)) l) := by
  intro j
  induction j with
  | zero =>
    intro i fu hi hfu
    obtain ⟨fu, rfl⟩ : ∃ m, fu = m + 1 := ⟨fu - 1, by omega⟩
    obtain rfl : i = 17532 := by omega
    show F_M_wipe_2_B (F_M_wipe_2 fu) 271 (nI 17532) _ = _
    unfold F_M_wipe_2_B
    rw [if_pos (show (17532 : Int32) ≤ nI 17532 by decide +kernel)]
    have e := L_wipe26 (L := L) (q := q) (I := rI I 276 17532 (mI 1000)) h7 8766 0 FUEL (by omega) FUEL_vb
    rw [rI_0] at e
    exact e
  | succ j ih =>
    intro i fu hi hfu
    obtain ⟨fu, rfl⟩ : ∃ m, fu = m + 1 := ⟨fu - 1, by omega⟩
    have e := ih (i + 1) fu (by omega) (by omega)
    show F_M_wipe_2_B (F_M_wipe_2 fu) 271 (nI i) _ = _
    unfold F_M_wipe_2_B
    rw [if_neg (show ¬ (17532 : Int32) ≤ nI i by rw [l_17532, q_le (by omega) (by omega)]; omega), wk_W (by omega), kt271, gk rfl, wr_W, h5, wk_W (by omega), kM.2.2.2.2.1, gk rfl, wn_W (by omega) (by omega), kM.2.2.2.2.2.1, gd_t (q_inb (by omega) (by omega)), q_nat (by omega), show (-1000 : Int32) = mI 1000 from rfl, W_iu, up_rI, l_1, nI_add]
    exact e
def I2 (I : Nat → Nat → Int32) : Nat → Nat → Int32 := rI (rI (rI (rI (up2 I 271 0 (nI 1)) 272 8 (nI 1)) 273 8 (nI 1)) 276 17532 (mI 1000)) 278 8766 (mI 1)
theorem L_239 (h1 : Rl l 271 1 = 272) (h2 : Rl l 271 2 = 273) (h5 : Rl l 271 5 = 276) (h7 : Rl l 271 7 = 278) : ∀ (j i fu : Nat), i + j = 8 → j < fu → F_M_init_239 272 q fu 271 (nI i) (Wc L 300 (q + 32912) (rI (rI I 272 i (nI 1)) 273 i (nI 1)) l) = some (Wc L 300 (q + 32912) (rI (rI (rI (rI I 272 8 (nI 1)) 273 8 (nI 1)) 276 17532 (mI 1000)) 278 8766 (mI 1)) l) := by
  intro j
  induction j with
  | zero =>
    intro i fu hi hfu
    obtain ⟨fu, rfl⟩ : ∃ m, fu = m + 1 := ⟨fu - 1, by omega⟩
    obtain rfl : i = 8 := by omega
    have e := L_wipe2 (L := L) (q := q + 32912) (I := rI (rI I 272 8 (nI 1)) 273 8 (nI 1)) h5 h7 17532 0 FUEL (by omega) FUEL_vb2
    rw [rI_0] at e
    show F_M_init_239_B (F_M_init_239 272 q fu) 272 q 271 (nI 8) _ = _
    unfold F_M_init_239_B F_M_wipe
    rw [if_pos (show (8 : Int32) ≤ nI 8 by decide +kernel), wk_W (by omega), kt271, gk rfl, wz_W, wq_W, grb (by omega) (by omega), show (0 : Int32) = nI 0 from rfl, e, bd_s, wz_W, wq_W, grq (by omega) (by omega), grq (by omega) (by omega)]
  | succ j ih =>
    intro i fu hi hfu
    obtain ⟨fu, rfl⟩ : ∃ m, fu = m + 1 := ⟨fu - 1, by omega⟩
    have e := ih (i + 1) fu (by omega) (by omega)
    show F_M_init_239_B (F_M_init_239 272 q fu) 272 q 271 (nI i) _ = _
    unfold F_M_init_239_B
    rw [if_neg (show ¬ (8 : Int32) ≤ nI i by rw [l_8, q_le (by omega) (by omega)]; omega), wk_W (by omega), kt271, gk rfl, wr_W, h1, wk_W (by omega), kM.1, gk rfl, wn_W (by omega) (by omega), kM.2.1, gd_t (q_inb (by omega) (by omega)), q_nat (by omega), show (1 : Int32) = nI 1 from rfl, W_iu]
    (try dsimp only)
    rw [wr_W, h2, wk_W (by omega), kM.2.2.1, gk rfl, wn_W (by omega) (by omega), kM.2.2.2.1, gd_t (q_inb (by omega) (by omega)), W_iu, up_rI2 I (by omega), nI_add]
    exact e
theorem S_M0 (hI : ZI I 272) (hf : FL l 272) : F_M_init 271 (Wc L 272 q I l) = F_M_init_28 272 q 271 (Wc L 275 (q + 24) I ((271, 3, 274) :: (271, 2, 273) :: (271, 1, 272) :: l)) := by
  unfold F_M_init
  simp (disch := first | omega | decide +kernel | exact ZI.mono hI (by omega) | (repeat (first | exact FL.mono hf (by omega) | refine FL_c (by omega) ?_))) only [wz_W, wq_W, wk_W, grd, gk, W_new, W_r, kt271, Nat.reduceAdd, Nat.add_assoc]
theorem S_M1 (hI : ZI I 272) (hf : FL l 275) : F_M_init_28 272 q 271 (Wc L 275 (q + 24) I l) = F_M_init_45 272 q 271 (Wc L 277 (q + 17564) I ((271, 5, 276) :: (271, 4, 275) :: l)) := by
  unfold F_M_init_28
  simp (disch := first | omega | decide +kernel | exact ZI.mono hI (by omega) | (repeat (first | exact FL.mono hf (by omega) | refine FL_c (by omega) ?_))) only [wz_W, wq_W, wk_W, grd, gk, W_new, W_r, kt271, Nat.reduceAdd, Nat.add_assoc]
theorem S_M2 (hI : ZI I 272) (hf : FL l 277) : F_M_init_45 272 q 271 (Wc L 277 (q + 17564) I l) = F_M_init_62 272 q 271 (Wc L 279 (q + 26336) I ((271, 7, 278) :: (271, 6, 277) :: l)) := by
  unfold F_M_init_45
  simp (disch := first | omega | decide +kernel | exact ZI.mono hI (by omega) | (repeat (first | exact FL.mono hf (by omega) | refine FL_c (by omega) ?_))) only [wz_W, wq_W, wk_W, grd, gk, W_new, W_r, kt271, Nat.reduceAdd, Nat.add_assoc]
theorem S_M3 (hI : ZI I 272) (hf : FL l 279) : F_M_init_62 272 q 271 (Wc L 279 (q + 26336) I l) = F_M_init_88 272 q 271 (Wc L 282 (q + 26736) I ((271, 25, 281) :: (271, 24, 280) :: (271, 8, 279) :: l)) := by
  unfold F_M_init_62
  simp (disch := first | omega | decide +kernel | exact ZI.mono hI (by omega) | (repeat (first | exact FL.mono hf (by omega) | refine FL_c (by omega) ?_))) only [wz_W, wq_W, wk_W, grd, gk, W_new, W_r, kt271, Nat.reduceAdd, Nat.add_assoc]
theorem S_M4 (hI : ZI I 272) (hf : FL l 282) : F_M_init_88 272 q 271 (Wc L 282 (q + 26736) I l) = F_M_init_111 272 q 271 (Wc L 285 (q + 26914) I ((271, 30, 284) :: (271, 27, 283) :: (271, 26, 282) :: l)) := by
  unfold F_M_init_88
  simp (disch := first | omega | decide +kernel | exact ZI.mono hI (by omega) | (repeat (first | exact FL.mono hf (by omega) | refine FL_c (by omega) ?_))) only [wz_W, wq_W, wk_W, grd, gk, W_new, W_r, kt271, Nat.reduceAdd, Nat.add_assoc]
theorem S_M5 (hI : ZI I 272) (hf : FL l 285) : F_M_init_111 272 q 271 (Wc L 285 (q + 26914) I l) = F_M_init_120 272 q 271 (Wc L 286 (q + 28194) I ((271, 31, 285) :: l)) := by
  unfold F_M_init_111
  simp (disch := first | omega | decide +kernel | exact ZI.mono hI (by omega) | (repeat (first | exact FL.mono hf (by omega) | refine FL_c (by omega) ?_))) only [wz_W, wq_W, wk_W, grd, gk, W_new, W_r, kt271, Nat.reduceAdd, Nat.add_assoc]
theorem S_M6 (hI : ZI I 272) (hf : FL l 286) : F_M_init_120 272 q 271 (Wc L 286 (q + 28194) I l) = F_M_init_129 272 q 271 (Wc L 287 (q + 29474) I ((271, 32, 286) :: l)) := by
  unfold F_M_init_120
  simp (disch := first | omega | decide +kernel | exact ZI.mono hI (by omega) | (repeat (first | exact FL.mono hf (by omega) | refine FL_c (by omega) ?_))) only [wz_W, wq_W, wk_W, grd, gk, W_new, W_r, kt271, Nat.reduceAdd, Nat.add_assoc]
theorem S_M7 (hI : ZI I 272) (hf : FL l 287) : F_M_init_129 272 q 271 (Wc L 287 (q + 29474) I l) = F_M_init_153 272 q 271 (Wc L 290 (q + 29652) I ((271, 35, 289) :: (271, 34, 288) :: (271, 33, 287) :: l)) := by
  unfold F_M_init_129
  simp (disch := first | omega | decide +kernel | exact ZI.mono hI (by omega) | (repeat (first | exact FL.mono hf (by omega) | refine FL_c (by omega) ?_))) only [wz_W, wq_W, wk_W, grd, gk, W_new, W_r, kt271, Nat.reduceAdd, Nat.add_assoc]
theorem S_M8 (hI : ZI I 272) (hf : FL l 290) : F_M_init_153 272 q 271 (Wc L 290 (q + 29652) I l) = F_M_init_177 272 q 271 (Wc L 293 (q + 29895) I ((271, 38, 292) :: (271, 37, 291) :: (271, 36, 290) :: l)) := by
  unfold F_M_init_153
  simp (disch := first | omega | decide +kernel | exact ZI.mono hI (by omega) | (repeat (first | exact FL.mono hf (by omega) | refine FL_c (by omega) ?_))) only [wz_W, wq_W, wk_W, grd, gk, W_new, W_r, kt271, Nat.reduceAdd, Nat.add_assoc]
theorem S_M9 (hI : ZI I 272) (hf : FL l 293) : F_M_init_177 272 q 271 (Wc L 293 (q + 29895) I l) = F_M_init_194 272 q 271 (Wc L 295 (q + 31437) I ((271, 42, 294) :: (271, 39, 293) :: l)) := by
  unfold F_M_init_177
  simp (disch := first | omega | decide +kernel | exact ZI.mono hI (by omega) | (repeat (first | exact FL.mono hf (by omega) | refine FL_c (by omega) ?_))) only [wz_W, wq_W, wk_W, grd, gk, W_new, W_r, kt271, Nat.reduceAdd, Nat.add_assoc]
theorem S_M10 (hI : ZI I 272) (hf : FL l 295) : F_M_init_194 272 q 271 (Wc L 295 (q + 31437) I l) = F_M_init_203 272 q 271 (Wc L 296 (q + 32898) I ((271, 43, 295) :: l)) := by
  unfold F_M_init_194
  simp (disch := first | omega | decide +kernel | exact ZI.mono hI (by omega) | (repeat (first | exact FL.mono hf (by omega) | refine FL_c (by omega) ?_))) only [wz_W, wq_W, wk_W, grd, gk, W_new, W_r, kt271, Nat.reduceAdd, Nat.add_assoc]
theorem S_M11 (hI : ZI I 272) (hf : FL l 296) : F_M_init_203 272 q 271 (Wc L 296 (q + 32898) I l) = F_M_init_225 272 q 271 (Wc L 299 (q + 32909) I ((271, 47, 298) :: (271, 46, 297) :: (271, 44, 296) :: l)) := by
  unfold F_M_init_203
  simp (disch := first | omega | decide +kernel | exact ZI.mono hI (by omega) | (repeat (first | exact FL.mono hf (by omega) | refine FL_c (by omega) ?_))) only [wz_W, wq_W, wk_W, grd, gk, W_new, W_r, kt271, Nat.reduceAdd, Nat.add_assoc]
theorem S_M12 (hI : ZI I 272) (hf : FL l 299) : F_M_init_225 272 q 271 (Wc L 299 (q + 32909) I l) = F_M_init_239 272 q FUEL 271 (nI 0) (Wc L 300 (q + 32912) (up2 I 271 0 (nI 1)) ((271, 48, 299) :: l)) := by
  unfold F_M_init_225
  simp (disch := first | omega | decide +kernel | exact ZI.mono hI (by omega) | (repeat (first | exact FL.mono hf (by omega) | refine FL_c (by omega) ?_))) only [wz_W, wq_W, wk_W, grd, gk, W_new, W_r, kt271, Nat.reduceAdd, Nat.add_assoc]
  rfl
def lMod (l : List (Nat × Nat × Nat)) : List (Nat × Nat × Nat) := (271, 48, 299) :: (271, 47, 298) :: (271, 46, 297) :: (271, 44, 296) :: (271, 43, 295) :: (271, 42, 294) :: (271, 39, 293) :: (271, 38, 292) :: (271, 37, 291) :: (271, 36, 290) :: (271, 35, 289) :: (271, 34, 288) :: (271, 33, 287) :: (271, 32, 286) :: (271, 31, 285) :: (271, 30, 284) :: (271, 27, 283) :: (271, 26, 282) :: (271, 25, 281) :: (271, 24, 280) :: (271, 8, 279) :: (271, 7, 278) :: (271, 6, 277) :: (271, 5, 276) :: (271, 4, 275) :: (271, 3, 274) :: (271, 2, 273) :: (271, 1, 272) :: l
theorem C_M (hI : ZI I 272) (hf : FL l 272) : F_M_init 271 (Wc L 272 q I l) = some (Wc L 300 (q + 32912) (I2 I) (lMod l)) := by
  have hF := FUEL_big
  rw [S_M0 hI (by (repeat (first | exact FL.mono hf (by omega) | refine FL_c (by omega) ?_)))]
  rw [S_M1 hI (by (repeat (first | exact FL.mono hf (by omega) | refine FL_c (by omega) ?_)))]
  rw [S_M2 hI (by (repeat (first | exact FL.mono hf (by omega) | refine FL_c (by omega) ?_)))]
  rw [S_M3 hI (by (repeat (first | exact FL.mono hf (by omega) | refine FL_c (by omega) ?_)))]
  rw [S_M4 hI (by (repeat (first | exact FL.mono hf (by omega) | refine FL_c (by omega) ?_)))]
  rw [S_M5 hI (by (repeat (first | exact FL.mono hf (by omega) | refine FL_c (by omega) ?_)))]
  rw [S_M6 hI (by (repeat (first | exact FL.mono hf (by omega) | refine FL_c (by omega) ?_)))]
  rw [S_M7 hI (by (repeat (first | exact FL.mono hf (by omega) | refine FL_c (by omega) ?_)))]
  rw [S_M8 hI (by (repeat (first | exact FL.mono hf (by omega) | refine FL_c (by omega) ?_)))]
  rw [S_M9 hI (by (repeat (first | exact FL.mono hf (by omega) | refine FL_c (by omega) ?_)))]
  rw [S_M10 hI (by (repeat (first | exact FL.mono hf (by omega) | refine FL_c (by omega) ?_)))]
  rw [S_M11 hI (by (repeat (first | exact FL.mono hf (by omega) | refine FL_c (by omega) ?_)))]
  rw [S_M12 hI (by (repeat (first | exact FL.mono hf (by omega) | refine FL_c (by omega) ?_)))]
  have e := L_239 (L := L) (q := q) (I := up2 I 271 0 (nI 1)) (l := lMod l) rfl rfl rfl rfl 8 0 FUEL (by omega) (by omega)
  rw [rI_0, rI_0] at e
  exact e
end
