/-! PURE: the constructors of the class's parts, where they stand -/
theorem kt88 : KTab.getD 88 0 = 9 := by decide +kernel
theorem kt111 : KTab.getD 111 0 = 9 := by decide +kernel
theorem kt168 : KTab.getD 168 0 = 12 := by decide +kernel
theorem kt136 : KTab.getD 136 0 = 10 := by decide +kernel
theorem kt23 : KTab.getD 23 0 = 4 := by decide +kernel
theorem kt38 : KTab.getD 38 0 = 7 := by decide +kernel
theorem kt16 : KTab.getD 16 0 = 1 := by decide +kernel
theorem kt17 : KTab.getD 17 0 = 2 := by decide +kernel
def lRd88 (l : List (Nat × Nat × Nat)) : List (Nat × Nat × Nat) := (88, 10, 109) :: (109, 0, 110) :: (88, 9, 107) :: (107, 0, 108) :: (88, 8, 105) :: (105, 0, 106) :: (88, 7, 103) :: (103, 0, 104) :: (88, 6, 101) :: (101, 0, 102) :: (88, 5, 99) :: (99, 0, 100) :: (88, 4, 97) :: (97, 0, 98) :: (88, 3, 95) :: (95, 0, 96) :: (88, 2, 93) :: (93, 0, 94) :: (88, 1, 91) :: (91, 0, 92) :: (88, 0, 89) :: (89, 0, 90) :: l
theorem C_Rd88 {L q : Nat} {I : Nat → Nat → Int32} {l : List (Nat × Nat × Nat)} (hI : ZI I 89) (hf : FL l 89) : F_Rd_init 88 (Wc L 89 q I l) = some (Wc L 111 (q + 264) I (lRd88 l)) := by
  unfold F_Rd_init F_Rd_init_37 F_Rd_init_70 F_Rd_init_103
  simp (disch := first | omega | decide +kernel | exact ZI.mono hI (by omega) | (repeat (first | exact FL.mono hf (by omega) | refine FL_c (by omega) ?_))) only [wz_W, wq_W, wk_W, grd, grb, grq, gk, W_new, W_r, C_Dy, bd_s, kt88, Nat.reduceAdd, Nat.add_assoc]
  rfl
def lRd111 (l : List (Nat × Nat × Nat)) : List (Nat × Nat × Nat) := (111, 10, 132) :: (132, 0, 133) :: (111, 9, 130) :: (130, 0, 131) :: (111, 8, 128) :: (128, 0, 129) :: (111, 7, 126) :: (126, 0, 127) :: (111, 6, 124) :: (124, 0, 125) :: (111, 5, 122) :: (122, 0, 123) :: (111, 4, 120) :: (120, 0, 121) :: (111, 3, 118) :: (118, 0, 119) :: (111, 2, 116) :: (116, 0, 117) :: (111, 1, 114) :: (114, 0, 115) :: (111, 0, 112) :: (112, 0, 113) :: l
theorem C_Rd111 {L q : Nat} {I : Nat → Nat → Int32} {l : List (Nat × Nat × Nat)} (hI : ZI I 112) (hf : FL l 112) : F_Rd_init 111 (Wc L 112 q I l) = some (Wc L 134 (q + 264) I (lRd111 l)) := by
  unfold F_Rd_init F_Rd_init_37 F_Rd_init_70 F_Rd_init_103
  simp (disch := first | omega | decide +kernel | exact ZI.mono hI (by omega) | (repeat (first | exact FL.mono hf (by omega) | refine FL_c (by omega) ?_))) only [wz_W, wq_W, wk_W, grd, grb, grq, gk, W_new, W_r, C_Dy, bd_s, kt111, Nat.reduceAdd, Nat.add_assoc]
  rfl
def lLi (l : List (Nat × Nat × Nat)) : List (Nat × Nat × Nat) := (168, 8, 177) :: (177, 0, 178) :: (168, 7, 175) :: (175, 0, 176) :: (168, 6, 173) :: (173, 0, 174) :: (168, 5, 171) :: (171, 0, 172) :: (168, 4, 169) :: (169, 0, 170) :: l
theorem C_Li {L q : Nat} {I : Nat → Nat → Int32} {l : List (Nat × Nat × Nat)} (hI : ZI I 168) (hf : FL l 169) : F_Li_init 168 (Wc L 169 q I l) = some (Wc L 179 (q + 120) I (lLi l)) := by
  unfold F_Li_init F_Li_init_35 F_Li_init_68
  simp (disch := first | omega | decide +kernel | exact ZI.mono hI (by omega) | (repeat (first | exact FL.mono hf (by omega) | refine FL_c (by omega) ?_))) only [wz_W, wq_W, wk_W, grd, grb, grq, gk, W_new, W_r, C_Dy, bd_s, l_0, W_i0 hI, kt168, Nat.reduceAdd, Nat.add_assoc]
  rfl
theorem tSa25 : TSa 25 := by unfold TSa; decide +kernel
def lPg (l : List (Nat × Nat × Nat)) : List (Nat × Nat × Nat) := (23, 16, 36) :: (23, 15, 35) :: (23, 14, 34) :: (23, 13, 33) :: (23, 12, 32) :: (23, 3, 26) :: (23, 2, 25) :: lSa 25 ((23, 1, 24) :: l)
theorem C_Pg {L q : Nat} {I : Nat → Nat → Int32} {l : List (Nat × Nat × Nat)} (hI : ZI I 23) (hf : FL l 24) : F_Pg_init 23 (Wc L 24 q I l) = some (Wc L 37 (q + 825) I (lPg l)) := by
  unfold F_Pg_init
  simp (disch := first | omega | decide +kernel | exact ZI.mono hI (by omega) | (repeat (first | exact FL.mono hf (by omega) | refine FL_c (by omega) ?_))) only [wz_W, wq_W, wk_W, grd, grb, grq, gk, W_new, W_r, C_Dy, bd_s, l_0, W_i0 hI, kt23, Nat.reduceAdd, Nat.add_assoc]
  rw [C_Sa (s := 25) (by omega) tSa25 (hI.mono (by omega)) (FL_c (by omega) (hf.mono (by omega)))]
  have hf2 : FL (lSa 25 ((23, 1, 24) :: l)) 32 := by
    unfold lSa
    exact FL_c (by omega) (FL_c (by omega) (FL_c (by omega) (FL_c (by omega) (FL_c (by omega) (FL_c (by omega) (FL_c (by omega) (hf.mono (by omega))))))))
  have e26 : Rl (lSa 25 ((23, 1, 24) :: l)) 25 0 = 26 := rfl
  obtain ⟨l2, hl2⟩ : ∃ l2, lSa 25 ((23, 1, 24) :: l) = l2 := ⟨_, rfl⟩
  rw [hl2] at hf2 e26 ⊢
  clear hf
  have hf := hf2
  unfold F_Pg_init_39 F_Pg_init_69 F_Pg_init_95
  simp (disch := first | omega | decide +kernel | exact ZI.mono hI (by omega) | (repeat (first | exact FL.mono hf (by omega) | refine FL_c (by omega) ?_))) only [wz_W, wq_W, wk_W, grd, grb, grq, gk, W_new, wr_W, Rl_eq, Rl_ne, e26, W_r, C_Dy, bd_s, l_0, W_i0 hI, kt23, tSa25.1, Nat.reduceAdd, Nat.add_assoc]
  rw [← hl2]
  rfl
def lSc (l : List (Nat × Nat × Nat)) : Nat → List (Nat × Nat × Nat)
  | 0 => l
  | i + 1 => (39, i, 40 + 2 * i) :: (40 + 2 * i, 0, 41 + 2 * i) :: lSc l i
def lLe2 (l : List (Nat × Nat × Nat)) : Nat → List (Nat × Nat × Nat)
  | 0 => l
  | i + 1 => (137, i, 151 + 2 * i) :: (151 + 2 * i, 0, 152 + 2 * i) :: lLe2 l i
theorem tSc : ∀ i, i < 24 → KTab.getD (40 + 2 * i) 0 = 8 ∧ NTab.getD (40 + 2 * i) 0 = 0 ∧ KTab.getD (41 + 2 * i) 0 = 101 ∧ NTab.getD (41 + 2 * i) 0 = 23 := by decide +kernel
theorem tScr : KTab.getD 39 0 = 105 ∧ NTab.getD 39 0 = 24 := by decide +kernel
theorem FL_Sc {l : List (Nat × Nat × Nat)} (hf : FL l 40) : ∀ i, FL (lSc l i) (40 + 2 * i)
  | 0 => hf
  | i + 1 => FL_c (by omega) (FL_c (by omega) ((FL_Sc hf i).mono (by omega)))
theorem Rl_Sc {l : List (Nat × Nat × Nat)} (x y : Nat) (h : x < 39) : ∀ i, Rl (lSc l i) x y = Rl l x y
  | 0 => rfl
  | i + 1 => by
    show Rl ((39, i, 40 + 2 * i) :: (40 + 2 * i, 0, 41 + 2 * i) :: lSc l i) x y = _
    rw [Rl_ne (by omega), Rl_ne (by omega), Rl_Sc x y h i]
theorem L_Sc {L q : Nat} {I : Nat → Nat → Int32} {l : List (Nat × Nat × Nat)} (hI : ZI I 40) (hf : FL l 40) (h0 : Rl l 38 0 = 39) : ∀ (j i fu : Nat), i + j = 24 → j < fu → F_Sc_init_15 39 q fu 38 (nI i) (Wc L (40 + 2 * i) (q + 24 + 24 * i) I (lSc l i)) = some (Wc L 88 (q + 600) I (lSc l 24)) := by
  intro j
  induction j with
  | zero =>
    intro i fu hi hf
    obtain ⟨fu, rfl⟩ : ∃ m, fu = m + 1 := ⟨fu - 1, by omega⟩
    obtain rfl : i = 24 := by omega
    show F_Sc_init_15_B (F_Sc_init_15 39 q fu) 39 q 38 (nI 24) _ = _
    unfold F_Sc_init_15_B
    rw [if_pos (show (24 : Int32) ≤ nI 24 by decide +kernel), wz_W, wq_W, grq (by omega) (by omega)]
  | succ j ih =>
    intro i fu hi hfu
    obtain ⟨fu, rfl⟩ : ∃ m, fu = m + 1 := ⟨fu - 1, by omega⟩
    obtain ⟨k0, n0, k1, n1⟩ := tSc i (by omega)
    have e := ih (i + 1) fu (by omega) (by omega)
    have hfi := FL_Sc hf i
    have hr : Rl (lSc l i) 38 0 = 39 := by rw [Rl_Sc _ _ (by omega)]; exact h0
    show F_Sc_init_15_B (F_Sc_init_15 39 q fu) 39 q 38 (nI i) _ = _
    unfold F_Sc_init_15_B
    rw [if_neg (show ¬ (24 : Int32) ≤ nI i by rw [l_24, q_le (by omega) (by omega)]; omega), wk_W (by omega), show KTab.getD 38 0 = 7 by decide +kernel, gk rfl, wz_W, wq_W, grd (by omega) (by omega)]
    (try dsimp only)
    rw [W_new (k := 8) (n := 0) (by omega) k0 n0 (hI.mono (by omega)) hfi, wz_W, wq_W, grb (by omega) (by omega), C_Dy (by omega) rfl k0 (by rw [show 40 + 2 * i + 1 = 41 + 2 * i by omega]; exact k1) (by rw [show 40 + 2 * i + 1 = 41 + 2 * i by omega]; exact n1) (hI.mono (by omega)) (hfi.mono (by omega)), bd_s, wz_W, wq_W, grq rfl rfl, wr_W, hr, wk_W (by omega), tScr.1, gk rfl, wk_W (by omega), k0, gk rfl, wn_W (by omega) (by omega), tScr.2, gd_t (q_inb (by omega) (by omega)), q_nat (by omega), W_r]
    (try dsimp only)
    rw [l_1, nI_add, show 40 + 2 * i + 1 + 1 = 40 + 2 * (i + 1) by omega, show q + 24 + 24 * i + 1 + 23 = q + 24 + 24 * (i + 1) by omega, show 40 + 2 * i + 1 = 41 + 2 * i by omega]
    exact e
theorem tLe : ∀ i, i < 8 → KTab.getD (151 + 2 * i) 0 = 8 ∧ NTab.getD (151 + 2 * i) 0 = 0 ∧ KTab.getD (152 + 2 * i) 0 = 101 ∧ NTab.getD (152 + 2 * i) 0 = 23 := by decide +kernel
theorem tLer : KTab.getD 137 0 = 105 ∧ NTab.getD 137 0 = 8 := by decide +kernel
theorem FL_Le {l : List (Nat × Nat × Nat)} (hf : FL l 151) : ∀ i, FL (lLe2 l i) (151 + 2 * i)
  | 0 => hf
  | i + 1 => FL_c (by omega) (FL_c (by omega) ((FL_Le hf i).mono (by omega)))
theorem Rl_Le {l : List (Nat × Nat × Nat)} (x y : Nat) (h : x < 137) : ∀ i, Rl (lLe2 l i) x y = Rl l x y
  | 0 => rfl
  | i + 1 => by
    show Rl ((137, i, 151 + 2 * i) :: (151 + 2 * i, 0, 152 + 2 * i) :: lLe2 l i) x y = _
    rw [Rl_ne (by omega), Rl_ne (by omega), Rl_Le x y h i]
theorem L_Le {L q : Nat} {I : Nat → Nat → Int32} {l : List (Nat × Nat × Nat)} (hI : ZI I 151) (hf : FL l 151) (h0 : Rl l 136 2 = 137) : ∀ (j i fu : Nat), i + j = 8 → j < fu → F_Le_init_126 137 q fu 136 (nI i) (Wc L (151 + 2 * i) (q + 134 + 24 * i) I (lLe2 l i)) = some (Wc L 167 (q + 326) I (lLe2 l 8)) := by
  intro j
  induction j with
  | zero =>
    intro i fu hi hf
    obtain ⟨fu, rfl⟩ : ∃ m, fu = m + 1 := ⟨fu - 1, by omega⟩
    obtain rfl : i = 8 := by omega
    show F_Le_init_126_B (F_Le_init_126 137 q fu) 137 q 136 (nI 8) _ = _
    unfold F_Le_init_126_B
    rw [if_pos (show (8 : Int32) ≤ nI 8 by decide +kernel), wz_W, wq_W, grq (by omega) (by omega)]
  | succ j ih =>
    intro i fu hi hfu
    obtain ⟨fu, rfl⟩ : ∃ m, fu = m + 1 := ⟨fu - 1, by omega⟩
    obtain ⟨k0, n0, k1, n1⟩ := tLe i (by omega)
    have e := ih (i + 1) fu (by omega) (by omega)
    have hfi := FL_Le hf i
    have hr : Rl (lLe2 l i) 136 2 = 137 := by rw [Rl_Le _ _ (by omega)]; exact h0
    show F_Le_init_126_B (F_Le_init_126 137 q fu) 137 q 136 (nI i) _ = _
    unfold F_Le_init_126_B
    rw [if_neg (show ¬ (8 : Int32) ≤ nI i by rw [l_8, q_le (by omega) (by omega)]; omega), wk_W (by omega), show KTab.getD 136 0 = 10 by decide +kernel, gk rfl, wz_W, wq_W, grd (by omega) (by omega)]
    (try dsimp only)
    rw [W_new (k := 8) (n := 0) (by omega) k0 n0 (hI.mono (by omega)) hfi, wz_W, wq_W, grb (by omega) (by omega), C_Dy (by omega) rfl k0 (by rw [show 151 + 2 * i + 1 = 152 + 2 * i by omega]; exact k1) (by rw [show 151 + 2 * i + 1 = 152 + 2 * i by omega]; exact n1) (hI.mono (by omega)) (hfi.mono (by omega)), bd_s, wz_W, wq_W, grq rfl rfl, wr_W, hr, wk_W (by omega), tLer.1, gk rfl, wk_W (by omega), k0, gk rfl, wn_W (by omega) (by omega), tLer.2, gd_t (q_inb (by omega) (by omega)), q_nat (by omega), W_r]
    (try dsimp only)
    rw [l_1, nI_add, show 151 + 2 * i + 1 + 1 = 151 + 2 * (i + 1) by omega, show q + 134 + 24 * i + 1 + 23 = q + 134 + 24 * (i + 1) by omega, show 151 + 2 * i + 1 = 152 + 2 * i by omega]
    exact e
theorem C_Sc {L q : Nat} {I : Nat → Nat → Int32} {l : List (Nat × Nat × Nat)} (hI : ZI I 39) (hf : FL l 39) : F_Sc_init 38 (Wc L 39 q I l) = some (Wc L 88 (q + 600) I (lSc ((38, 0, 39) :: l) 24)) := by
  unfold F_Sc_init
  simp (disch := first | omega | decide +kernel | exact ZI.mono hI (by omega) | (repeat (first | exact FL.mono hf (by omega) | refine FL_c (by omega) ?_))) only [wz_W, wq_W, wk_W, grd, grb, grq, gk, W_new, W_r, C_Dy, bd_s, l_0, kt38, Nat.reduceAdd, Nat.add_assoc]
  exact L_Sc (hI.mono (by omega)) (FL_c (by omega) (hf.mono (by omega))) rfl 24 0 FUEL (by omega) (by have := FUEL_big; omega)
def lLe (l : List (Nat × Nat × Nat)) : List (Nat × Nat × Nat) := (136, 10, 150) :: (136, 9, 149) :: (136, 8, 148) :: (136, 7, 146) :: (146, 0, 147) :: (136, 6, 144) :: (144, 0, 145) :: (136, 5, 142) :: (142, 0, 143) :: (136, 4, 140) :: (140, 0, 141) :: (136, 3, 138) :: (138, 0, 139) :: (136, 2, 137) :: l
theorem C_Le {L q : Nat} {I : Nat → Nat → Int32} {l : List (Nat × Nat × Nat)} (hI : ZI I 136) (hf : FL l 137) : F_Le_init 136 (Wc L 137 q I l) = some (Wc L 167 (q + 326) I (lLe2 (lLe l) 8)) := by
  unfold F_Le_init F_Le_init_34 F_Le_init_67 F_Le_init_92 F_Le_init_119
  simp (disch := first | omega | decide +kernel | exact ZI.mono hI (by omega) | (repeat (first | exact FL.mono hf (by omega) | refine FL_c (by omega) ?_))) only [wz_W, wq_W, wk_W, grd, grb, grq, gk, W_new, W_r, C_Dy, bd_s, l_0, W_i0 hI, kt136, Nat.reduceAdd, Nat.add_assoc]
  refine L_Le (l := lLe l) (hI.mono (by omega)) ?_ rfl 8 0 FUEL (by omega) (by have := FUEL_big; omega)
  unfold lLe
  (repeat (first | exact FL.mono hf (by omega) | refine FL_c (by omega) ?_))
