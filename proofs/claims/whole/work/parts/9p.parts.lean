/-! PURE: the constructors of the class's parts, where they stand -/
theorem kt88 : KTab.getD 88 0 = 9 := by decide +kernel
theorem kt111 : KTab.getD 111 0 = 9 := by decide +kernel
theorem kt168 : KTab.getD 168 0 = 12 := by decide +kernel
theorem kt136 : KTab.getD 136 0 = 10 := by decide +kernel
theorem kt23 : KTab.getD 23 0 = 4 := by decide +kernel
theorem kt38 : KTab.getD 38 0 = 7 := by decide +kernel
theorem kt16 : KTab.getD 16 0 = 1 := by decide +kernel
theorem kt17 : KTab.getD 17 0 = 2 := by decide +kernel
def lRd88 (l : List (Nat × Nat × Nat)) : List (Nat × Nat × Nat) := (88, 10, 109) :: (109, 0, 110) :: (88, 9, 107) :: (107, 0, 108) :: (88, 8, 105) :: (105, 0, 106) :: (88, 7, 103) :: (103, 0, 104) :: (88, 6, 101) :: (101, 0, 102) :: (88, 5, 99) :: (99, 0, 100) :: (88, 4, 97) :: (97, 0, 98) :: (88, 3, 95) :: (95, 0, 96) :: (88, 2, 93) :: (93, 0, 94) :: (88, 1, 91) :: (91, 0, 92) :: (88, 0, 89) :: (89, 0, 90) :: l
theorem C_Rd88 {L q : Nat} {I : Nat → Nat → Int32} {l : List (Nat × Nat × Nat)} (hI : ZI I 89) (hf : FL l 89) : F_Rd_init 88 (Wc L 89 q I l) = some (Wc L 111 (q + 264) I (lRd88 l)) := by
  unfold F_Rd_init F_Rd_init_37 F_Rd_init_70 F_Rd_init_103
  simp (disch := first | omega | decide +kernel | exact ZI.mono hI (by omega) | (repeat (first | exact FL.mono hf (by omega) | refine FL_c (by omega) ?_))) only [wz_W, wq_W, wk_W, grd, grb, grq, gk, W_new, W_r, C_Dy, bd_s, kt88, Nat.reduceAdd, Nat.add_assoc]
  rfl
def lRd111 (l : List (Nat × Nat × Nat)) : List (Nat × Nat × Nat) := (111, 10, 132) :: (132, 0, 133) :: (111, 9, 130) :: (130, 0, 131) :: (111, 8, 128) :: (128, 0, 129) :: (111, 7, 126) :: (126, 0, 127) :: (111, 6, 124) :: (124, 0, 125) :: (111, 5, 122) :: (122, 0, 123) :: (111, 4, 120) :: (120, 0, 121) :: (111, 3, 118) :: (118, 0, 119) :: (111, 2, 116) :: (116, 0, 117) :: (111, 1, 114) :: (114, 0, 115) :: (111, 0, 112) :: (112, 0, 113) :: l
theorem C_Rd111 {L q : Nat} {I : Nat → Nat → Int32} {l : List (Nat × Nat × Nat)} (hI : ZI I 112) (hf : FL l 112) : F_Rd_init 111 (Wc L 112 q I l) = some (Wc L 134 (q + 264) I (lRd111 l)) := by
  unfold F_Rd_init F_Rd_init_37 F_Rd_init_70 F_Rd_init_103
  simp (disch := first | omega | decide +kernel | exact ZI.mono hI (by omega) | (repeat (first | exact FL.mono hf (by omega) | refine FL_c (by omega) ?_))) only [wz_W, wq_W, wk_W, grd, grb, grq, gk, W_new, W_r, C_Dy, bd_s, kt111, Nat.reduceAdd, Nat.add_assoc]
  rfl
