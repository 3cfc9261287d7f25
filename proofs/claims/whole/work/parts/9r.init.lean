/-! PURE: the class's constructor, all of it -/
theorem I1_z {I : Nat → Nat → Int32} (h : ZI I 16) : ZI (I1 I) 20 := fun a i ha => by
  show (if a = 19 ∧ i < 8 then nI 1 else if a = 18 ∧ i < 8 then nI 1 else if a = 17 ∧ i = 0 then nI 1 else I a i) = nI 0
  rw [if_neg (by omega), if_neg (by omega), if_neg (by omega)]
  exact h a i (by omega)
theorem I1_16 {I : Nat → Nat → Int32} (h : ZI I 16) (i : Nat) : I1 I 16 i = nI 0 := by
  show (if 16 = 19 ∧ i < 8 then nI 1 else if 16 = 18 ∧ i < 8 then nI 1 else if 16 = 17 ∧ i = 0 then nI 1 else I 16 i) = nI 0
  rw [if_neg (by omega), if_neg (by omega), if_neg (by omega)]
  exact h 16 i (by omega)
theorem W_i00 {L z q a i : Nat} {I : Nat → Nat → Int32} {l : List (Nat × Nat × Nat)} (h : I a i = nI 0) : upI (Wc L z q I l) a i (nI 0) = Wc L z q I l := by
  refine aw_ext rfl rfl (fun _ => rfl) (fun _ => rfl) (fun b j => ?_) (fun _ _ => rfl) (fun _ _ => rfl)
  rw [wi_upI]
  by_cases e : b = a ∧ j = i
  · rw [if_pos e, e.1, e.2]; exact h.symm
  · rw [if_neg e]
theorem FL_Ca {l : List (Nat × Nat × Nat)} (hf : FL l 18) : FL (lCa l) 22 := by
  unfold lCa
  (repeat (first | exact FL.mono hf (by omega) | refine FL_c (by omega) ?_))
theorem FL_Sa {s : Nat} {l : List (Nat × Nat × Nat)} (hf : FL l (s + 1)) : FL (lSa s l) (s + 7) := by
  unfold lSa
  (repeat (first | exact FL.mono hf (by omega) | refine FL_c (by omega) ?_))
theorem FL_Pg {l : List (Nat × Nat × Nat)} (hf : FL l 24) : FL (lPg l) 37 := by
  have h2 : FL (lSa 25 ((23, 1, 24) :: l)) 32 := FL_Sa (FL_c (by omega) (hf.mono (by omega)))
  unfold lPg
  (repeat (first | exact FL.mono h2 (by omega) | refine FL_c (by omega) ?_))
theorem FL_Rd88 {l : List (Nat × Nat × Nat)} (hf : FL l 89) : FL (lRd88 l) 111 := by
  unfold lRd88
  (repeat (first | exact FL.mono hf (by omega) | refine FL_c (by omega) ?_))
theorem FL_Rd111 {l : List (Nat × Nat × Nat)} (hf : FL l 112) : FL (lRd111 l) 134 := by
  unfold lRd111
  (repeat (first | exact FL.mono hf (by omega) | refine FL_c (by omega) ?_))
theorem FL_Lea {l : List (Nat × Nat × Nat)} (hf : FL l 137) : FL (lLe l) 151 := by
  unfold lLe
  (repeat (first | exact FL.mono hf (by omega) | refine FL_c (by omega) ?_))
theorem FL_Li {l : List (Nat × Nat × Nat)} (hf : FL l 169) : FL (lLi l) 179 := by
  unfold lLi
  (repeat (first | exact FL.mono hf (by omega) | refine FL_c (by omega) ?_))
def lA0 (l : List (Nat × Nat × Nat)) : List (Nat × Nat × Nat) := (16, 2, 23) :: lPg ((16, 1, 22) :: (16, 0, 17) :: lCa l)
theorem FL_A0 {l : List (Nat × Nat × Nat)} (hf : FL l 17) : FL (lA0 l) 37 := FL_c (by omega) (FL_Pg (FL_c (by omega) (FL_c (by omega) ((FL_Ca (hf.mono (by omega))).mono (by omega)))))
theorem S_A0 {L q : Nat} {I : Nat → Nat → Int32} {l : List (Nat × Nat × Nat)} (hI : ZI I 16) (hf : FL l 17) : F_A_init 16 (Wc L 17 q I l) = F_A_init_34 17 q 16 (Wc L 37 (q + 882) (I1 I) (lA0 l)) := by
  have hf1 := FL_Ca (hf.mono (show 17 ≤ 18 by omega))
  have hI1 := I1_z hI
  have hf2 : FL ((16, 1, 22) :: (16, 0, 17) :: lCa l) 23 := FL_c (by omega) (FL_c (by omega) (hf1.mono (by omega)))
  have hf3 := FL_Pg (hf2.mono (show 23 ≤ 24 by omega))
  unfold F_A_init
  rw [wk_W (by omega), kt16, gk rfl, wz_W, wq_W, grd (by omega) (by omega)]
  (try dsimp only)
  rw [W_new (k := 2) (n := 0) (by omega) (by decide +kernel) (by decide +kernel) (hI.mono (by omega)) (hf), wz_W, wq_W, grb (by omega) (by omega), C_Ca (hI.mono (by omega)) (hf.mono (by omega)), bd_s, wz_W, wq_W, grq rfl rfl, wk_W (by omega), kt16, gk rfl, W_r]
  (try dsimp only)
  rw [wz_W, wq_W, grd (by omega) (by omega)]
  (try dsimp only)
  rw [W_new (k := 106) (n := 3) (by omega) (by decide +kernel) (by decide +kernel) (hI1.mono (by omega)) (FL_c (by omega) hf1), wk_W (by omega), kt16, gk rfl, W_r]
  (try dsimp only)
  rw [wz_W, wq_W, grd (by omega) (by omega)]
  (try dsimp only)
  rw [W_new (k := 4) (n := 0) (by omega) (by decide +kernel) (by decide +kernel) (hI1.mono (by omega)) (hf2), wz_W, wq_W, grb (by omega) (by omega), C_Pg (hI1.mono (by omega)) (hf2.mono (by omega)), bd_s, wz_W, wq_W, grq rfl rfl, wk_W (by omega), kt16, gk rfl, W_r]
  (try dsimp only)
  rfl
def lB0 (l : List (Nat × Nat × Nat)) : List (Nat × Nat × Nat) := (16, 6, 88) :: lRd88 ((16, 5, 38) :: lSc ((38, 0, 39) :: (16, 3, 37) :: l) 24)
theorem FL_B0a {l : List (Nat × Nat × Nat)} (hf : FL l 37) : FL ((16, 5, 38) :: lSc ((38, 0, 39) :: (16, 3, 37) :: l) 24) 88 := FL_c (by omega) (FL_Sc (FL_c (by omega) (FL_c (by omega) (hf.mono (by omega)))) 24)
theorem FL_B0 {l : List (Nat × Nat × Nat)} (hf : FL l 37) : FL (lB0 l) 111 := FL_c (by omega) (FL_Rd88 ((FL_B0a hf).mono (by omega)))
theorem S_B0 {L q : Nat} {I : Nat → Nat → Int32} {l : List (Nat × Nat × Nat)} (hI : ZI I 20) (h16 : I 16 4 = nI 0) (hf : FL l 37) : F_A_init_34 17 q 16 (Wc L 37 (q + 882) I l) = F_A_init_70 17 q 16 (Wc L 111 (q + 1766) I (lB0 l)) := by
  have hfa := FL_B0a hf
  unfold F_A_init_34
  rw [wz_W, wq_W, grd (by omega) (by omega)]
  (try dsimp only)
  rw [W_new (k := 107) (n := 8) (by omega) (by decide +kernel) (by decide +kernel) (hI.mono (by omega)) (hf), wk_W (by omega), kt16, gk rfl, W_r]
  (try dsimp only)
  rw [show (0 : Int32) = nI 0 from rfl, W_i00 h16, wz_W, wq_W, grd (by omega) (by omega)]
  (try dsimp only)
  rw [W_new (k := 7) (n := 0) (by omega) (by decide +kernel) (by decide +kernel) (hI.mono (by omega)) (FL_c (by omega) (hf.mono (by omega))), wz_W, wq_W, grb (by omega) (by omega), C_Sc (hI.mono (by omega)) (FL_c (by omega) (hf.mono (by omega))), bd_s, wz_W, wq_W, grq rfl rfl, wk_W (by omega), kt16, gk rfl, W_r]
  (try dsimp only)
  rw [wz_W, wq_W, grd (by omega) (by omega)]
  (try dsimp only)
  rw [W_new (k := 9) (n := 0) (by omega) (by decide +kernel) (by decide +kernel) (hI.mono (by omega)) (hfa), wz_W, wq_W, grb (by omega) (by omega), C_Rd88 (hI.mono (by omega)) (hfa.mono (by omega)), bd_s, wz_W, wq_W, grq rfl rfl, wk_W (by omega), kt16, gk rfl, W_r]
  (try dsimp only)
  rfl
def lC0 (l : List (Nat × Nat × Nat)) : List (Nat × Nat × Nat) := (16, 9, 136) :: lLe2 (lLe ((16, 8, 134) :: (134, 0, 135) :: (16, 7, 111) :: lRd111 l)) 8
theorem FL_C0a {l : List (Nat × Nat × Nat)} (hf : FL l 111) : FL ((16, 7, 111) :: lRd111 l) 134 := FL_c (by omega) (FL_Rd111 (hf.mono (by omega)))
theorem FL_C0 {l : List (Nat × Nat × Nat)} (hf : FL l 111) : FL (lC0 l) 167 := FL_c (by omega) (FL_Le (FL_Lea (FL_c (by omega) (FL_c (by omega) ((FL_C0a hf).mono (by omega))))) 8)
theorem S_C0 {L q : Nat} {I : Nat → Nat → Int32} {l : List (Nat × Nat × Nat)} (hI : ZI I 20) (hf : FL l 111) : F_A_init_70 17 q 16 (Wc L 111 (q + 1766) I l) = F_A_init_103 17 q 16 (Wc L 167 (q + 2407) I (lC0 l)) := by
  have hfa := FL_C0a hf
  have hfb : FL ((16, 8, 134) :: (134, 0, 135) :: (16, 7, 111) :: lRd111 l) 136 := FL_c (by omega) (FL_c (by omega) (hfa.mono (by omega)))
  unfold F_A_init_70
  rw [wz_W, wq_W, grd (by omega) (by omega)]
  (try dsimp only)
  rw [W_new (k := 9) (n := 0) (by omega) (by decide +kernel) (by decide +kernel) (hI.mono (by omega)) (hf), wz_W, wq_W, grb (by omega) (by omega), C_Rd111 (hI.mono (by omega)) (hf.mono (by omega)), bd_s, wz_W, wq_W, grq rfl rfl, wk_W (by omega), kt16, gk rfl, W_r]
  (try dsimp only)
  rw [wz_W, wq_W, grd (by omega) (by omega)]
  (try dsimp only)
  rw [W_new (k := 8) (n := 0) (by omega) (by decide +kernel) (by decide +kernel) (hI.mono (by omega)) (hfa), wz_W, wq_W, grb (by omega) (by omega), C_Dy (by omega) rfl (by decide +kernel) (by decide +kernel) (by decide +kernel) (hI.mono (by omega)) (hfa.mono (by omega)), bd_s, wz_W, wq_W, grq rfl rfl, wk_W (by omega), kt16, gk rfl, W_r]
  (try dsimp only)
  rw [wz_W, wq_W, grd (by omega) (by omega)]
  (try dsimp only)
  rw [W_new (k := 10) (n := 0) (by omega) (by decide +kernel) (by decide +kernel) (hI.mono (by omega)) (hfb), wz_W, wq_W, grb (by omega) (by omega), C_Le (hI.mono (by omega)) (hfb.mono (by omega)), bd_s, wz_W, wq_W, grq rfl rfl, wk_W (by omega), kt16, gk rfl, W_r]
  (try dsimp only)
  rfl
def lD0 (l : List (Nat × Nat × Nat)) : List (Nat × Nat × Nat) := (16, 11, 168) :: lLi ((16, 10, 167) :: l)
theorem FL_D0 {l : List (Nat × Nat × Nat)} (hf : FL l 167) : FL (lD0 l) 179 := FL_c (by omega) (FL_Li (FL_c (by omega) (hf.mono (by omega))))
theorem S_D0 {L q : Nat} {I : Nat → Nat → Int32} {l : List (Nat × Nat × Nat)} (hI : ZI I 20) (hf : FL l 167) : F_A_init_103 17 q 16 (Wc L 167 (q + 2407) I l) = F_A_init_125 17 q FUEL 16 (nI 0) (Wc L 179 (q + 2542) I (lD0 l)) := by
  unfold F_A_init_103
  rw [wz_W, wq_W, grd (by omega) (by omega)]
  (try dsimp only)
  rw [W_new (k := 108) (n := 6) (by omega) (by decide +kernel) (by decide +kernel) (hI.mono (by omega)) (hf), wk_W (by omega), kt16, gk rfl, W_r]
  (try dsimp only)
  rw [wz_W, wq_W, grd (by omega) (by omega)]
  (try dsimp only)
  rw [W_new (k := 12) (n := 0) (by omega) (by decide +kernel) (by decide +kernel) (hI.mono (by omega)) (FL_c (by omega) (hf.mono (by omega))), wz_W, wq_W, grb (by omega) (by omega), C_Li (hI.mono (by omega)) (FL_c (by omega) (hf.mono (by omega))), bd_s, wz_W, wq_W, grq rfl rfl, wk_W (by omega), kt16, gk rfl, W_r]
  (try dsimp only)
  rfl
theorem tDia : ∀ i, i < 3 → KTab.getD (179 + 2 * i) 0 = 3 ∧ NTab.getD (179 + 2 * i) 0 = 0 ∧ KTab.getD (179 + 2 * i + 1) 0 = 100 ∧ NTab.getD (179 + 2 * i + 1) 0 = 1461 := by decide +kernel
theorem tDiar : KTab.getD 22 0 = 106 ∧ NTab.getD 22 0 = 3 := by decide +kernel
def lDia (l : List (Nat × Nat × Nat)) : Nat → List (Nat × Nat × Nat)
  | 0 => l
  | i + 1 => (22, i, 179 + 2 * i) :: (179 + 2 * i, 0, 179 + 2 * i + 1) :: (lDia l i)
theorem FL_Dia {l : List (Nat × Nat × Nat)} (hf : FL l 179) : ∀ i, FL (lDia l i) (179 + 2 * i)
  | 0 => hf
  | i + 1 => by
    have h := FL_Dia hf i
    show FL ((22, i, 179 + 2 * i) :: (179 + 2 * i, 0, 179 + 2 * i + 1) :: (lDia l i)) _
    (repeat (first | exact FL.mono h (by omega) | refine FL_c (by omega) ?_))
theorem Rl_Dia {l : List (Nat × Nat × Nat)} (y : Nat) : ∀ i, Rl (lDia l i) 16 y = Rl l 16 y
  | 0 => rfl
  | i + 1 => by
    show Rl ((22, i, 179 + 2 * i) :: (179 + 2 * i, 0, 179 + 2 * i + 1) :: (lDia l i)) 16 y = _
    (repeat rw [Rl_ne (by omega)])
    exact Rl_Dia y i
theorem L_Dia {L q : Nat} {I : Nat → Nat → Int32} {l : List (Nat × Nat × Nat)} (hI : ZI I 20) (hf : FL l 179) (h0 : Rl l 16 1 = 22) : ∀ (j i fu : Nat), i + j = 3 → j < fu → F_A_init_125 17 q fu 16 (nI i) (Wc L (179 + 2 * i) (q + 2542 + 1462 * i) I (lDia l i)) = F_A_init_151 17 q FUEL 16 (nI 0) (Wc L 185 (q + 6928) I (lDia l 3)) := by
  intro j
  induction j with
  | zero =>
    intro i fu hi hfu
    obtain ⟨fu, rfl⟩ : ∃ m, fu = m + 1 := ⟨fu - 1, by omega⟩
    obtain rfl : i = 3 := by omega
    show F_A_init_125_B (F_A_init_125 17 q fu) 17 q 16 (nI 3) _ = _
    unfold F_A_init_125_B
    rw [if_pos (show (3 : Int32) ≤ nI 3 by decide +kernel)]
    rfl
  | succ j ih =>
    intro i fu hi hfu
    obtain ⟨fu, rfl⟩ : ∃ m, fu = m + 1 := ⟨fu - 1, by omega⟩
    have tt := tDia i (by omega)
    have e := ih (i + 1) fu (by omega) (by omega)
    have hfi := FL_Dia hf i
    have hr : Rl (lDia l i) 16 1 = 22 := by rw [Rl_Dia]; exact h0
    show F_A_init_125_B (F_A_init_125 17 q fu) 17 q 16 (nI i) _ = _
    unfold F_A_init_125_B
    rw [if_neg (show ¬ (3 : Int32) ≤ nI i by rw [l_3, q_le (by omega) (by omega)]; omega), wk_W (by omega), kt16, gk rfl, wz_W, wq_W, grd (by omega) (by omega)]
    (try dsimp only)
    rw [W_new (k := 3) (n := 0) (by omega) tt.1 tt.2.1 (hI.mono (by omega)) hfi, wz_W, wq_W, grb (by omega) (by omega), C_Di (by omega) tt.1 tt.2.2.1 tt.2.2.2 (hI.mono (by omega)) (hfi.mono (by omega)), bd_s, wz_W, wq_W, grq rfl rfl, wr_W, hr, wk_W (by omega), tDiar.1, gk rfl, wk_W (by omega), tt.1, gk rfl, wn_W (by omega) (by omega), tDiar.2, gd_t (q_inb (by omega) (by omega)), q_nat (by omega), W_r]
    (try dsimp only)
    rw [l_1, nI_add, show 179 + 2 * i + 2 = 179 + 2 * (i + 1) by omega, show q + 2542 + 1462 * i + 1 + 1461 = q + 2542 + 1462 * (i + 1) by omega]
    exact e
theorem tSay : ∀ i, i < 8 → KTab.getD (185 + 7 * i) 0 = 5 ∧ NTab.getD (185 + 7 * i) 0 = 0 ∧ (KTab.getD (185 + 7 * i) 0 = 5 ∧ KTab.getD (185 + 7 * i + 1) 0 = 6 ∧ NTab.getD (185 + 7 * i + 1) 0 = 0 ∧ KTab.getD (185 + 7 * i + 2) 0 = 102 ∧ NTab.getD (185 + 7 * i + 2) 0 = 80 ∧ KTab.getD (185 + 7 * i + 3) 0 = 103 ∧ NTab.getD (185 + 7 * i + 3) 0 = 80 ∧ KTab.getD (185 + 7 * i + 4) 0 = 6 ∧ NTab.getD (185 + 7 * i + 4) 0 = 0 ∧ KTab.getD (185 + 7 * i + 5) 0 = 102 ∧ NTab.getD (185 + 7 * i + 5) 0 = 80 ∧ KTab.getD (185 + 7 * i + 6) 0 = 103 ∧ NTab.getD (185 + 7 * i + 6) 0 = 80) := by decide +kernel
theorem tSayr : KTab.getD 37 0 = 107 ∧ NTab.getD 37 0 = 8 := by decide +kernel
def lSay (l : List (Nat × Nat × Nat)) : Nat → List (Nat × Nat × Nat)
  | 0 => l
  | i + 1 => (37, i, 185 + 7 * i) :: lSa (185 + 7 * i) (lSay l i)
theorem FL_Say {l : List (Nat × Nat × Nat)} (hf : FL l 185) : ∀ i, FL (lSay l i) (185 + 7 * i)
  | 0 => hf
  | i + 1 => by
    have h := FL_Say hf i
    show FL ((37, i, 185 + 7 * i) :: lSa (185 + 7 * i) (lSay l i)) _
    exact FL_c (by omega) ((FL_Sa (s := 185 + 7 * i) (h.mono (by omega))).mono (by omega))
theorem Rl_Say {l : List (Nat × Nat × Nat)} (y : Nat) : ∀ i, Rl (lSay l i) 16 y = Rl l 16 y
  | 0 => rfl
  | i + 1 => by
    show Rl ((37, i, 185 + 7 * i) :: lSa (185 + 7 * i) (lSay l i)) 16 y = _
    unfold lSa
    (repeat rw [Rl_ne (by omega)])
    exact Rl_Say y i
theorem L_Say {L q : Nat} {I : Nat → Nat → Int32} {l : List (Nat × Nat × Nat)} (hI : ZI I 20) (hf : FL l 185) (h0 : Rl l 16 3 = 37) : ∀ (j i fu : Nat), i + j = 8 → j < fu → F_A_init_151 17 q fu 16 (nI i) (Wc L (185 + 7 * i) (q + 6928 + 340 * i) I (lSay l i)) = F_A_init_178 17 q FUEL 16 (nI 0) (Wc L 241 (q + 9648) I (lSay l 8)) := by
  intro j
  induction j with
  | zero =>
    intro i fu hi hfu
    obtain ⟨fu, rfl⟩ : ∃ m, fu = m + 1 := ⟨fu - 1, by omega⟩
    obtain rfl : i = 8 := by omega
    show F_A_init_151_B (F_A_init_151 17 q fu) 17 q 16 (nI 8) _ = _
    unfold F_A_init_151_B
    rw [if_pos (show (8 : Int32) ≤ nI 8 by decide +kernel)]
    rfl
  | succ j ih =>
    intro i fu hi hfu
    obtain ⟨fu, rfl⟩ : ∃ m, fu = m + 1 := ⟨fu - 1, by omega⟩
    have tt := tSay i (by omega)
    have e := ih (i + 1) fu (by omega) (by omega)
    have hfi := FL_Say hf i
    have hr : Rl (lSay l i) 16 3 = 37 := by rw [Rl_Say]; exact h0
    show F_A_init_151_B (F_A_init_151 17 q fu) 17 q 16 (nI i) _ = _
    unfold F_A_init_151_B
    rw [if_neg (show ¬ (8 : Int32) ≤ nI i by rw [l_8, q_le (by omega) (by omega)]; omega), wk_W (by omega), kt16, gk rfl, wz_W, wq_W, grd (by omega) (by omega)]
    (try dsimp only)
    rw [W_new (k := 5) (n := 0) (by omega) tt.1 tt.2.1 (hI.mono (by omega)) hfi, wz_W, wq_W, grb (by omega) (by omega), C_Sa (by omega) tt.2.2 (hI.mono (by omega)) (hfi.mono (by omega)), bd_s, wz_W, wq_W, grq rfl rfl, wr_W, hr, wk_W (by omega), tSayr.1, gk rfl, wk_W (by omega), tt.1, gk rfl, wn_W (by omega) (by omega), tSayr.2, gd_t (q_inb (by omega) (by omega)), q_nat (by omega), W_r]
    (try dsimp only)
    rw [l_1, nI_add, show 185 + 7 * i + 7 = 185 + 7 * (i + 1) by omega, show q + 6928 + 340 * i + 8 + 332 = q + 6928 + 340 * (i + 1) by omega]
    exact e
theorem tAlm : ∀ i, i < 6 → KTab.getD (241 + 5 * i) 0 = 11 ∧ NTab.getD (241 + 5 * i) 0 = 0 ∧ (KTab.getD (241 + 5 * i + 1) 0 = 8 ∧ NTab.getD (241 + 5 * i + 1) 0 = 0) ∧ (KTab.getD (241 + 5 * i + 2) 0 = 101 ∧ NTab.getD (241 + 5 * i + 2) 0 = 23) ∧ (KTab.getD (241 + 5 * i + 3) 0 = 8 ∧ NTab.getD (241 + 5 * i + 3) 0 = 0) ∧ (KTab.getD (241 + 5 * i + 4) 0 = 101 ∧ NTab.getD (241 + 5 * i + 4) 0 = 23) := by decide +kernel
theorem tAlmr : KTab.getD 167 0 = 108 ∧ NTab.getD 167 0 = 6 := by decide +kernel
def lAlm (l : List (Nat × Nat × Nat)) : Nat → List (Nat × Nat × Nat)
  | 0 => l
  | i + 1 => (167, i, 241 + 5 * i) :: (241 + 5 * i, 2, 241 + 5 * i + 3) :: (241 + 5 * i + 3, 0, 241 + 5 * i + 4) :: (241 + 5 * i, 1, 241 + 5 * i + 1) :: (241 + 5 * i + 1, 0, 241 + 5 * i + 2) :: (lAlm l i)
theorem FL_Alm {l : List (Nat × Nat × Nat)} (hf : FL l 241) : ∀ i, FL (lAlm l i) (241 + 5 * i)
  | 0 => hf
  | i + 1 => by
    have h := FL_Alm hf i
    show FL ((167, i, 241 + 5 * i) :: (241 + 5 * i, 2, 241 + 5 * i + 3) :: (241 + 5 * i + 3, 0, 241 + 5 * i + 4) :: (241 + 5 * i, 1, 241 + 5 * i + 1) :: (241 + 5 * i + 1, 0, 241 + 5 * i + 2) :: (lAlm l i)) _
    (repeat (first | exact FL.mono h (by omega) | refine FL_c (by omega) ?_))
theorem Rl_Alm {l : List (Nat × Nat × Nat)} (y : Nat) : ∀ i, Rl (lAlm l i) 16 y = Rl l 16 y
  | 0 => rfl
  | i + 1 => by
    show Rl ((167, i, 241 + 5 * i) :: (241 + 5 * i, 2, 241 + 5 * i + 3) :: (241 + 5 * i + 3, 0, 241 + 5 * i + 4) :: (241 + 5 * i, 1, 241 + 5 * i + 1) :: (241 + 5 * i + 1, 0, 241 + 5 * i + 2) :: (lAlm l i)) 16 y = _
    (repeat rw [Rl_ne (by omega)])
    exact Rl_Alm y i
theorem L_Alm {L q : Nat} {I : Nat → Nat → Int32} {l : List (Nat × Nat × Nat)} (hI : ZI I 20) (hf : FL l 241) (h0 : Rl l 16 10 = 167) : ∀ (j i fu : Nat), i + j = 6 → j < fu → F_A_init_178 17 q fu 16 (nI i) (Wc L (241 + 5 * i) (q + 9648 + 51 * i) I (lAlm l i)) = some (Wc L 271 (q + 9954) I (lAlm l 6)) := by
  intro j
  induction j with
  | zero =>
    intro i fu hi hfu
    obtain ⟨fu, rfl⟩ : ∃ m, fu = m + 1 := ⟨fu - 1, by omega⟩
    obtain rfl : i = 6 := by omega
    show F_A_init_178_B (F_A_init_178 17 q fu) 17 q 16 (nI 6) _ = _
    unfold F_A_init_178_B
    rw [if_pos (show (6 : Int32) ≤ nI 6 by decide +kernel), wz_W, wq_W, grq (by omega) (by omega)]
  | succ j ih =>
    intro i fu hi hfu
    obtain ⟨fu, rfl⟩ : ∃ m, fu = m + 1 := ⟨fu - 1, by omega⟩
    have tt := tAlm i (by omega)
    have e := ih (i + 1) fu (by omega) (by omega)
    have hfi := FL_Alm hf i
    have hr : Rl (lAlm l i) 16 10 = 167 := by rw [Rl_Alm]; exact h0
    show F_A_init_178_B (F_A_init_178 17 q fu) 17 q 16 (nI i) _ = _
    unfold F_A_init_178_B
    rw [if_neg (show ¬ (6 : Int32) ≤ nI i by rw [l_6, q_le (by omega) (by omega)]; omega), wk_W (by omega), kt16, gk rfl, wz_W, wq_W, grd (by omega) (by omega)]
    (try dsimp only)
    rw [W_new (k := 11) (n := 0) (by omega) tt.1 tt.2.1 (hI.mono (by omega)) hfi, wz_W, wq_W, grb (by omega) (by omega), C_Al (by omega) tt.1 tt.2.2.1 tt.2.2.2.1 tt.2.2.2.2.1 tt.2.2.2.2.2 (hI.mono (by omega)) (hfi.mono (by omega)), bd_s, wz_W, wq_W, grq rfl rfl, wr_W, hr, wk_W (by omega), tAlmr.1, gk rfl, wk_W (by omega), tt.1, gk rfl, wn_W (by omega) (by omega), tAlmr.2, gd_t (q_inb (by omega) (by omega)), q_nat (by omega), W_r]
    (try dsimp only)
    rw [l_1, nI_add, show 241 + 5 * i + 5 = 241 + 5 * (i + 1) by omega, show q + 9648 + 51 * i + 3 + 48 = q + 9648 + 51 * (i + 1) by omega]
    exact e
/-- the class's object and all that it holds -/
def lCls (l : List (Nat × Nat × Nat)) : List (Nat × Nat × Nat) := lAlm (lSay (lDia (lD0 (lC0 (lB0 (lA0 l)))) 3) 8) 6
theorem FL_Cls {l : List (Nat × Nat × Nat)} (hf : FL l 17) : FL (lCls l) 271 := FL_Alm (FL_Say (FL_Dia (FL_D0 (FL_C0 (FL_B0 (FL_A0 hf)))) 3) 8) 6
theorem Rl_Pg {l : List (Nat × Nat × Nat)} (y : Nat) : Rl (lPg l) 16 y = Rl l 16 y := by
  unfold lPg lSa
  (repeat rw [Rl_ne (by omega)])
theorem Rl_Rd88 {l : List (Nat × Nat × Nat)} (y : Nat) : Rl (lRd88 l) 16 y = Rl l 16 y := by
  unfold lRd88
  (repeat rw [Rl_ne (by omega)])
theorem Rl_Rd111 {l : List (Nat × Nat × Nat)} (y : Nat) : Rl (lRd111 l) 16 y = Rl l 16 y := by
  unfold lRd111
  (repeat rw [Rl_ne (by omega)])
theorem Rl_Lea {l : List (Nat × Nat × Nat)} (y : Nat) : Rl (lLe l) 16 y = Rl l 16 y := by
  unfold lLe
  (repeat rw [Rl_ne (by omega)])
theorem Rl_Li {l : List (Nat × Nat × Nat)} (y : Nat) : Rl (lLi l) 16 y = Rl l 16 y := by
  unfold lLi
  (repeat rw [Rl_ne (by omega)])
theorem Rl_D1 (l : List (Nat × Nat × Nat)) : Rl (lD0 (lC0 (lB0 (lA0 l)))) 16 1 = 22 := by
  unfold lD0 lC0 lB0 lA0
  rw [Rl_ne (by omega), Rl_Li, Rl_ne (by omega), Rl_ne (by omega), Rl_Le _ _ (by omega), Rl_Lea, Rl_ne (by omega), Rl_ne (by omega), Rl_ne (by omega), Rl_Rd111, Rl_ne (by omega), Rl_Rd88, Rl_ne (by omega), Rl_Sc _ _ (by omega), Rl_ne (by omega), Rl_ne (by omega), Rl_ne (by omega), Rl_Pg, Rl_eq]
theorem Rl_D3 (l : List (Nat × Nat × Nat)) : Rl (lD0 (lC0 (lB0 l))) 16 3 = 37 := by
  unfold lD0 lC0 lB0
  rw [Rl_ne (by omega), Rl_Li, Rl_ne (by omega), Rl_ne (by omega), Rl_Le _ _ (by omega), Rl_Lea, Rl_ne (by omega), Rl_ne (by omega), Rl_ne (by omega), Rl_Rd111, Rl_ne (by omega), Rl_Rd88, Rl_ne (by omega), Rl_Sc _ _ (by omega), Rl_ne (by omega), Rl_eq]
theorem Rl_D10 (l : List (Nat × Nat × Nat)) : Rl (lD0 l) 16 10 = 167 := by
  unfold lD0
  rw [Rl_ne (by omega), Rl_Li, Rl_eq]
theorem C_A {L q : Nat} {I : Nat → Nat → Int32} {l : List (Nat × Nat × Nat)} (hI : ZI I 16) (hf : FL l 17) : F_A_init 16 (Wc L 17 q I l) = some (Wc L 271 (q + 9954) (I1 I) (lCls l)) := by
  have hF := FUEL_big
  have hI1 := I1_z hI
  have f1 := FL_A0 hf
  have f2 := FL_B0 f1
  have f3 := FL_C0 f2
  have f4 := FL_D0 f3
  have f5 := FL_Dia f4 3
  have f6 := FL_Say f5 8
  rw [S_A0 hI hf, S_B0 hI1 (I1_16 hI 4) f1, S_C0 hI1 f2, S_D0 hI1 f3]
  have e1 := L_Dia (L := L) (q := q) hI1 f4 (Rl_D1 l) 3 0 FUEL (by omega) (by omega)
  have e2 := L_Say (L := L) (q := q) hI1 f5 (by rw [Rl_Dia]; exact Rl_D3 (lA0 l)) 8 0 FUEL (by omega) (by omega)
  have e3 := L_Alm (L := L) (q := q) hI1 f6 (by rw [Rl_Say, Rl_Dia]; exact Rl_D10 _) 6 0 FUEL (by omega) (by omega)
  exact e1.trans (e2.trans e3)
