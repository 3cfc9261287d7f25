/-! PURE: the class's constructor -/
def rI (I : Nat → Nat → Int32) (a N : Nat) (x : Int32) : Nat → Nat → Int32 := fun b j => if b = a ∧ j < N then x else I b j
theorem C_fill {L z q a N : Nat} {I : Nat → Nat → Int32} {l : List (Nat × Nat × Nat)} (x : Int32) (h : a < z) (h1 : a ≠ 1) (hk : KTab.getD a 0 = 100) (hn : NTab.getD a 0 = N) (hN : N ≤ 999) : F_Jarr_fill_aII a x (Wc L z q I l) = some (Wc L z q (rI I a N x) l) := by
  have k := (wk_W (L := L) (q := q) (I := I) (l := l) h).trans hk
  have n := (wn_W (L := L) (q := q) (I := I) (l := l) h h1).trans hn
  unfold F_Jarr_fill_aII
  rw [k, gk rfl, n]
  (try dsimp only)
  rw [show (0 : Int32) = nI 0 from rfl, show Int32.ofNat N = nI N from rfl, L_fillI a x N (by omega) N FUEL 0 _ k n (by omega) (by have := FUEL_big; omega)]
  refine congrArg some (aw_ext rfl rfl (fun _ => rfl) (fun _ => rfl) (fun b j => ?_) (fun _ _ => rfl) (fun _ _ => rfl))
  rw [wi_rowI]
  show (if b = a then (if 0 ≤ j ∧ j < N then x else I a j) else I b j) = if b = a ∧ j < N then x else I b j
  by_cases e : b = a
  · rw [if_pos e, e]
    by_cases e2 : j < N
    · rw [if_pos ⟨by omega, e2⟩, if_pos ⟨rfl, e2⟩]
    · rw [if_neg (by omega), if_neg (by omega)]
  · rw [if_neg e, if_neg (fun h => e h.1)]
theorem W_iu (L z q : Nat) (I : Nat → Nat → Int32) (l : List (Nat × Nat × Nat)) (a i : Nat) (x : Int32) : upI (Wc L z q I l) a i x = Wc L z q (up2 I a i x) l := rfl
theorem ZI_up {I : Nat → Nat → Int32} {z a i : Nat} {x : Int32} (h : ZI I z) (ha : a < z) : ZI (up2 I a i x) z := fun b j hb => by
  show (if b = a ∧ j = i then x else I b j) = nI 0
  rw [if_neg (by omega)]; exact h b j hb
theorem ZI_rI {I : Nat → Nat → Int32} {z a N : Nat} {x : Int32} (h : ZI I z) (ha : a < z) : ZI (rI I a N x) z := fun b j hb => by
  show (if b = a ∧ j < N then x else I b j) = nI 0
  rw [if_neg (by omega)]; exact h b j hb
def I1 (I : Nat → Nat → Int32) : Nat → Nat → Int32 := rI (rI (up2 I 17 0 (nI 1)) 18 8 (nI 1)) 19 8 (nI 1)
def lCa (l : List (Nat × Nat × Nat)) : List (Nat × Nat × Nat) := (17, 4, 21) :: (17, 3, 20) :: (17, 2, 19) :: (17, 1, 18) :: l
theorem ktCa : KTab.getD 17 0 = 2 ∧ (∀ i, i < 4 → KTab.getD (18 + i) 0 = 100 ∧ NTab.getD (18 + i) 0 = 8) := by decide +kernel
theorem C_Ca {L q : Nat} {I : Nat → Nat → Int32} {l : List (Nat × Nat × Nat)} (hI0 : ZI I 17) (hf : FL l 18) : F_Ca_init 17 (Wc L 18 q I l) = some (Wc L 22 (q + 32) (I1 I) (lCa l)) := by
  have hI : ZI (up2 I 17 0 (nI 1)) 18 := ZI_up (hI0.mono (by omega)) (by omega)
  have u0 := W_iu L 18 q I l 17 0 (nI 1)
  unfold F_Ca_init F_Ca_init_33
  rw [wk_W (by omega), ktCa.1, gk rfl]
  (try dsimp only)
  rw [show (1 : Int32) = nI 1 from rfl, u0]
  obtain ⟨J, hJ⟩ : ∃ J, up2 I 17 0 (nI 1) = J := ⟨_, rfl⟩
  unfold I1
  rw [hJ] at hI ⊢
  simp (disch := first | omega | decide +kernel | exact ZI.mono hI (by omega) | exact ZI_rI (ZI.mono hI (by omega)) (by omega) | (repeat (first | exact FL.mono hf (by omega) | refine FL_c (by omega) ?_))) only [wz_W, wq_W, wk_W, grd, grb, grq, gk, W_new, W_r, bd_s, wr_W, Rl_eq, Rl_ne, ktCa.1, C_fill (N := 8), Nat.reduceAdd, Nat.add_assoc]
  rfl
/-- diaries, sayings, almanacs -/
theorem C_Di {L q c : Nat} {I : Nat → Nat → Int32} {l : List (Nat × Nat × Nat)} (h16 : 16 ≤ c) (k0 : KTab.getD c 0 = 3) (k1 : KTab.getD (c + 1) 0 = 100) (n1 : NTab.getD (c + 1) 0 = 1461) (hI : ZI I (c + 1)) (hf : FL l (c + 1)) : F_Di_init c (Wc L (c + 1) q I l) = some (Wc L (c + 2) (q + 1461) I ((c, 0, c + 1) :: l)) := by
  unfold F_Di_init
  rw [wk_W (by omega), k0, gk rfl, wz_W, wq_W, grd (by omega) (by omega)]
  (try dsimp only)
  rw [W_new (by omega) k1 n1 hI hf, wk_W (by omega), k0, gk rfl, W_r]
  (try dsimp only)
  rw [wz_W, wq_W, grq rfl rfl]
theorem C_Al {L q c : Nat} {I : Nat → Nat → Int32} {l : List (Nat × Nat × Nat)} (h16 : 16 ≤ c) (k0 : KTab.getD c 0 = 11) (k1 : KTab.getD (c + 1) 0 = 8 ∧ NTab.getD (c + 1) 0 = 0) (k2 : KTab.getD (c + 2) 0 = 101 ∧ NTab.getD (c + 2) 0 = 23) (k3 : KTab.getD (c + 3) 0 = 8 ∧ NTab.getD (c + 3) 0 = 0) (k4 : KTab.getD (c + 4) 0 = 101 ∧ NTab.getD (c + 4) 0 = 23) (hI : ZI I c) (hf : FL l (c + 1)) : F_Al_init c (Wc L (c + 1) q I l) = some (Wc L (c + 5) (q + 48) I ((c, 2, c + 3) :: (c + 3, 0, c + 4) :: (c, 1, c + 1) :: (c + 1, 0, c + 2) :: l)) := by
  unfold F_Al_init
  rw [wk_W (by omega), k0, gk rfl, l_0]
  (try dsimp only)
  rw [W_i0 hI (by omega), wz_W, wq_W, grd (by omega) (by omega)]
  (try dsimp only)
  rw [W_new (k := 8) (n := 0) (by omega) k1.1 k1.2 (hI.mono (by omega)) hf, wz_W, wq_W, grb (by omega) (by omega), C_Dy (by omega) rfl k1.1 k2.1 k2.2 (hI.mono (by omega)) (hf.mono (by omega)), bd_s, wz_W, wq_W, grq rfl rfl, wk_W (by omega), k0, gk rfl, W_r]
  (try dsimp only)
  rw [wz_W, wq_W, grd (by omega) (by omega)]
  (try dsimp only)
  have hf2 : FL ((c, 1, c + 1) :: (c + 1, 0, c + 1 + 1) :: l) (c + 1 + 1 + 1) := FL_c (by omega) (FL_c (by omega) (hf.mono (by omega)))
  rw [W_new (k := 8) (n := 0) (by omega) k3.1 k3.2 (hI.mono (by omega)) hf2, wz_W, wq_W, grb (by omega) (by omega), C_Dy (by omega) rfl k3.1 k4.1 k4.2 (hI.mono (by omega)) (hf2.mono (by omega)), bd_s, wz_W, wq_W, grq rfl rfl, wk_W (by omega), k0, gk rfl, W_r]
  (try dsimp only)
  rw [wz_W, wq_W, grq rfl (by omega)]
