/-! PURE: the constructors: the world as its tables tell, so far as it is made -/
def Rl : List (Nat × Nat × Nat) → Nat → Nat → Nat
  | [] => fun _ _ => 0
  | p :: l => up2 (Rl l) p.1 p.2.1 p.2.2
def Wc (L z q : Nat) (I : Nat → Nat → Int32) (l : List (Nat × Nat × Nat)) : AW := (z, q, fun a => if a < z then KTab.getD a 0 else 0, fun a => if a = 1 then L else if a < z then NTab.getD a 0 else 0, I, fun _ _ => 0, Rl l)
def FL (l : List (Nat × Nat × Nat)) (z : Nat) : Prop := ∀ p, p ∈ l → p.1 < z
theorem FL.mono {l : List (Nat × Nat × Nat)} {y z : Nat} (h : FL l y) (hz : y ≤ z) : FL l z := fun p hp => by have := h p hp; omega
theorem FL_c {l : List (Nat × Nat × Nat)} {z a i x : Nat} (ha : a < z) (h : FL l z) : FL ((a, i, x) :: l) z := by
  intro p hp
  rcases List.mem_cons.mp hp with e | e
  · rw [e]; exact ha
  · exact h p e
theorem Rl_fl {z : Nat} (j : Nat) : ∀ {l : List (Nat × Nat × Nat)}, FL l z → Rl l z j = 0
  | [], _ => rfl
  | p :: l, h => by
    show (if z = p.1 ∧ j = p.2.1 then p.2.2 else Rl l z j) = 0
    have := h p List.mem_cons_self
    rw [if_neg (by omega)]
    exact Rl_fl j (fun q hq => h q (List.mem_cons_of_mem _ hq))
def ZI (I : Nat → Nat → Int32) (z : Nat) : Prop := ∀ a i, z ≤ a → I a i = nI 0
theorem ZI.mono {I : Nat → Nat → Int32} {y z : Nat} (h : ZI I y) (hz : y ≤ z) : ZI I z := fun a i ha => h a i (by omega)
section
variable {L z q k n c : Nat} {I : Nat → Nat → Int32} {l : List (Nat × Nat × Nat)}
theorem wz_W : wz (Wc L z q I l) = z := rfl
theorem wq_W : wq (Wc L z q I l) = q := rfl
theorem wk_W {a : Nat} (h : a < z) : wk (Wc L z q I l) a = KTab.getD a 0 := if_pos h
theorem wn_W {a : Nat} (h : a < z) (h1 : a ≠ 1) : wn (Wc L z q I l) a = NTab.getD a 0 := (if_neg h1).trans (if_pos h)
theorem wi_W (a i : Nat) : wi (Wc L z q I l) a i = I a i := rfl
theorem wr_W (a i : Nat) : wr (Wc L z q I l) a i = Rl l a i := rfl
theorem Rl_c (a i x b j : Nat) : Rl ((a, i, x) :: l) b j = if b = a ∧ j = i then x else Rl l b j := rfl
theorem Rl_ne {a i x b j : Nat} (h : ¬ (b = a ∧ j = i)) : Rl ((a, i, x) :: l) b j = Rl l b j := if_neg h
theorem Rl_eq (a i x : Nat) : Rl ((a, i, x) :: l) a i = x := if_pos ⟨rfl, rfl⟩
theorem W_r (a i x : Nat) : upR (Wc L z q I l) a i x = Wc L z q I ((a, i, x) :: l) := rfl
/-- a zero written where a zero is -/
theorem W_i0 {a i : Nat} (hI : ZI I z) (hz : z ≤ a) {y p : Nat} {m : List (Nat × Nat × Nat)} : upI (Wc L y p I m) a i (nI 0) = Wc L y p I m := by
  refine aw_ext rfl rfl (fun _ => rfl) (fun _ => rfl) (fun b j => ?_) (fun _ _ => rfl) (fun _ _ => rfl)
  rw [wi_upI]
  by_cases h : b = a ∧ j = i
  · rw [if_pos h, h.1, h.2]; exact (hI a i hz).symm
  · rw [if_neg h]
theorem W_new (h16 : 16 ≤ z) (hk : KTab.getD z 0 = k) (hn : NTab.getD z 0 = n) (hI : ZI I z) (hf : FL l z) : wnew (Wc L z q I l) k n c = Wc L (z + 1) (q + c) I l := by
  refine aw_ext rfl rfl (fun b => ?_) (fun b => ?_) (fun b j => ?_) (fun b j => ?_) (fun b j => ?_)
  · show (if b = z then k else if b < z then KTab.getD b 0 else 0) = if b < z + 1 then KTab.getD b 0 else 0
    by_cases h : b = z
    · rw [if_pos h, if_pos (by omega), h, hk]
    · rw [if_neg h]
      by_cases h2 : b < z
      · rw [if_pos h2, if_pos (by omega)]
      · rw [if_neg h2, if_neg (by omega)]
  · show (if b = z then n else if b = 1 then L else if b < z then NTab.getD b 0 else 0) = if b = 1 then L else if b < z + 1 then NTab.getD b 0 else 0
    by_cases h : b = z
    · rw [if_pos h, if_neg (by omega), if_pos (by omega), h, hn]
    · rw [if_neg h]
      by_cases h1 : b = 1
      · rw [if_pos h1, if_pos h1]
      · rw [if_neg h1, if_neg h1]
        by_cases h2 : b < z
        · rw [if_pos h2, if_pos (by omega)]
        · rw [if_neg h2, if_neg (by omega)]
  · show (if b = z then (0 : Int32) else I b j) = I b j
    by_cases h : b = z
    · rw [if_pos h, hI b j (by omega)]; rfl
    · rw [if_neg h]
  · show (if b = z then (0 : Int64) else 0) = 0
    split <;> rfl
  · show (if b = z then 0 else Rl l b j) = Rl l b j
    by_cases h : b = z
    · rw [if_pos h, h, Rl_fl j hf]
    · rw [if_neg h]
theorem grd {α : Type} {a b c d : Nat} {x : Option α} (h1 : a < b) (h2 : c ≤ d) : gd (Nat.blt a b && Nat.ble c d) x = x := gd_t (by rw [Nat.blt_eq.mpr h1, Nat.ble_eq.mpr h2]; rfl)
theorem grb {α : Type} {a b c d : Nat} {x : Option α} (h1 : a ≤ b) (h2 : c ≤ d) : gd (Nat.ble a b && Nat.ble c d) x = x := gd_t (by rw [Nat.ble_eq.mpr h1, Nat.ble_eq.mpr h2]; rfl)
theorem grq {α : Type} {a b c d : Nat} {x : Option α} (h1 : a = b) (h2 : c = d) : gd (a == b && c == d) x = x := gd_t (by rw [h1, h2]; simp)
theorem gk {α : Type} {a b : Nat} {x : Option α} (h1 : a = b) : gd (a == b) x = x := gd_t (by rw [h1]; simp)
/-- days -/
theorem C_Dy (h16 : 16 ≤ c) (hz : z = c + 1) (k0 : KTab.getD c 0 = 8) (k1 : KTab.getD z 0 = 101) (n1 : NTab.getD z 0 = 23) (hI : ZI I z) (hf : FL l z) : F_Dy_init c (Wc L z q I l) = some (Wc L (z + 1) (q + 23) I ((c, 0, z) :: l)) := by
  unfold F_Dy_init
  rw [wk_W (by omega), k0, gk rfl, wz_W, wq_W, grd (by omega) (by omega)]
  (try dsimp only)
  rw [W_new (by omega) k1 n1 hI hf, wk_W (by omega), k0, gk rfl, W_r]
  (try dsimp only)
  rw [wz_W, wq_W, grq rfl rfl]
theorem C_Co (h16 : 16 ≤ c) (hz : z = c + 1) (k0 : KTab.getD c 0 = 6) (k1 : KTab.getD z 0 = 102) (n1 : NTab.getD z 0 = 80) (k2 : KTab.getD (z + 1) 0 = 103) (n2 : NTab.getD (z + 1) 0 = 80) (hI : ZI I z) (hf : FL l z) : F_Co_init c (Wc L z q I l) = some (Wc L (z + 2) (q + 160) I ((c, 1, z + 1) :: (c, 0, z) :: l)) := by
  unfold F_Co_init
  rw [wk_W (by omega), k0, gk rfl, wz_W, wq_W, grd (by omega) (by omega)]
  (try dsimp only)
  rw [W_new (by omega) k1 n1 hI hf, wk_W (by omega), k0, gk rfl, W_r]
  (try dsimp only)
  rw [wz_W, wq_W, grd (by omega) (by omega), W_new (by omega) k2 n2 (hI.mono (by omega)) (FL_c (by omega) (hf.mono (by omega))), wk_W (by omega), k0, gk rfl, W_r]
  (try dsimp only)
  rw [wz_W, wq_W, grq rfl rfl]
def TSa (s : Nat) : Prop := KTab.getD s 0 = 5 ∧ KTab.getD (s + 1) 0 = 6 ∧ NTab.getD (s + 1) 0 = 0 ∧ KTab.getD (s + 2) 0 = 102 ∧ NTab.getD (s + 2) 0 = 80 ∧ KTab.getD (s + 3) 0 = 103 ∧ NTab.getD (s + 3) 0 = 80 ∧ KTab.getD (s + 4) 0 = 6 ∧ NTab.getD (s + 4) 0 = 0 ∧ KTab.getD (s + 5) 0 = 102 ∧ NTab.getD (s + 5) 0 = 80 ∧ KTab.getD (s + 6) 0 = 103 ∧ NTab.getD (s + 6) 0 = 80
def lSa (s : Nat) (l : List (Nat × Nat × Nat)) : List (Nat × Nat × Nat) := (s, 1, s + 4) :: (s + 4, 1, s + 6) :: (s + 4, 0, s + 5) :: (s, 0, s + 1) :: (s + 1, 1, s + 3) :: (s + 1, 0, s + 2) :: l
theorem C_Sa {s : Nat} (h16 : 16 ≤ s) (t : TSa s) (hI : ZI I (s + 1)) (hf : FL l (s + 1)) : F_Sa_init s (Wc L (s + 1) q I l) = some (Wc L (s + 7) (q + 332) I (lSa s l)) := by
  obtain ⟨t0, t1, m1, t2, m2, t3, m3, t4, m4, t5, m5, t6, m6⟩ := t
  unfold F_Sa_init
  rw [wk_W (by omega), t0, gk rfl, wz_W, wq_W, grd (by omega) (by omega)]
  (try dsimp only)
  rw [W_new (by omega) t1 m1 hI hf, wz_W, wq_W, grb (by omega) (by omega), C_Co (by omega) rfl t1 t2 m2 t3 m3 (hI.mono (by omega)) (hf.mono (by omega)), bd_s, wz_W, wq_W, grq rfl rfl, wk_W (by omega), t0, gk rfl, W_r]
  (try dsimp only)
  rw [wz_W, wq_W, grd (by omega) (by omega), W_new (k := 6) (by omega) t4 m4 (hI.mono (by omega)) (FL_c (by omega) (FL_c (by omega) (FL_c (by omega) (hf.mono (by omega))))), wz_W, wq_W, grb (by omega) (by omega), C_Co (by omega) rfl t4 t5 m5 t6 m6 (hI.mono (by omega)) (FL_c (by omega) (FL_c (by omega) (FL_c (by omega) (hf.mono (by omega))))), bd_s, wz_W, wq_W, grq rfl rfl, wk_W (by omega), t0, gk rfl, W_r]
  (try dsimp only)
  rw [wz_W, wq_W, grq (by omega) (by omega)]
  rfl
end
