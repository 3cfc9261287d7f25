/-! PURE: letters -/
/-- a letter of a long -/
def byt (x : Int64) (i : Nat) : Nat := (lshr6 x (nI (8 * i)) &&& 255).toBitVec.toNat
theorem and255 (x : Int64) : (x &&& 255).toBitVec.toNat ≤ 255 := by
  rw [Int64.toBitVec_and, BitVec.toNat_and]
  exact Nat.and_le_right
theorem byt_le (x : Int64) (i : Nat) : byt x i ≤ 255 := and255 _
theorem and255_32 (x : Int64) : Int64.toInt32 (x &&& 255) = nI (x &&& 255).toBitVec.toNat := by
  have h := and255 x
  apply Int32.toInt.inj
  rw [Int64.toInt_toInt32, nI_toInt (by omega)]
  have e : (x &&& 255).toInt = ((x &&& 255).toBitVec.toNat : Int) := BitVec.toInt_eq_toNat_of_lt (by omega)
  rw [e]
  exact Int.bmod_eq_of_le (by omega) (by omega)
theorem A_letterIn (x : Int64) {i : Nat} (hi : i < 8) : F_Pg_letterIn x (nI i) = nI (byt x i) := by
  unfold F_Pg_letterIn
  simp only [qL, ↓qM, pk_mul]
  exact and255_32 _
/-- how many letters stand before the i-th place -/
def cz (x : Int64) (i : Nat) : Nat := cnt (fun j => decide (byt x j ≠ 0)) i
def okL1 (x : Int64) (i : Nat) : Bool := decide (byt x i ≤ 126) && (decide (byt x i = 0) || decide (cz x i = i))
def okB (x : Int64) : Nat → Bool
  | 0 => true
  | n + 1 => okB x n && okL1 x n
theorem okB_le (x : Int64) {n : Nat} (h : okB x n = false) : ∀ m, n ≤ m → okB x m = false := by
  intro m hm
  induction m with
  | zero => obtain rfl : n = 0 := by omega
            exact h
  | succ m ih =>
    by_cases e : n = m + 1
    · rw [← e]; exact h
    · unfold okB; rw [ih (by omega)]; rfl
theorem okB_in {x : Int64} {m : Nat} (h : okB x m = true) : ∀ n, n < m → okL1 x n = true := by
  intro n hn
  cases hq : okL1 x n
  · have := okB_le x (n := n + 1) (by unfold okB; rw [hq, Bool.and_false]) m hn
    rw [this] at h; cases h
  · rfl
theorem cz_le (x : Int64) (i : Nat) : cz x i ≤ i := cnt_le _ _
theorem cz_s (x : Int64) (i : Nat) : cz x (i + 1) = cz x i + (if byt x i = 0 then 0 else 1) := by
  unfold cz
  rw [cnt_s]
  by_cases h : byt x i = 0
  · rw [if_pos h, if_neg (by simp [h])]
  · rw [if_neg h, if_pos (by simp [h])]
/-- the letters that are counted are letters -/
theorem byt_in {x : Int64} (h : okB x 8 = true) {t : Nat} (ht : t < cz x 8) : t < 8 ∧ 1 ≤ byt x t ∧ byt x t ≤ 126 := by
  have h8 := cz_le x 8
  have hk := okB_in h t (by omega)
  unfold okL1 at hk
  simp only [Bool.and_eq_true, decide_eq_true_iff] at hk
  refine ⟨by omega, ?_, hk.1⟩
  by_cases h0 : byt x t = 0
  · exfalso
    have key : ∀ m, t + 1 ≤ m → m ≤ 8 → cz x m ≤ t := by
      intro m hm
      induction m with
      | zero => omega
      | succ m ih =>
        intro h8
        rw [cz_s]
        by_cases e : t = m
        · subst e
          have := cz_le x t
          rw [if_pos h0]; omega
        · have hc := ih (by omega) (by omega)
          have hk := okB_in h m (by omega)
          unfold okL1 at hk
          simp only [Bool.and_eq_true, Bool.or_eq_true, decide_eq_true_iff] at hk
          have : byt x m = 0 := by rcases hk.2 with q | q; exact q; omega
          rw [if_pos this]; omega
    have := key 8 (by omega) (by omega)
    omega
  · omega
theorem A_lettersIn (w : AW) (x : Int64) : F_Pg_lettersIn w x = some (if okB x 8 = true then nI (cz x 8) else mI 1) := by
  have loop : ∀ k fu i, i + k = 8 → k < fu → okB x i = true → F_Pg_lettersIn_7 w fu x (nI (cz x i)) (nI (if cz x i = i then 0 else 1)) (nI i) = some (if okB x 8 = true then nI (cz x 8) else mI 1) := by
    intro k
    induction k with
    | zero =>
      intro fu i hi hf ho
      obtain ⟨fu, rfl⟩ : ∃ m, fu = m + 1 := ⟨fu - 1, by omega⟩
      obtain rfl : i = 8 := by omega
      show F_Pg_lettersIn_7_B (F_Pg_lettersIn_7 w fu) w _ _ _ _ = _
      unfold F_Pg_lettersIn_7_B
      simp (disch := omega) only [qL, ↓qM, q_le]
      rw [if_pos (Nat.le_refl _), if_pos ho]
    | succ k ih =>
      intro fu i hi hf ho
      obtain ⟨fu, rfl⟩ : ∃ m, fu = m + 1 := ⟨fu - 1, by omega⟩
      have hb := byt_le x i
      have hc := cz_le x i
      show F_Pg_lettersIn_7_B (F_Pg_lettersIn_7 w fu) w _ _ _ _ = _
      have h40 : okL1 x i = true → F_Pg_lettersIn_40 (F_Pg_lettersIn_7 w fu) w x (nI (cz x i)) (nI (if cz x i = i then 0 else 1)) (nI i) (nI (byt x i)) = some (if okB x 8 = true then nI (cz x 8) else mI 1) := by
        intro hk
        have h := ih fu (i + 1) (by omega) (by omega) (by unfold okB; rw [ho, hk]; rfl)
        rw [cz_s] at h
        unfold okL1 at hk
        simp only [Bool.and_eq_true, Bool.or_eq_true, decide_eq_true_iff] at hk
        unfold F_Pg_lettersIn_40
        simp (disch := omega) only [qL, ↓qM, q_eq, nI_add]
        by_cases h0 : byt x i = 0
        · rw [if_pos h0] at h ⊢
          rw [if_neg (show ¬ cz x i + 0 = i + 1 by omega)] at h
          exact h
        · rw [if_neg h0] at h ⊢
          have e : cz x i = i := by rcases hk.2 with q | q; exact absurd q h0; exact q
          rw [if_pos (show cz x i + 1 = i + 1 by omega)] at h
          rw [if_pos e]
          exact h
      have hno : okL1 x i = false → okB x 8 = false := fun q => okB_le x (n := i + 1) (by unfold okB; rw [q, Bool.and_false]) 8 (by omega)
      unfold F_Pg_lettersIn_7_B
      simp (disch := omega) only [qL, ↓qM, q_le, A_letterIn x (show i < 8 by omega), q_lt, q_eq]
      rw [if_neg (by omega)]
      by_cases h1 : 126 < byt x i
      · rw [if_pos h1, hno (by unfold okL1; rw [decide_eq_false (by omega)]; rfl)]
        rfl
      · rw [if_neg h1]
        by_cases h2 : cz x i = i
        · rw [if_pos h2, if_pos rfl]
          rw [if_pos h2] at h40
          exact h40 (by unfold okL1; simp [h2]; omega)
        · rw [if_neg h2, if_neg (show ¬ nI 1 = nI 0 by decide +kernel)]
          rw [if_neg h2] at h40
          by_cases h3 : byt x i = 0
          · rw [if_pos h3]
            exact h40 (by unfold okL1; simp [h3])
          · rw [if_neg h3, hno (by unfold okL1; simp [h2, h3])]
            rfl
  exact loop 8 FUEL 0 (by omega) (by decide) rfl
/-- the long behind some shifts -/
def shf8 (x : Int64) : Nat → Int64
  | 0 => x
  | i + 1 => lshr6 (shf8 x i) (nI 8)
theorem shf8_bt (x : Int64) : ∀ i j, bt (shf8 x i) j = bt x (8 * i + j)
  | 0, j => by rw [Nat.mul_zero, Nat.zero_add]; rfl
  | i + 1, j => by
    show bt (lshr6 (shf8 x i) (nI 8)) j = _
    rw [bt_shr _ _ (by omega), shf8_bt x i, show 8 * i + (8 + j) = 8 * (i + 1) + j by omega]
theorem shf8_eq (x : Int64) {i : Nat} (hi : i < 8) : shf8 x i = lshr6 x (nI (8 * i)) := bt_ext (fun j _ => by rw [shf8_bt, bt_shr _ _ (by omega)])
theorem M_letters_11 {L : Nat} {xs : Nat → Int32} {S : Nat → Nat → Int32} {u : AW} (T : Top L xs u) (R : RA S u) (x : Int64) : F_M_letters 271 x u = (if okB x 8 = true then (if S 0 9 + nI (cz x 8) ≤ nI 80 then F_M_letters_108 FUEL 271 x (nI (cz x 8)) (nI 0) u else some (mI 104, u)) else some (mI 102, u)) := by
  have loop : ∀ k fu i, i + k = 8 → k < fu → F_M_letters_11 fu 271 x (nI (cz x i)) (shf8 x i) (nI (if okB x i = true then 1 else 0)) (nI i) u = (if okB x 8 = true then (if S 0 9 + nI (cz x 8) ≤ nI 80 then F_M_letters_108 FUEL 271 x (nI (cz x 8)) (nI 0) u else some (mI 104, u)) else some (mI 102, u)) := by
    intro k
    induction k with
    | zero =>
      intro fu i hi hf
      obtain ⟨fu, rfl⟩ : ∃ m, fu = m + 1 := ⟨fu - 1, by omega⟩
      obtain rfl : i = 8 := by omega
      show F_M_letters_11_B (F_M_letters_11 fu) _ _ _ _ _ _ u = _
      unfold F_M_letters_11_B
      simp (disch := omega) only [qL, ↓qM, q_le, mK T, rf9 R, gd_true, beq_self_eq_true, bd_s, if_true, if_false, ↓reduceIte, ite_true, ite_false, Bool.and_self, Bool.and_true, Bool.true_and, Nat.reduceBEq, Bool.or_true, Bool.true_or, Bool.or_self]
      rw [if_pos (Nat.le_refl _)]
      by_cases ho : okB x 8 = true
      · rw [if_pos ho, if_pos ho, if_neg (show ¬ nI 1 = nI 0 by decide +kernel)]
      · rw [if_neg ho, if_neg ho, if_pos rfl]
    | succ k ih =>
      intro fu i hi hf
      obtain ⟨fu, rfl⟩ : ∃ m, fu = m + 1 := ⟨fu - 1, by omega⟩
      have hb := byt_le x i
      have hc := cz_le x i
      have h := ih fu (i + 1) (by omega) (by omega)
      have e32 : Int64.toInt32 (shf8 x i &&& 255) = nI (byt x i) := by rw [shf8_eq x (by omega), and255_32]; rfl
      have h62 : ∀ s0 : Nat, s0 = (if okB x (i + 1) = true then 1 else 0) → F_M_letters_62 (F_M_letters_11 fu) 271 x (nI (cz x i)) (lshr6 (shf8 x i) (nI 8)) (nI i) (nI (byt x i)) (nI s0) u = (if okB x 8 = true then (if S 0 9 + nI (cz x 8) ≤ nI 80 then F_M_letters_108 FUEL 271 x (nI (cz x 8)) (nI 0) u else some (mI 104, u)) else some (mI 102, u)) := by
        intro s0 hs
        rw [cz_s, ← hs] at h
        unfold F_M_letters_62
        simp (disch := omega) only [qL, ↓qM, q_le, nI_add]
        by_cases h0 : byt x i = 0
        · rw [if_pos h0] at h
          rw [if_pos (by omega)]
          exact h
        · rw [if_neg h0] at h
          rw [if_neg (by omega)]
          exact h
      show F_M_letters_11_B (F_M_letters_11 fu) _ _ _ _ _ _ u = _
      unfold F_M_letters_11_B
      simp (disch := omega) only [qL, ↓qM, q_le, e32, q_lt, q_eq]
      rw [if_neg (by omega)]
      by_cases ho : okB x i = true
      · rw [if_pos ho, if_neg (show ¬ nI 1 = nI 0 by decide +kernel)]
        by_cases h1 : 126 < byt x i
        · rw [if_pos h1]
          exact h62 0 (by rw [if_neg]; unfold okB okL1; rw [decide_eq_false (by omega : ¬ byt x i ≤ 126)]; simp)
        · rw [if_neg h1]
          by_cases h2 : byt x i = 0
          · rw [if_pos h2]
            exact h62 1 (by rw [if_pos]; unfold okB okL1; rw [ho]; simp [h2])
          · rw [if_neg h2]
            by_cases h3 : cz x i = i
            · rw [if_pos h3]
              exact h62 1 (by rw [if_pos]; unfold okB okL1; rw [ho]; simp [h3]; omega)
            · rw [if_neg h3]
              exact h62 0 (by rw [if_neg]; unfold okB okL1; simp [h2, h3])
      · rw [if_neg ho, if_pos rfl]
        exact h62 0 (by rw [if_neg]; unfold okB; simp [ho])
  exact loop 8 FUEL 0 (by omega) (by decide)
