/-! PURE: sets of days -/
def bt (x : Int64) (j : Nat) : Bool := x.toBitVec.getLsbD j
theorem bt_and (x y : Int64) (j : Nat) : bt (x &&& y) j = (bt x j && bt y j) := by unfold bt; rw [Int64.toBitVec_and, BitVec.getLsbD_and]
theorem bt_or (x y : Int64) (j : Nat) : bt (x ||| y) j = (bt x j || bt y j) := by unfold bt; rw [Int64.toBitVec_or, BitVec.getLsbD_or]
theorem bt_xor (x y : Int64) (j : Nat) : bt (x ^^^ y) j = (bt x j ^^ bt y j) := by unfold bt; rw [Int64.toBitVec_xor, BitVec.getLsbD_xor]
theorem bt_m1 {j : Nat} (h : j < 64) : bt (-1) j = true := by
  unfold bt
  rw [show (-1 : Int64).toBitVec = BitVec.allOnes 64 from by decide +kernel, BitVec.getLsbD_allOnes]
  simpa using h
theorem bt_not (x : Int64) {j : Nat} (h : j < 64) : bt (x ^^^ (-1)) j = !bt x j := by rw [bt_xor, bt_m1 h]; simp
theorem bt_0 (j : Nat) : bt 0 j = false := by unfold bt; simp
theorem bt_ge (x : Int64) {j : Nat} (h : 64 ≤ j) : bt x j = false := BitVec.getLsbD_of_ge _ _ h
theorem bt_ext {x y : Int64} (h : ∀ j, j < 64 → bt x j = bt y j) : x = y := Int64.toBitVec_inj.mp (BitVec.eq_of_getLsbD_eq h)
def ofB (p : Nat → Bool) : Nat → Nat
  | 0 => 0
  | k + 1 => 2 ^ k * (p k).toNat + ofB p k
theorem ofB_lt (p : Nat → Bool) : ∀ k, ofB p k < 2 ^ k
  | 0 => by show 0 < 1; omega
  | k + 1 => by
    show 2 ^ k * (p k).toNat + ofB p k < 2 ^ (k + 1)
    have := ofB_lt p k
    rw [Nat.pow_succ]
    cases p k <;> simp <;> omega
theorem ofB_bit (p : Nat → Bool) (j : Nat) : ∀ k, (ofB p k).testBit j = (decide (j < k) && p j)
  | 0 => by show Nat.testBit 0 j = _; simp
  | k + 1 => by
    show (2 ^ k * (p k).toNat + ofB p k).testBit j = _
    rw [Nat.testBit_two_pow_mul_add _ (ofB_lt p k)]
    by_cases h : j < k
    · rw [if_pos h, ofB_bit p j k]; simp [h, Nat.lt_succ_of_lt h]
    · rw [if_neg h]
      by_cases h2 : j = k
      · subst h2; cases p j <;> simp
      · have : 0 < j - k := by omega
        rw [decide_eq_false (by omega : ¬ j < k + 1)]
        cases p k
        · simp
        · obtain ⟨m, hm⟩ : ∃ m, j - k = m + 1 := ⟨j - k - 1, by omega⟩
          rw [hm]; simp [Nat.testBit_succ]
def wd (P : Nat → Bool) (i : Nat) : Int64 := Int64.ofBitVec (BitVec.ofNat 64 (ofB (fun j => decide (64 * i + j < 1461) && P (64 * i + j)) 64))
theorem bt_wd (P : Nat → Bool) (i : Nat) {j : Nat} (h : j < 64) : bt (wd P i) j = (decide (64 * i + j < 1461) && P (64 * i + j)) := by
  unfold bt wd
  rw [Int64.toBitVec_ofBitVec, BitVec.getLsbD_ofNat, ofB_bit]
  simp [h]
/-- a set of days at this address -/
def TD (w : AW) (a : Nat) : Prop := wk w a = 8 ∧ wr w a 0 = a + 1 ∧ wk w (a + 1) = 101 ∧ wn w (a + 1) = 23
def gD (w : AW) (a n : Nat) : Bool := decide (n < 1461) && bt (wj w (a + 1) (n / 64)) (n % 64)
/-- nothing behind the last day -/
def WF (w : AW) (a : Nat) : Prop := ∀ j, 53 ≤ j → bt (wj w (a + 1) 22) j = false
def setD (w : AW) (a : Nat) (P : Nat → Bool) : AW := rowJ w (a + 1) (fun i => if i < 23 then wd P i else wj w (a + 1) i)
theorem wz_setD (w : AW) (a : Nat) (P : Nat → Bool) : wz (setD w a P) = wz w := rfl
theorem wq_setD (w : AW) (a : Nat) (P : Nat → Bool) : wq (setD w a P) = wq w := rfl
theorem wk_setD (w : AW) (a : Nat) (P : Nat → Bool) (b : Nat) : wk (setD w a P) b = wk w b := rfl
theorem wn_setD (w : AW) (a : Nat) (P : Nat → Bool) (b : Nat) : wn (setD w a P) b = wn w b := rfl
theorem wi_setD (w : AW) (a : Nat) (P : Nat → Bool) (b j : Nat) : wi (setD w a P) b j = wi w b j := rfl
theorem wr_setD (w : AW) (a : Nat) (P : Nat → Bool) (b j : Nat) : wr (setD w a P) b j = wr w b j := rfl
theorem wj_setD (w : AW) (a : Nat) (P : Nat → Bool) (b j : Nat) : wj (setD w a P) b j = if b = a + 1 then (if j < 23 then wd P j else wj w (a + 1) j) else wj w b j := rfl
theorem wj_setD_ne (w : AW) (a : Nat) (P : Nat → Bool) {b : Nat} (h : b ≠ a + 1) (j : Nat) : wj (setD w a P) b j = wj w b j := by rw [wj_setD, if_neg h]
theorem TD_setD {w : AW} {b : Nat} (a : Nat) (P : Nat → Bool) (h : TD w b) : TD (setD w a P) b := h
theorem gD_setD (w : AW) (a : Nat) (P : Nat → Bool) (b n : Nat) : gD (setD w a P) b n = if b = a then (decide (n < 1461) && P n) else gD w b n := by
  unfold gD
  rw [wj_setD]
  by_cases h : b = a
  · rw [if_pos (by omega), if_pos h]
    by_cases hn : n < 1461
    · rw [if_pos (by omega), bt_wd _ _ (by omega), show 64 * (n / 64) + n % 64 = n by omega]
      simp [hn]
    · simp [hn]
  · rw [if_neg (by omega), if_neg h]
theorem gD_eq (w : AW) (a : Nat) (P : Nat → Bool) {n : Nat} (h : n < 1461) : gD (setD w a P) a n = P n := by rw [gD_setD, if_pos rfl]; simp [h]
theorem gD_ne (w : AW) (a : Nat) (P : Nat → Bool) {b : Nat} (h : b ≠ a) (n : Nat) : gD (setD w a P) b n = gD w b n := by rw [gD_setD, if_neg h]
theorem gD_ge (w : AW) (a : Nat) {n : Nat} (h : 1461 ≤ n) : gD w a n = false := by unfold gD; simp; omega
theorem WF_setD {w : AW} {b : Nat} (a : Nat) (P : Nat → Bool) (h : b = a ∨ WF w b) : WF (setD w a P) b := by
  intro j hj
  rw [wj_setD]
  by_cases hb : b = a
  · rw [if_pos (by omega), if_pos (by omega)]
    by_cases h64 : j < 64
    · rw [bt_wd _ _ h64, decide_eq_false (by omega)]; rfl
    · exact bt_ge _ (by omega)
  · rw [if_neg (by omega)]
    rcases h with h | h
    · exact absurd h hb
    · exact h j hj
theorem setD_of_row {w : AW} {a : Nat} {P : Nat → Bool} {f : Nat → Int64} (h : ∀ i, i < 23 → ∀ j, j < 64 → bt (f i) j = (decide (64 * i + j < 1461) && P (64 * i + j))) (h2 : ∀ i, 23 ≤ i → f i = wj w (a + 1) i) : rowJ w (a + 1) f = setD w a P := by
  refine rowJ_ext rfl rfl (fun _ => rfl) (fun _ => rfl) (fun _ _ => rfl) (fun _ _ _ => rfl) (fun _ _ => rfl) (fun i => ?_)
  by_cases hi : i < 23
  · rw [if_pos hi]
    exact bt_ext (fun j hj => by rw [h i hi j hj, bt_wd _ _ hj])
  · rw [if_neg hi, h2 i (by omega)]
theorem wd_congr {P Q : Nat → Bool} (h : ∀ n, n < 1461 → P n = Q n) (i : Nat) : wd P i = wd Q i :=
  bt_ext (fun j hj => by
    rw [bt_wd _ _ hj, bt_wd _ _ hj]
    by_cases hn : 64 * i + j < 1461
    · rw [h _ hn]
    · simp [hn])
theorem setD_congr (w : AW) (a : Nat) {P Q : Nat → Bool} (h : ∀ n, n < 1461 → P n = Q n) : setD w a P = setD w a Q :=
  rowJ_ext rfl rfl (fun _ => rfl) (fun _ => rfl) (fun _ _ => rfl) (fun _ _ _ => rfl) (fun _ _ => rfl) (fun i => by rw [wd_congr h])
theorem setD_setD (w : AW) (a : Nat) (P Q : Nat → Bool) : setD (setD w a P) a Q = setD w a Q := by
  unfold setD
  rw [rowJ_rowJ]
  refine rowJ_ext rfl rfl (fun _ => rfl) (fun _ => rfl) (fun _ _ => rfl) (fun _ _ _ => rfl) (fun _ _ => rfl) (fun i => ?_)
  by_cases hi : i < 23
  · rw [if_pos hi, if_pos hi]
  · rw [if_neg hi, if_neg hi, wj_rowJ, if_pos rfl, if_neg hi]
theorem bt_gD {w : AW} {a : Nat} (h : WF w a) {i j : Nat} (hi : i < 23) (hj : j < 64) : bt (wj w (a + 1) i) j = (decide (64 * i + j < 1461) && gD w a (64 * i + j)) := by
  unfold gD
  rw [show (64 * i + j) / 64 = i by omega, show (64 * i + j) % 64 = j by omega]
  by_cases hn : 64 * i + j < 1461
  · simp [hn]
  · rw [decide_eq_false hn]
    obtain rfl : i = 22 := by omega
    rw [h j (by omega)]; rfl
theorem L_meet (a b : Nat) : ∀ (k fu i : Nat) (w : AW), TD w a → TD w b → i + k = 23 → k < fu → F_Dy_meet_2 fu a b (nI i) w = some (rowJ w (a + 1) (fun j => if i ≤ j ∧ j < 23 then wj w (a + 1) j &&& wj w (b + 1) j else wj w (a + 1) j)) := by
  intro k
  induction k with
  | zero =>
    intro fu i w ha hb hi hf
    obtain ⟨fu, rfl⟩ : ∃ m, fu = m + 1 := ⟨fu - 1, by omega⟩
    show F_Dy_meet_2_B (F_Dy_meet_2 fu) a b (nI i) w = _
    unfold F_Dy_meet_2_B
    simp (disch := omega) only [l_23, q_le]
    rw [if_pos (by omega), rowJ_self]
    intro j
    rw [if_neg (by omega)]
  | succ k ih =>
    intro fu i w ha hb hi hf
    obtain ⟨fu, rfl⟩ : ∃ m, fu = m + 1 := ⟨fu - 1, by omega⟩
    show F_Dy_meet_2_B (F_Dy_meet_2 fu) a b (nI i) w = _
    unfold F_Dy_meet_2_B
    simp (disch := omega) only [qL, ↓qM, q_le, q_inb, q_nat, nI_add, ha.1, ha.2.1, ha.2.2.1, ha.2.2.2, hb.1, hb.2.1, hb.2.2.1, hb.2.2.2, gd_true, beq_self_eq_true, bd_s, if_true, if_false, ↓reduceIte, ite_true, ite_false, Bool.and_self, Bool.and_true, Bool.true_and, Nat.reduceBEq, Bool.or_true, Bool.true_or, Bool.or_self]
    rw [if_neg (by omega), ih _ _ _ (by exact ha) (by exact hb) (by omega) (by omega), rowJ_upJ]
    refine congrArg some (rowJ_ext rfl rfl (fun _ => rfl) (fun _ => rfl) (fun _ _ => rfl) (fun _ _ _ => rfl) (fun _ _ => rfl) (fun j => ?_))
    simp only [wj_upJ]
    by_cases hj : j = i
    · subst hj
      rw [if_neg (by omega : ¬ (j + 1 ≤ j ∧ j < 23)), if_pos (by omega : j ≤ j ∧ j < 23)]; simp
    · by_cases h2 : i ≤ j ∧ j < 23
      · rw [if_pos (by omega : i + 1 ≤ j ∧ j < 23), if_pos h2]; simp [hj]
      · rw [if_neg (by omega : ¬ (i + 1 ≤ j ∧ j < 23)), if_neg h2]; simp [hj]
theorem D_meet {w : AW} {a b : Nat} (ha : TD w a) (hb : TD w b) (wa : WF w a) (wb : WF w b) : F_Dy_meet a b w = some (setD w a (fun n => gD w a n && gD w b n)) := by
  unfold F_Dy_meet
  rw [l_0, L_meet a b 23 FUEL 0 w ha hb (by omega) (by decide)]
  refine congrArg some (setD_of_row (fun i hi j hj => ?_) (fun i hi => ?_))
  · rw [if_pos ⟨Nat.zero_le _, hi⟩]
    simp only [bt_and, bt_or, bt_xor, bt_m1 hj]
    rw [bt_gD wa hi hj, bt_gD wb hi hj]
    by_cases hn : 64 * i + j < 1461
    · simp [hn]
    · simp [hn]
  · rw [if_neg (by omega)]
theorem L_join (a b : Nat) : ∀ (k fu i : Nat) (w : AW), TD w a → TD w b → i + k = 23 → k < fu → F_Dy_join_2 fu a b (nI i) w = some (rowJ w (a + 1) (fun j => if i ≤ j ∧ j < 23 then wj w (a + 1) j ||| wj w (b + 1) j else wj w (a + 1) j)) := by
  intro k
  induction k with
  | zero =>
    intro fu i w ha hb hi hf
    obtain ⟨fu, rfl⟩ : ∃ m, fu = m + 1 := ⟨fu - 1, by omega⟩
    show F_Dy_join_2_B (F_Dy_join_2 fu) a b (nI i) w = _
    unfold F_Dy_join_2_B
    simp (disch := omega) only [l_23, q_le]
    rw [if_pos (by omega), rowJ_self]
    intro j
    rw [if_neg (by omega)]
  | succ k ih =>
    intro fu i w ha hb hi hf
    obtain ⟨fu, rfl⟩ : ∃ m, fu = m + 1 := ⟨fu - 1, by omega⟩
    show F_Dy_join_2_B (F_Dy_join_2 fu) a b (nI i) w = _
    unfold F_Dy_join_2_B
    simp (disch := omega) only [qL, ↓qM, q_le, q_inb, q_nat, nI_add, ha.1, ha.2.1, ha.2.2.1, ha.2.2.2, hb.1, hb.2.1, hb.2.2.1, hb.2.2.2, gd_true, beq_self_eq_true, bd_s, if_true, if_false, ↓reduceIte, ite_true, ite_false, Bool.and_self, Bool.and_true, Bool.true_and, Nat.reduceBEq, Bool.or_true, Bool.true_or, Bool.or_self]
    rw [if_neg (by omega), ih _ _ _ (by exact ha) (by exact hb) (by omega) (by omega), rowJ_upJ]
    refine congrArg some (rowJ_ext rfl rfl (fun _ => rfl) (fun _ => rfl) (fun _ _ => rfl) (fun _ _ _ => rfl) (fun _ _ => rfl) (fun j => ?_))
    simp only [wj_upJ]
    by_cases hj : j = i
    · subst hj
      rw [if_neg (by omega : ¬ (j + 1 ≤ j ∧ j < 23)), if_pos (by omega : j ≤ j ∧ j < 23)]; simp
    · by_cases h2 : i ≤ j ∧ j < 23
      · rw [if_pos (by omega : i + 1 ≤ j ∧ j < 23), if_pos h2]; simp [hj]
      · rw [if_neg (by omega : ¬ (i + 1 ≤ j ∧ j < 23)), if_neg h2]; simp [hj]
theorem D_join {w : AW} {a b : Nat} (ha : TD w a) (hb : TD w b) (wa : WF w a) (wb : WF w b) : F_Dy_join a b w = some (setD w a (fun n => gD w a n || gD w b n)) := by
  unfold F_Dy_join
  rw [l_0, L_join a b 23 FUEL 0 w ha hb (by omega) (by decide)]
  refine congrArg some (setD_of_row (fun i hi j hj => ?_) (fun i hi => ?_))
  · rw [if_pos ⟨Nat.zero_le _, hi⟩]
    simp only [bt_and, bt_or, bt_xor, bt_m1 hj]
    rw [bt_gD wa hi hj, bt_gD wb hi hj]
    by_cases hn : 64 * i + j < 1461
    · simp [hn]
    · simp [hn]
  · rw [if_neg (by omega)]
theorem L_leave (a b : Nat) : ∀ (k fu i : Nat) (w : AW), TD w a → TD w b → i + k = 23 → k < fu → F_Dy_leave_2 fu a b (nI i) w = some (rowJ w (a + 1) (fun j => if i ≤ j ∧ j < 23 then wj w (a + 1) j &&& (wj w (b + 1) j ^^^ (-1)) else wj w (a + 1) j)) := by
  intro k
  induction k with
  | zero =>
    intro fu i w ha hb hi hf
    obtain ⟨fu, rfl⟩ : ∃ m, fu = m + 1 := ⟨fu - 1, by omega⟩
    show F_Dy_leave_2_B (F_Dy_leave_2 fu) a b (nI i) w = _
    unfold F_Dy_leave_2_B
    simp (disch := omega) only [l_23, q_le]
    rw [if_pos (by omega), rowJ_self]
    intro j
    rw [if_neg (by omega)]
  | succ k ih =>
    intro fu i w ha hb hi hf
    obtain ⟨fu, rfl⟩ : ∃ m, fu = m + 1 := ⟨fu - 1, by omega⟩
    show F_Dy_leave_2_B (F_Dy_leave_2 fu) a b (nI i) w = _
    unfold F_Dy_leave_2_B
    simp (disch := omega) only [qL, ↓qM, q_le, q_inb, q_nat, nI_add, ha.1, ha.2.1, ha.2.2.1, ha.2.2.2, hb.1, hb.2.1, hb.2.2.1, hb.2.2.2, gd_true, beq_self_eq_true, bd_s, if_true, if_false, ↓reduceIte, ite_true, ite_false, Bool.and_self, Bool.and_true, Bool.true_and, Nat.reduceBEq, Bool.or_true, Bool.true_or, Bool.or_self]
    rw [if_neg (by omega), ih _ _ _ (by exact ha) (by exact hb) (by omega) (by omega), rowJ_upJ]
    refine congrArg some (rowJ_ext rfl rfl (fun _ => rfl) (fun _ => rfl) (fun _ _ => rfl) (fun _ _ _ => rfl) (fun _ _ => rfl) (fun j => ?_))
    simp only [wj_upJ]
    by_cases hj : j = i
    · subst hj
      rw [if_neg (by omega : ¬ (j + 1 ≤ j ∧ j < 23)), if_pos (by omega : j ≤ j ∧ j < 23)]; simp
    · by_cases h2 : i ≤ j ∧ j < 23
      · rw [if_pos (by omega : i + 1 ≤ j ∧ j < 23), if_pos h2]; simp [hj]
      · rw [if_neg (by omega : ¬ (i + 1 ≤ j ∧ j < 23)), if_neg h2]; simp [hj]
theorem D_leave {w : AW} {a b : Nat} (ha : TD w a) (hb : TD w b) (wa : WF w a) (wb : WF w b) : F_Dy_leave a b w = some (setD w a (fun n => gD w a n && !gD w b n)) := by
  unfold F_Dy_leave
  rw [l_0, L_leave a b 23 FUEL 0 w ha hb (by omega) (by decide)]
  refine congrArg some (setD_of_row (fun i hi j hj => ?_) (fun i hi => ?_))
  · rw [if_pos ⟨Nat.zero_le _, hi⟩]
    simp only [bt_and, bt_or, bt_xor, bt_m1 hj]
    rw [bt_gD wa hi hj, bt_gD wb hi hj]
    by_cases hn : 64 * i + j < 1461
    · simp [hn]
    · simp [hn]
  · rw [if_neg (by omega)]
theorem L_differ (a b : Nat) : ∀ (k fu i : Nat) (w : AW), TD w a → TD w b → i + k = 23 → k < fu → F_Dy_differ_2 fu a b (nI i) w = some (rowJ w (a + 1) (fun j => if i ≤ j ∧ j < 23 then wj w (a + 1) j ^^^ wj w (b + 1) j else wj w (a + 1) j)) := by
  intro k
  induction k with
  | zero =>
    intro fu i w ha hb hi hf
    obtain ⟨fu, rfl⟩ : ∃ m, fu = m + 1 := ⟨fu - 1, by omega⟩
    show F_Dy_differ_2_B (F_Dy_differ_2 fu) a b (nI i) w = _
    unfold F_Dy_differ_2_B
    simp (disch := omega) only [l_23, q_le]
    rw [if_pos (by omega), rowJ_self]
    intro j
    rw [if_neg (by omega)]
  | succ k ih =>
    intro fu i w ha hb hi hf
    obtain ⟨fu, rfl⟩ : ∃ m, fu = m + 1 := ⟨fu - 1, by omega⟩
    show F_Dy_differ_2_B (F_Dy_differ_2 fu) a b (nI i) w = _
    unfold F_Dy_differ_2_B
    simp (disch := omega) only [qL, ↓qM, q_le, q_inb, q_nat, nI_add, ha.1, ha.2.1, ha.2.2.1, ha.2.2.2, hb.1, hb.2.1, hb.2.2.1, hb.2.2.2, gd_true, beq_self_eq_true, bd_s, if_true, if_false, ↓reduceIte, ite_true, ite_false, Bool.and_self, Bool.and_true, Bool.true_and, Nat.reduceBEq, Bool.or_true, Bool.true_or, Bool.or_self]
    rw [if_neg (by omega), ih _ _ _ (by exact ha) (by exact hb) (by omega) (by omega), rowJ_upJ]
    refine congrArg some (rowJ_ext rfl rfl (fun _ => rfl) (fun _ => rfl) (fun _ _ => rfl) (fun _ _ _ => rfl) (fun _ _ => rfl) (fun j => ?_))
    simp only [wj_upJ]
    by_cases hj : j = i
    · subst hj
      rw [if_neg (by omega : ¬ (j + 1 ≤ j ∧ j < 23)), if_pos (by omega : j ≤ j ∧ j < 23)]; simp
    · by_cases h2 : i ≤ j ∧ j < 23
      · rw [if_pos (by omega : i + 1 ≤ j ∧ j < 23), if_pos h2]; simp [hj]
      · rw [if_neg (by omega : ¬ (i + 1 ≤ j ∧ j < 23)), if_neg h2]; simp [hj]
theorem D_differ {w : AW} {a b : Nat} (ha : TD w a) (hb : TD w b) (wa : WF w a) (wb : WF w b) : F_Dy_differ a b w = some (setD w a (fun n => gD w a n ^^ gD w b n)) := by
  unfold F_Dy_differ
  rw [l_0, L_differ a b 23 FUEL 0 w ha hb (by omega) (by decide)]
  refine congrArg some (setD_of_row (fun i hi j hj => ?_) (fun i hi => ?_))
  · rw [if_pos ⟨Nat.zero_le _, hi⟩]
    simp only [bt_and, bt_or, bt_xor, bt_m1 hj]
    rw [bt_gD wa hi hj, bt_gD wb hi hj]
    by_cases hn : 64 * i + j < 1461
    · simp [hn]
    · simp [hn]
  · rw [if_neg (by omega)]
theorem L_fillJ (b : Nat) (x : Int64) : ∀ (k fu i : Nat) (w : AW), wk w b = 101 → wn w b = 23 → i + k = 23 → k < fu → F_Jarr_fill_aJJ_6 fu b x (nI i) (nI 23) w = some (rowJ w b (fun j => if i ≤ j ∧ j < 23 then x else wj w b j)) := by
  intro k
  induction k with
  | zero =>
    intro fu i w h1 h2 hi hf
    obtain ⟨fu, rfl⟩ : ∃ m, fu = m + 1 := ⟨fu - 1, by omega⟩
    show F_Jarr_fill_aJJ_6_B (F_Jarr_fill_aJJ_6 fu) b x (nI i) (nI 23) w = _
    unfold F_Jarr_fill_aJJ_6_B
    simp (disch := omega) only [q_le]
    rw [if_pos (by omega), rowJ_self]
    intro j
    rw [if_neg (by omega)]
  | succ k ih =>
    intro fu i w h1 h2 hi hf
    obtain ⟨fu, rfl⟩ : ∃ m, fu = m + 1 := ⟨fu - 1, by omega⟩
    show F_Jarr_fill_aJJ_6_B (F_Jarr_fill_aJJ_6 fu) b x (nI i) (nI 23) w = _
    unfold F_Jarr_fill_aJJ_6_B
    simp (disch := omega) only [qL, ↓qM, q_le, q_inb, q_nat, nI_add, h1, h2, gd_true, beq_self_eq_true, bd_s, if_true, if_false, ↓reduceIte, ite_true, ite_false, Bool.and_self, Bool.and_true, Bool.true_and, Nat.reduceBEq, Bool.or_true, Bool.true_or, Bool.or_self]
    rw [if_neg (by omega), ih _ _ _ (by exact h1) (by exact h2) (by omega) (by omega), rowJ_upJ]
    refine congrArg some (rowJ_ext rfl rfl (fun _ => rfl) (fun _ => rfl) (fun _ _ => rfl) (fun _ _ _ => rfl) (fun _ _ => rfl) (fun j => ?_))
    simp only [wj_upJ]
    by_cases hj : j = i
    · subst hj
      rw [if_neg (by omega : ¬ (j + 1 ≤ j ∧ j < 23)), if_pos (by omega : j ≤ j ∧ j < 23)]; simp
    · by_cases h2 : i ≤ j ∧ j < 23
      · rw [if_pos (by omega : i + 1 ≤ j ∧ j < 23), if_pos h2]
      · rw [if_neg (by omega : ¬ (i + 1 ≤ j ∧ j < 23)), if_neg h2]; simp [hj]
theorem D_clear {w : AW} {a : Nat} (ha : TD w a) : F_Dy_clear a w = some (setD w a (fun _ => false)) := by
  unfold F_Dy_clear
  rw [gd_t (by rw [ha.1]; rfl), ha.2.1]
  unfold F_Jarr_fill_aJJ
  rw [gd_t (by rw [ha.2.2.1]; rfl), ha.2.2.2]
  show (F_Jarr_fill_aJJ_6 FUEL (a + 1) 0 (nI 0) (nI 23) w).bind _ = _
  rw [L_fillJ (a + 1) 0 23 FUEL 0 w ha.2.2.1 ha.2.2.2 (by omega) (by decide), Option.bind_some]
  refine congrArg some (setD_of_row (fun i hi j hj => ?_) (fun i hi => ?_))
  · rw [if_pos ⟨Nat.zero_le _, hi⟩, bt_0]; simp
  · rw [if_neg (by omega)]
theorem L_turnOver (a : Nat) : ∀ (k fu i : Nat) (w : AW), TD w a → i + k = 23 → k < fu → F_Dy_turnOver_2 fu a (nI i) w = some (rowJ w (a + 1) (fun j => if j = 22 then (if i ≤ 22 then wj w (a + 1) 22 ^^^ (-1) else wj w (a + 1) 22) &&& 9007199254740991 else if i ≤ j ∧ j < 23 then wj w (a + 1) j ^^^ (-1) else wj w (a + 1) j)) := by
  intro k
  induction k with
  | zero =>
    intro fu i w ha hi hf
    obtain ⟨fu, rfl⟩ : ∃ m, fu = m + 1 := ⟨fu - 1, by omega⟩
    show F_Dy_turnOver_2_B (F_Dy_turnOver_2 fu) a (nI i) w = _
    unfold F_Dy_turnOver_2_B
    simp (disch := omega) only [qL, ↓qM, q_le, q_inb, q_nat, nI_add, ha.1, ha.2.1, ha.2.2.1, ha.2.2.2, gd_true, beq_self_eq_true, bd_s, if_true, if_false, ↓reduceIte, ite_true, ite_false, Bool.and_self, Bool.and_true, Bool.true_and, Nat.reduceBEq, Bool.or_true, Bool.true_or, Bool.or_self]
    rw [if_pos (by omega), upJ_row]
    refine congrArg some (rowJ_ext rfl rfl (fun _ => rfl) (fun _ => rfl) (fun _ _ => rfl) (fun _ _ _ => rfl) (fun _ _ => rfl) (fun j => ?_))
    by_cases hj : j = 22
    · rw [if_pos hj, if_pos hj, if_neg (by omega)]
    · rw [if_neg hj, if_neg hj, if_neg (by omega)]
  | succ k ih =>
    intro fu i w ha hi hf
    obtain ⟨fu, rfl⟩ : ∃ m, fu = m + 1 := ⟨fu - 1, by omega⟩
    show F_Dy_turnOver_2_B (F_Dy_turnOver_2 fu) a (nI i) w = _
    unfold F_Dy_turnOver_2_B
    simp (disch := omega) only [qL, ↓qM, q_le, q_inb, q_nat, nI_add, ha.1, ha.2.1, ha.2.2.1, ha.2.2.2, gd_true, beq_self_eq_true, bd_s, if_true, if_false, ↓reduceIte, ite_true, ite_false, Bool.and_self, Bool.and_true, Bool.true_and, Nat.reduceBEq, Bool.or_true, Bool.true_or, Bool.or_self]
    rw [if_neg (by omega), ih _ _ _ (by exact ha) (by omega) (by omega), rowJ_upJ]
    refine congrArg some (rowJ_ext rfl rfl (fun _ => rfl) (fun _ => rfl) (fun _ _ => rfl) (fun _ _ _ => rfl) (fun _ _ => rfl) (fun j => ?_))
    simp only [wj_upJ]
    by_cases hj : j = 22
    · subst hj
      by_cases h22 : i = 22
      · subst h22
        simp
      · rw [if_pos rfl, if_pos rfl, if_pos (by omega : i + 1 ≤ 22), if_pos (by omega : i ≤ 22)]
        simp [Ne.symm h22]
    · rw [if_neg hj, if_neg hj]
      by_cases h3 : j = i
      · subst h3
        rw [if_neg (by omega : ¬ (j + 1 ≤ j ∧ j < 23)), if_pos (by omega : j ≤ j ∧ j < 23)]; simp
      · by_cases h2 : i ≤ j ∧ j < 23
        · rw [if_pos (by omega : i + 1 ≤ j ∧ j < 23), if_pos h2]; simp [h3]
        · rw [if_neg (by omega : ¬ (i + 1 ≤ j ∧ j < 23)), if_neg h2]; simp [h3]
theorem bt_mask53 (j : Nat) : bt 9007199254740991 j = decide (j < 53) := by
  unfold bt
  rw [show (9007199254740991 : Int64).toBitVec = BitVec.ofNat 64 (2 ^ 53 - 1) from by decide +kernel, BitVec.getLsbD_ofNat, Nat.testBit_two_pow_sub_one]
  by_cases h : j < 53
  · simp [h]; omega
  · simp [h]
theorem D_turnOver {w : AW} {a : Nat} (ha : TD w a) (wa : WF w a) : F_Dy_turnOver a w = some (setD w a (fun n => !gD w a n)) := by
  unfold F_Dy_turnOver
  rw [l_0, L_turnOver a 23 FUEL 0 w ha (by omega) (by decide)]
  refine congrArg some (setD_of_row (fun i hi j hj => ?_) (fun i hi => ?_))
  · by_cases h22 : i = 22
    · subst h22
      rw [if_pos rfl, if_pos (by omega), bt_and, bt_not _ hj, bt_mask53, bt_gD wa hi hj]
      by_cases hn : 64 * 22 + j < 1461
      · rw [decide_eq_true hn, decide_eq_true (by omega)]; simp
      · rw [decide_eq_false hn, decide_eq_false (by omega)]; simp
    · rw [if_neg h22, if_pos ⟨Nat.zero_le _, hi⟩, bt_not _ hj, bt_gD wa hi hj, decide_eq_true (by omega)]; simp
  · rw [if_neg (by omega), if_neg (by omega)]
theorem D_fill {w : AW} {a : Nat} (ha : TD w a) : F_Dy_fill a w = some (setD w a (fun _ => true)) := by
  unfold F_Dy_fill
  rw [gd_t (by rw [ha.1]; rfl), D_clear ha, Option.bind_some, gd_t (by rw [wk_setD, ha.1]; rfl), D_turnOver (TD_setD a _ ha) (WF_setD a _ (.inl rfl)), Option.bind_some, setD_setD]
  exact congrArg some (setD_congr _ _ (fun n hn => by rw [gD_eq _ _ _ hn]; rfl))
theorem D_take {w : AW} {a b : Nat} (ha : TD w a) (hb : TD w b) (wb : WF w b) : F_Dy_take a b w = some (setD w a (fun n => gD w b n)) := by
  unfold F_Dy_take
  simp (disch := omega) only [ha.1, ha.2.1, ha.2.2.1, ha.2.2.2, hb.1, hb.2.1, hb.2.2.1, hb.2.2.2, gd_true, beq_self_eq_true, bd_s, if_true, if_false, ↓reduceIte, ite_true, ite_false, Bool.and_self, Bool.and_true, Bool.true_and, Nat.reduceBEq, Bool.or_true, Bool.true_or, Bool.or_self]
  rw [gd_t (by decide), show Int32.toNatClampNeg 0 = 0 from by decide, show Int32.toNatClampNeg 23 = 23 from by decide]
  refine congrArg some ?_
  refine Eq.trans (b := rowJ w (a + 1) (fun i => if i < 23 then wj w (b + 1) i else wj w (a + 1) i)) ?_ (setD_of_row (fun i hi j hj => ?_) (fun i hi => ?_))
  · refine aw_ext rfl rfl (fun _ => rfl) (fun _ => rfl) (fun _ _ => rfl) (fun c j => ?_) (fun _ _ => rfl)
    show (if c = a + 1 ∧ 0 ≤ j ∧ j < 0 + 23 then wj w (b + 1) (0 + (j - 0)) else wj w c j) = (if c = a + 1 then (if j < 23 then wj w (b + 1) j else wj w (a + 1) j) else wj w c j)
    by_cases hc : c = a + 1
    · subst hc
      by_cases hj : j < 23
      · rw [if_pos ⟨rfl, by omega, by omega⟩, if_pos rfl, if_pos hj]; simp
      · rw [if_neg (by omega), if_pos rfl, if_neg hj]
    · rw [if_neg (fun h => hc h.1), if_neg hc]
  · rw [if_pos hi, bt_gD wb hi hj]
  · rw [if_neg (by omega)]
theorem setD_self {w : AW} {a : Nat} {P : Nat → Bool} (wa : WF w a) (h : ∀ n, n < 1461 → P n = gD w a n) : setD w a P = w :=
  rowJ_self _ _ (fun i => by
    by_cases hi : i < 23
    · rw [if_pos hi]
      refine bt_ext (fun j hj => ?_)
      rw [bt_wd _ _ hj, bt_gD wa hi hj]
      by_cases hn : 64 * i + j < 1461
      · rw [h _ hn]
      · simp [hn]
    · rw [if_neg hi])
