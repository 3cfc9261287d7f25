/-! PURE: single days of sets, sets moved, sizes -/
theorem q_shr {n k : Nat} (hn : n < 2147483648) (hk : k < 32) : nI n >>> nI k = nI (n / 2 ^ k) := by
  apply Int32.toInt.inj
  have h1 : ∀ k, k < 32 → ((nI k).toBitVec.smod 32).toNat = k := by decide +kernel
  rw [← Int32.toInt_toBitVec, Int32.toBitVec_shiftRight, BitVec.toInt_sshiftRight', h1 k hk, Int32.toInt_toBitVec, nI_toInt (by omega), nI_toInt (by have := Nat.div_le_self n (2 ^ k); omega)]
  rw [Int.shiftRight_eq_div_pow]
  norm_cast
theorem q_and {a b : Nat} : nI a &&& nI b = nI (a &&& b) := by
  apply Int32.toBitVec_inj.mp
  rw [Int32.toBitVec_and]
  show BitVec.ofNat 32 a &&& BitVec.ofNat 32 b = BitVec.ofNat 32 (a &&& b)
  rw [BitVec.ofNat_and]
theorem q_and31 {k : Nat} (h : k < 32) : nI k &&& nI 31 = nI k := by
  rw [q_and, show (31 : Nat) = 2 ^ 5 - 1 from rfl, Nat.and_two_pow_sub_one_eq_mod, Nat.mod_eq_of_lt (by omega)]
theorem q_and63 (n : Nat) : nI n &&& nI 63 = nI (n % 64) := by
  rw [q_and, show (63 : Nat) = 2 ^ 6 - 1 from rfl, Nat.and_two_pow_sub_one_eq_mod]
theorem bt_shl (x : Int64) {m j : Nat} (hm : m < 64) : bt (x <<< Int64.ofNat m) j = (decide (j < 64) && (decide (m ≤ j) && bt x (j - m))) := by
  unfold bt
  have h1 : ∀ m, m < 64 → ((Int64.ofNat m).toBitVec.smod 64).toNat = m := by decide +kernel
  rw [Int64.toBitVec_shiftLeft, BitVec.shiftLeft_eq', h1 m hm, BitVec.getLsbD_shiftLeft]
  by_cases h : j < m
  · rw [decide_eq_true h, decide_eq_false (by omega : ¬ m ≤ j)]; simp
  · rw [decide_eq_false h, decide_eq_true (by omega : m ≤ j)]; simp
theorem bt_shr (x : Int64) {k : Nat} (j : Nat) (hk : k < 64) : bt (lshr6 x (nI k)) j = bt x (k + j) := by
  have h1 : ∀ k, k < 64 → (((nI k).toInt64.toUInt64 &&& Int64.toUInt64 63).toBitVec % 64).toNat = k := by decide +kernel
  unfold bt lshr6
  show ((x.toUInt64 >>> ((nI k).toInt64.toUInt64 &&& Int64.toUInt64 63)).toBitVec).getLsbD j = x.toUInt64.toBitVec.getLsbD (k + j)
  rw [UInt64.toBitVec_shiftRight, BitVec.ushiftRight_eq', h1 k hk, BitVec.getLsbD_ushiftRight]
theorem bt_1 (j : Nat) : bt 1 j = decide (j = 0) := by
  unfold bt
  show (BitVec.ofNat 64 1).getLsbD j = _
  rw [BitVec.getLsbD_ofNat]
  cases j with
  | zero => rfl
  | succ j => simp [Nat.testBit_succ]
theorem l64_and63 {m : Nat} (h : m < 64) : (nI m).toInt64 &&& 63 = Int64.ofNat m := by
  have h1 : ∀ m, m < 64 → (nI m).toInt64 &&& 63 = Int64.ofNat m := by decide +kernel
  exact h1 m h
/-- one bit of a word -/
def bm (n : Nat) : Int64 := (1 : Int64) <<< Int64.ofNat (n % 64)
theorem bt_bm (n j : Nat) (hj : j < 64) : bt (bm n) j = decide (j = n % 64) := by
  unfold bm
  rw [bt_shl _ (by omega), bt_1]
  by_cases h : j = n % 64
  · subst h; simp [hj]
  · simp [h]; omega
theorem bt_tst (x : Int64) : (x &&& 1 = 1) = (bt x 0 = true) := by
  apply propext
  constructor
  · intro h
    have := congrArg (fun y => bt y 0) h
    simp only [bt_and, bt_1] at this
    simpa using this
  · intro h
    apply bt_ext
    intro j hj
    rw [bt_and, bt_1]
    by_cases h0 : j = 0
    · subst h0; simp [h]
    · simp [h0]
theorem D_has {w : AW} {a n : Nat} (ha : TD w a) (hn : n < 1461) : F_Dy_has w a (nI n) = some (if gD w a n = true then 1 else 0) := by
  unfold F_Dy_has
  simp (disch := omega) only [qL, ↓qM, q_le, q_lt, ha.1, ha.2.1, ha.2.2.1, ha.2.2.2, q_and31, q_shr, q_and63, q_inb, q_nat, gd_true, beq_self_eq_true, bd_s, if_true, if_false, ↓reduceIte, ite_true, ite_false, Bool.and_self, Bool.and_true, Bool.true_and, Nat.reduceBEq, Bool.or_true, Bool.true_or, Bool.or_self]
  rw [if_neg (by omega), if_neg (by omega)]
  simp (disch := omega) only [lg_cmp_eq, ← l_0]
  unfold gD
  rw [decide_eq_true hn]
  have e : (lshr6 (wj w (a + 1) (n / 2 ^ 6)) (nI (n % 64)) &&& 1 = 1) = (bt (wj w (a + 1) (n / 64)) (n % 64) = true) := by
    rw [bt_tst, bt_shr _ 0 (by omega)]; rfl
  simp only [e, Bool.true_and]
  split
  · rfl
  · rfl
theorem D_has_ge {w : AW} {a : Nat} {x : Int32} (h : x.toInt < 0 ∨ 1461 ≤ x.toInt) : F_Dy_has w a x = some 0 := by
  unfold F_Dy_has
  simp only [Int32.lt_iff_toInt_lt, Int32.le_iff_toInt_le, show (0 : Int32).toInt = 0 from rfl, show (1461 : Int32).toInt = 1461 from rfl]
  split
  · rfl
  · rw [if_pos (by omega)]
theorem D_add {w : AW} {a n : Nat} (ha : TD w a) (wa : WF w a) (hn : n < 1461) : F_Dy_add a (nI n) w = some (setD w a (fun m => gD w a m || decide (m = n))) := by
  unfold F_Dy_add
  simp (disch := omega) only [qL, ↓qM, q_le, q_lt, ha.1, ha.2.1, ha.2.2.1, ha.2.2.2, q_and31, q_shr, q_and63, q_inb, q_nat, gd_true, beq_self_eq_true, bd_s, if_true, if_false, ↓reduceIte, ite_true, ite_false, Bool.and_self, Bool.and_true, Bool.true_and, Nat.reduceBEq, Bool.or_true, Bool.true_or, Bool.or_self]
  rw [if_neg (by omega), if_neg (by omega), l64_and63 (by omega), upJ_row]
  refine congrArg some (setD_of_row (fun i hi j hj => ?_) (fun i hi => ?_))
  · show bt (if i = n / 64 then wj w (a + 1) (n / 64) ||| bm n else wj w (a + 1) i) j = _
    by_cases h : i = n / 64
    · rw [if_pos h, bt_or, bt_bm n j hj, ← h, bt_gD wa hi hj]
      by_cases hm : 64 * i + j < 1461
      · rw [decide_eq_true hm, Bool.true_and, Bool.true_and]
        congr 1
        exact decide_eq_decide.mpr (by omega)
      · rw [decide_eq_false hm, decide_eq_false (by omega)]; rfl
    · rw [if_neg h, bt_gD wa hi hj, decide_eq_false (by omega : ¬ 64 * i + j = n), Bool.or_false]
  · show (if i = n / 64 then _ else _) = _
    rw [if_neg (by omega)]
theorem D_add_ge {w : AW} {a : Nat} {x : Int32} (h : x.toInt < 0 ∨ 1461 ≤ x.toInt) : F_Dy_add a x w = some w := by
  unfold F_Dy_add
  simp only [Int32.lt_iff_toInt_lt, Int32.le_iff_toInt_le, show (0 : Int32).toInt = 0 from rfl, show (1461 : Int32).toInt = 1461 from rfl]
  split
  · rfl
  · rw [if_pos (by omega)]
theorem D_remove {w : AW} {a n : Nat} (ha : TD w a) (wa : WF w a) (hn : n < 1461) : F_Dy_remove a (nI n) w = some (setD w a (fun m => gD w a m && !decide (m = n))) := by
  unfold F_Dy_remove
  simp (disch := omega) only [qL, ↓qM, q_le, q_lt, ha.1, ha.2.1, ha.2.2.1, ha.2.2.2, q_and31, q_shr, q_and63, q_inb, q_nat, gd_true, beq_self_eq_true, bd_s, if_true, if_false, ↓reduceIte, ite_true, ite_false, Bool.and_self, Bool.and_true, Bool.true_and, Nat.reduceBEq, Bool.or_true, Bool.true_or, Bool.or_self]
  rw [if_neg (by omega), if_neg (by omega), l64_and63 (by omega), upJ_row]
  refine congrArg some (setD_of_row (fun i hi j hj => ?_) (fun i hi => ?_))
  · show bt (if i = n / 64 then wj w (a + 1) (n / 64) &&& (bm n ^^^ (-1)) else wj w (a + 1) i) j = _
    by_cases h : i = n / 64
    · rw [if_pos h, bt_and, bt_not _ hj, bt_bm n j hj, ← h, bt_gD wa hi hj]
      by_cases hm : 64 * i + j < 1461
      · rw [decide_eq_true hm, Bool.true_and, Bool.true_and]
        congr 2
        exact decide_eq_decide.mpr (by omega)
      · rw [decide_eq_false hm]; rfl
    · rw [if_neg h, bt_gD wa hi hj, decide_eq_false (by omega : ¬ 64 * i + j = n), Bool.not_false, Bool.and_true]
  · show (if i = n / 64 then _ else _) = _
    rw [if_neg (by omega)]
theorem L_addFrom (a he : Nat) (hh : he ≤ 1461) : ∀ (k fu i : Nat) (w : AW), TD w a → WF w a → i + k = he → k < fu → F_Dy_addFrom_2 fu a (nI he) (nI i) w = some (setD w a (fun n => gD w a n || (decide (i ≤ n) && decide (n < he)))) := by
  intro k
  induction k with
  | zero =>
    intro fu i w ha wa hi hf
    obtain ⟨fu, rfl⟩ : ∃ m, fu = m + 1 := ⟨fu - 1, by omega⟩
    show F_Dy_addFrom_2_B (F_Dy_addFrom_2 fu) a _ (nI i) w = _
    unfold F_Dy_addFrom_2_B
    simp (disch := omega) only [q_le]
    rw [if_pos (by omega)]
    exact congrArg some (setD_self wa (fun n hn => by rw [show (decide (i ≤ n) && decide (n < he)) = false by simp; omega, Bool.or_false])).symm
  | succ k ih =>
    intro fu i w ha wa hi hf
    obtain ⟨fu, rfl⟩ : ∃ m, fu = m + 1 := ⟨fu - 1, by omega⟩
    show F_Dy_addFrom_2_B (F_Dy_addFrom_2 fu) a _ (nI i) w = _
    unfold F_Dy_addFrom_2_B
    simp (disch := omega) only [qL, ↓qM, q_le, nI_add, ha.1, gd_true, beq_self_eq_true, bd_s, if_true, if_false, ↓reduceIte, ite_true, ite_false, Bool.and_self, Bool.and_true, Bool.true_and, Nat.reduceBEq, Bool.or_true, Bool.true_or, Bool.or_self]
    rw [if_neg (by omega), D_add ha wa (by omega), Option.bind_some, ih _ _ _ (TD_setD _ _ ha) (WF_setD _ _ (.inl rfl)) (by omega) (by omega), setD_setD]
    refine congrArg some (setD_congr _ _ (fun n hn => ?_))
    rw [gD_eq _ _ _ hn]
    by_cases h : n = i
    · subst h; simp; right; omega
    · simp only [h, decide_false, Bool.or_false]
      congr 2
      exact decide_eq_decide.mpr (by omega)
theorem D_addFrom {w : AW} {a lo he : Nat} (ha : TD w a) (wa : WF w a) (h1 : lo ≤ 1461) (h2 : he ≤ 1461) : F_Dy_addFrom a (nI lo) (nI he) w = some (setD w a (fun n => gD w a n || (decide (lo ≤ n) && decide (n < he)))) := by
  unfold F_Dy_addFrom
  by_cases h : lo ≤ he
  · exact L_addFrom a he h2 (he - lo) FUEL lo w ha wa (by omega) (Nat.lt_of_le_of_lt (by omega : he - lo ≤ 1461) (by decide))
  · show F_Dy_addFrom_2_B (F_Dy_addFrom_2 999999) a (nI he) (nI lo) w = _
    unfold F_Dy_addFrom_2_B
    simp (disch := omega) only [q_le]
    rw [if_pos (by omega)]
    exact congrArg some (setD_self wa (fun n hn => by rw [show (decide (lo ≤ n) && decide (n < he)) = false by simp; omega, Bool.or_false])).symm
/-- the word i of a set, k days on -/
def wA (w : AW) (b i k : Nat) : Int64 := if k = 0 ∨ 22 ≤ i then lshr6 (wj w (b + 1) i) (nI k) else lshr6 (wj w (b + 1) i) (nI k) ||| wj w (b + 1) (i + 1) <<< Int64.ofNat (64 - k)
theorem D_wordAhead {w : AW} {b i k : Nat} (hb : TD w b) (hi : i < 23) (hk : k < 64) : F_Dy_wordAhead w b (nI i) (nI k) = some (wA w b i k) := by
  unfold F_Dy_wordAhead wA
  simp (disch := omega) only [qL, ↓qM, q_le, q_lt, q_eq, nI_add, hb.1, hb.2.1, hb.2.2.1, hb.2.2.2, q_inb, q_nat, gd_true, beq_self_eq_true, bd_s, if_true, if_false, ↓reduceIte, ite_true, ite_false, Bool.and_self, Bool.and_true, Bool.true_and, Nat.reduceBEq, Bool.or_true, Bool.true_or, Bool.or_self]
  rw [if_neg (by omega), if_pos (by omega)]
  by_cases h0 : k = 0
  · rw [if_pos h0, if_pos (.inl h0)]
  · rw [if_neg h0]
    by_cases h22 : 22 ≤ i
    · rw [if_neg (by omega), if_pos (.inr h22)]
    · rw [if_pos (by omega), if_neg (by omega), pk_sub (by omega), l64_and63 (by omega)]
theorem bt_wA {w : AW} {b i k j : Nat} (wb : WF w b) (hi : i < 23) (hk : k < 64) (hj : j < 64) : bt (wA w b i k) j = gD w b (64 * i + j + k) := by
  have g : ∀ (i' j' : Nat), i' < 23 → j' < 64 → 64 * i' + j' = 64 * i + j + k → gD w b (64 * i + j + k) = bt (wj w (b + 1) i') j' := by
    intro i' j' h1 h2 h3
    rw [← h3, bt_gD wb h1 h2]
    by_cases hn : 64 * i' + j' < 1461
    · simp [hn]
    · rw [gD_ge _ _ (by omega)]; simp
  unfold wA
  by_cases hs : k + j < 64
  · rw [g i (k + j) hi hs (by omega)]
    split
    · rw [bt_shr _ _ hk]
    · rw [bt_or, bt_shr _ _ hk, bt_shl _ (by omega), decide_eq_false (by omega : ¬ 64 - k ≤ j)]; simp
  · by_cases h22 : 22 ≤ i
    · rw [if_pos (.inr h22), bt_shr _ _ hk, bt_ge _ (by omega), gD_ge _ _ (by omega)]
    · rw [if_neg (by omega), bt_or, bt_shr _ _ hk, bt_shl _ (by omega), bt_ge _ (by omega), decide_eq_true (by omega : 64 - k ≤ j), decide_eq_true hj, g (i + 1) (j - (64 - k)) (by omega) (by omega) (by omega)]
      simp
theorem L_meetAhead (a b k : Nat) (hk : k < 64) : ∀ (m fu i : Nat) (w : AW), TD w a → TD w b → a ≠ b → i + m = 23 → m < fu → F_Dy_meetAhead_2 fu a b (nI k) (nI i) w = some (rowJ w (a + 1) (fun j => if i ≤ j ∧ j < 23 then wj w (a + 1) j &&& wA w b j k else wj w (a + 1) j)) := by
  intro m
  induction m with
  | zero =>
    intro fu i w ha hb hab hi hf
    obtain ⟨fu, rfl⟩ : ∃ m, fu = m + 1 := ⟨fu - 1, by omega⟩
    show F_Dy_meetAhead_2_B (F_Dy_meetAhead_2 fu) a b (nI k) (nI i) w = _
    unfold F_Dy_meetAhead_2_B
    simp (disch := omega) only [l_23, q_le]
    rw [if_pos (by omega), rowJ_self]
    intro j
    rw [if_neg (by omega)]
  | succ m ih =>
    intro fu i w ha hb hab hi hf
    obtain ⟨fu, rfl⟩ : ∃ m, fu = m + 1 := ⟨fu - 1, by omega⟩
    show F_Dy_meetAhead_2_B (F_Dy_meetAhead_2 fu) a b (nI k) (nI i) w = _
    unfold F_Dy_meetAhead_2_B
    rw [D_wordAhead hb (by omega) hk]
    simp (disch := omega) only [qL, ↓qM, q_le, q_inb, q_nat, nI_add, ha.1, ha.2.1, ha.2.2.1, ha.2.2.2, hb.1, gd_true, beq_self_eq_true, bd_s, if_true, if_false, ↓reduceIte, ite_true, ite_false, Bool.and_self, Bool.and_true, Bool.true_and, Nat.reduceBEq, Bool.or_true, Bool.true_or, Bool.or_self]
    rw [if_neg (by omega), ih _ _ _ (by exact ha) (by exact hb) hab (by omega) (by omega), rowJ_upJ]
    have hw : ∀ j x, wA (upJ w (a + 1) i x) b j k = wA w b j k := by
      intro j x
      have hb1 : ∀ q, wj (upJ w (a + 1) i x) (b + 1) q = wj w (b + 1) q := fun q => by rw [wj_upJ, if_neg (fun h => hab (by omega))]
      unfold wA
      simp only [hb1]
    refine congrArg some (rowJ_ext rfl rfl (fun _ => rfl) (fun _ => rfl) (fun _ _ => rfl) (fun _ _ _ => rfl) (fun _ _ => rfl) (fun j => ?_))
    simp only [wj_upJ, hw]
    by_cases hj : j = i
    · subst hj
      rw [if_neg (by omega : ¬ (j + 1 ≤ j ∧ j < 23)), if_pos (by omega : j ≤ j ∧ j < 23)]; simp
    · by_cases h2 : i ≤ j ∧ j < 23
      · rw [if_pos (by omega : i + 1 ≤ j ∧ j < 23), if_pos h2]; simp [hj]
      · rw [if_neg (by omega : ¬ (i + 1 ≤ j ∧ j < 23)), if_neg h2]; simp [hj]
theorem D_meetAhead {w : AW} {a b k : Nat} (ha : TD w a) (hb : TD w b) (wa : WF w a) (wb : WF w b) (hab : a ≠ b) (hk : k < 64) : F_Dy_meetAhead a b (nI k) w = some (setD w a (fun n => gD w a n && gD w b (n + k))) := by
  unfold F_Dy_meetAhead
  rw [l_0, L_meetAhead a b k hk 23 FUEL 0 w ha hb hab (by omega) (by decide)]
  refine congrArg some (setD_of_row (fun i hi j hj => ?_) (fun i hi => ?_))
  · rw [if_pos ⟨Nat.zero_le _, hi⟩]
    simp only [bt_and, bt_or]
    rw [bt_gD wa hi hj, bt_wA wb hi hk hj]
    by_cases hn : 64 * i + j < 1461
    · simp [hn]
    · simp [hn, gD_ge w b (by omega : 1461 ≤ 64 * i + j + k)]
  · rw [if_neg (by omega)]
theorem L_joinAhead (a b k : Nat) (hk : k < 64) : ∀ (m fu i : Nat) (w : AW), TD w a → TD w b → a ≠ b → i + m = 23 → m < fu → F_Dy_joinAhead_2 fu a b (nI k) (nI i) w = some (rowJ w (a + 1) (fun j => if i ≤ j ∧ j < 23 then wj w (a + 1) j ||| wA w b j k else wj w (a + 1) j)) := by
  intro m
  induction m with
  | zero =>
    intro fu i w ha hb hab hi hf
    obtain ⟨fu, rfl⟩ : ∃ m, fu = m + 1 := ⟨fu - 1, by omega⟩
    show F_Dy_joinAhead_2_B (F_Dy_joinAhead_2 fu) a b (nI k) (nI i) w = _
    unfold F_Dy_joinAhead_2_B
    simp (disch := omega) only [l_23, q_le]
    rw [if_pos (by omega), rowJ_self]
    intro j
    rw [if_neg (by omega)]
  | succ m ih =>
    intro fu i w ha hb hab hi hf
    obtain ⟨fu, rfl⟩ : ∃ m, fu = m + 1 := ⟨fu - 1, by omega⟩
    show F_Dy_joinAhead_2_B (F_Dy_joinAhead_2 fu) a b (nI k) (nI i) w = _
    unfold F_Dy_joinAhead_2_B
    rw [D_wordAhead hb (by omega) hk]
    simp (disch := omega) only [qL, ↓qM, q_le, q_inb, q_nat, nI_add, ha.1, ha.2.1, ha.2.2.1, ha.2.2.2, hb.1, gd_true, beq_self_eq_true, bd_s, if_true, if_false, ↓reduceIte, ite_true, ite_false, Bool.and_self, Bool.and_true, Bool.true_and, Nat.reduceBEq, Bool.or_true, Bool.true_or, Bool.or_self]
    rw [if_neg (by omega), ih _ _ _ (by exact ha) (by exact hb) hab (by omega) (by omega), rowJ_upJ]
    have hw : ∀ j x, wA (upJ w (a + 1) i x) b j k = wA w b j k := by
      intro j x
      have hb1 : ∀ q, wj (upJ w (a + 1) i x) (b + 1) q = wj w (b + 1) q := fun q => by rw [wj_upJ, if_neg (fun h => hab (by omega))]
      unfold wA
      simp only [hb1]
    refine congrArg some (rowJ_ext rfl rfl (fun _ => rfl) (fun _ => rfl) (fun _ _ => rfl) (fun _ _ _ => rfl) (fun _ _ => rfl) (fun j => ?_))
    simp only [wj_upJ, hw]
    by_cases hj : j = i
    · subst hj
      rw [if_neg (by omega : ¬ (j + 1 ≤ j ∧ j < 23)), if_pos (by omega : j ≤ j ∧ j < 23)]; simp
    · by_cases h2 : i ≤ j ∧ j < 23
      · rw [if_pos (by omega : i + 1 ≤ j ∧ j < 23), if_pos h2]; simp [hj]
      · rw [if_neg (by omega : ¬ (i + 1 ≤ j ∧ j < 23)), if_neg h2]; simp [hj]
theorem D_joinAhead {w : AW} {a b k : Nat} (ha : TD w a) (hb : TD w b) (wa : WF w a) (wb : WF w b) (hab : a ≠ b) (hk : k < 64) : F_Dy_joinAhead a b (nI k) w = some (setD w a (fun n => gD w a n || gD w b (n + k))) := by
  unfold F_Dy_joinAhead
  rw [l_0, L_joinAhead a b k hk 23 FUEL 0 w ha hb hab (by omega) (by decide)]
  refine congrArg some (setD_of_row (fun i hi j hj => ?_) (fun i hi => ?_))
  · rw [if_pos ⟨Nat.zero_le _, hi⟩]
    simp only [bt_and, bt_or]
    rw [bt_gD wa hi hj, bt_wA wb hi hk hj]
    by_cases hn : 64 * i + j < 1461
    · simp [hn]
    · simp [hn, gD_ge w b (by omega : 1461 ≤ 64 * i + j + k)]
  · rw [if_neg (by omega)]
theorem cnt_add (P : Nat → Bool) (a : Nat) : ∀ b, cnt P (a + b) = cnt P a + cnt (fun j => P (a + j)) b
  | 0 => rfl
  | b + 1 => by
    show cnt P (a + b) + (if P (a + b) = true then 1 else 0) = cnt P a + (cnt (fun j => P (a + j)) b + (if P (a + b) = true then 1 else 0))
    rw [cnt_add P a b]; omega
theorem cnt_false {P : Nat → Bool} (n : Nat) (h : ∀ i, i < n → P i = false) : cnt P n = 0 := by
  rw [cnt_congr (Q := fun _ => false) n h]
  induction n with
  | zero => rfl
  | succ n ih => show cnt _ n + 0 = 0; rw [ih (fun i hi => h i (by omega))]
theorem L_sizeWith (a b : Nat) (w : AW) (ha : TD w a) (hb : TD w b) : ∀ (m fu i : Nat), i + m = 23 → m < fu → F_Dy_sizeWith_4 w fu a b (nI (cnt (fun n => bt (wj w (a + 1) (n / 64)) (n % 64) && bt (wj w (b + 1) (n / 64)) (n % 64)) (64 * i))) (nI i) = some (nI (cnt (fun n => bt (wj w (a + 1) (n / 64)) (n % 64) && bt (wj w (b + 1) (n / 64)) (n % 64)) (64 * 23))) := by
  intro m
  induction m with
  | zero =>
    intro fu i hi hf
    obtain ⟨fu, rfl⟩ : ∃ m, fu = m + 1 := ⟨fu - 1, by omega⟩
    show F_Dy_sizeWith_4_B (F_Dy_sizeWith_4 w fu) w a b _ (nI i) = _
    unfold F_Dy_sizeWith_4_B
    simp (disch := omega) only [l_23, q_le]
    rw [if_pos (by omega), show i = 23 by omega]
  | succ m ih =>
    intro fu i hi hf
    obtain ⟨fu, rfl⟩ : ∃ m, fu = m + 1 := ⟨fu - 1, by omega⟩
    show F_Dy_sizeWith_4_B (F_Dy_sizeWith_4 w fu) w a b _ (nI i) = _
    unfold F_Dy_sizeWith_4_B
    simp (disch := omega) only [qL, ↓qM, q_le, q_inb, q_nat, nI_add, ha.1, ha.2.1, ha.2.2.1, ha.2.2.2, hb.1, hb.2.1, hb.2.2.1, hb.2.2.2, pop, gd_true, beq_self_eq_true, bd_s, if_true, if_false, ↓reduceIte, ite_true, ite_false, Bool.and_self, Bool.and_true, Bool.true_and, Nat.reduceBEq, Bool.or_true, Bool.true_or, Bool.or_self]
    rw [if_neg (by omega), ← ih fu (i + 1) (by omega) (by omega), show 64 * (i + 1) = 64 * i + 64 by omega, cnt_add]
    congr 3
    exact cnt_congr 64 (fun j hj => by rw [bt_and, show (64 * i + j) / 64 = i by omega, show (64 * i + j) % 64 = j by omega])
theorem D_sizeWith {w : AW} {a b : Nat} (ha : TD w a) (hb : TD w b) (wa : WF w a) : F_Dy_sizeWith w a b = some (nI (cnt (fun n => gD w a n && gD w b n) 1461)) := by
  unfold F_Dy_sizeWith
  refine Eq.trans (L_sizeWith a b w ha hb 23 FUEL 0 (by omega) (by decide)) ?_
  rw [show 64 * 23 = 1461 + 11 by omega, cnt_add]
  rw [cnt_false (P := fun j => _) 11 (fun j hj => by
    rw [show (1461 + j) / 64 = 22 by omega, show (1461 + j) % 64 = 53 + j by omega, wa (53 + j) (by omega)]; rfl), Nat.add_zero]
  rw [cnt_congr (Q := fun n => gD w a n && gD w b n) 1461 (fun n hn => by unfold gD; simp [hn])]
theorem L_size (a : Nat) (w : AW) (ha : TD w a) : ∀ (m fu i : Nat), i + m = 23 → m < fu → F_Dy_size_4 w fu a (nI (cnt (fun n => bt (wj w (a + 1) (n / 64)) (n % 64)) (64 * i))) (nI i) = some (nI (cnt (fun n => bt (wj w (a + 1) (n / 64)) (n % 64)) (64 * 23))) := by
  intro m
  induction m with
  | zero =>
    intro fu i hi hf
    obtain ⟨fu, rfl⟩ : ∃ m, fu = m + 1 := ⟨fu - 1, by omega⟩
    show F_Dy_size_4_B (F_Dy_size_4 w fu) w a _ (nI i) = _
    unfold F_Dy_size_4_B
    simp (disch := omega) only [l_23, q_le]
    rw [if_pos (by omega), show i = 23 by omega]
  | succ m ih =>
    intro fu i hi hf
    obtain ⟨fu, rfl⟩ : ∃ m, fu = m + 1 := ⟨fu - 1, by omega⟩
    show F_Dy_size_4_B (F_Dy_size_4 w fu) w a _ (nI i) = _
    unfold F_Dy_size_4_B
    simp (disch := omega) only [qL, ↓qM, q_le, q_inb, q_nat, nI_add, ha.1, ha.2.1, ha.2.2.1, ha.2.2.2, pop, gd_true, beq_self_eq_true, bd_s, if_true, if_false, ↓reduceIte, ite_true, ite_false, Bool.and_self, Bool.and_true, Bool.true_and, Nat.reduceBEq, Bool.or_true, Bool.true_or, Bool.or_self]
    rw [if_neg (by omega), ← ih fu (i + 1) (by omega) (by omega), show 64 * (i + 1) = 64 * i + 64 by omega, cnt_add]
    congr 3
    exact cnt_congr 64 (fun j hj => by rw [show (64 * i + j) / 64 = i by omega, show (64 * i + j) % 64 = j by omega])
theorem D_size {w : AW} {a : Nat} (ha : TD w a) (wa : WF w a) : F_Dy_size w a = some (nI (cnt (gD w a) 1461)) := by
  unfold F_Dy_size
  refine Eq.trans (L_size a w ha 23 FUEL 0 (by omega) (by decide)) ?_
  rw [show 64 * 23 = 1461 + 11 by omega, cnt_add]
  rw [cnt_false (P := fun j => _) 11 (fun j hj => by
    rw [show (1461 + j) / 64 = 22 by omega, show (1461 + j) % 64 = 53 + j by omega, wa (53 + j) (by omega)]), Nat.add_zero]
  rw [cnt_congr (Q := gD w a) 1461 (fun n hn => by unfold gD; simp [hn])]
