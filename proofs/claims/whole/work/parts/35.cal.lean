/-! PURE: the calendar -/
theorem q_b0 (b : Bool) : (nI b.toNat = nI 0) = (b = false) := by cases b <;> simp [nI_eq]
theorem q_b1 (b : Bool) : (nI b.toNat = nI 1) = (b = true) := by cases b <;> simp [nI_eq]
theorem q_bm (b : Bool) : (nI b.toNat == 0 || nI b.toNat == 1) = true := by cases b <;> decide
theorem A_within_b (x a b : Int32) : F_A_within x a b = nI (decide (a.toInt ≤ x.toInt ∧ x.toInt ≤ b.toInt)).toNat := by
  rw [A_within_iff]
  by_cases h : a.toInt ≤ x.toInt ∧ x.toInt ≤ b.toInt
  · rw [if_pos h, decide_eq_true h]; rfl
  · rw [if_neg h, decide_eq_false h]; rfl
theorem M_in_b (x : Int32) (a b : Int64) : F_M_in (Int32.toInt64 x) a b = nI (decide (a.toInt ≤ x.toInt ∧ x.toInt ≤ b.toInt)).toNat := by
  rw [M_in_iff]
  by_cases h : a.toInt ≤ x.toInt ∧ x.toInt ≤ b.toInt
  · rw [if_pos h, decide_eq_true h]; rfl
  · rw [if_neg h, decide_eq_false h]; rfl
theorem qLJ : ((0 : Int64).toInt = 0) ∧ ((1 : Int64).toInt = 1) ∧ ((2 : Int64).toInt = 2) ∧ ((3 : Int64).toInt = 3) ∧ ((5 : Int64).toInt = 5) ∧ ((7 : Int64).toInt = 7) ∧ ((9 : Int64).toInt = 9) ∧ ((11 : Int64).toInt = 11) ∧ ((12 : Int64).toInt = 12) ∧ ((15 : Int64).toInt = 15) ∧ ((30 : Int64).toInt = 30) ∧ ((31 : Int64).toInt = 31) ∧ ((40 : Int64).toInt = 40) ∧ ((48 : Int64).toInt = 48) ∧ ((55 : Int64).toInt = 55) ∧ ((57 : Int64).toInt = 57) ∧ ((99 : Int64).toInt = 99) ∧ ((100 : Int64).toInt = 100) ∧ ((400 : Int64).toInt = 400) ∧ ((1000 : Int64).toInt = 1000) ∧ ((1460 : Int64).toInt = 1460) ∧ ((9999 : Int64).toInt = 9999) ∧ ((-1 : Int64).toInt = -1) ∧ ((-30 : Int64).toInt = -30) := by decide +kernel
def isL (f y : Nat) : Bool := (f + y) % 4 == 0
def yst (f : Nat) : Nat → Nat
  | 0 => 0
  | y + 1 => yst f y + (if isL f y = true then 366 else 365)
def mln (f y m : Nat) : Nat := if m = 2 then (if isL f y = true then 29 else 28) else if m = 4 ∨ m = 6 ∨ m = 9 ∨ m = 11 then 30 else 31
def msm (f y : Nat) : Nat → Nat
  | 0 => 0
  | k + 1 => msm f y k + mln f y (k + 1)
/-- the first day of a month -/
def bg (f y m : Nat) : Nat := yst f y + msm f y (m - 1)
theorem yst_le (f : Nat) : ∀ y, yst f y ≤ 366 * y
  | 0 => Nat.le_refl _
  | y + 1 => by
    show yst f y + _ ≤ _
    have := yst_le f y
    split <;> omega
theorem mln_le (f y m : Nat) : mln f y m ≤ 31 := by unfold mln; split; (split <;> omega); (split <;> omega)
theorem mln_ge (f y m : Nat) : 28 ≤ mln f y m := by unfold mln; split; (split <;> omega); (split <;> omega)
theorem msm_le (f y : Nat) : ∀ m, msm f y m ≤ 31 * m
  | 0 => Nat.le_refl _
  | m + 1 => by
    show msm f y m + mln f y (m + 1) ≤ _
    have := msm_le f y m
    have := mln_le f y (m + 1)
    omega
theorem bg_le (f y m : Nat) : bg f y m ≤ 366 * y + 31 * m := by
  unfold bg
  have := yst_le f y
  have := msm_le f y (m - 1)
  omega
theorem bg_s (f y m : Nat) (h : 1 ≤ m) : bg f y (m + 1) = bg f y m + mln f y m := by
  unfold bg
  obtain ⟨k, rfl⟩ : ∃ k, m = k + 1 := ⟨m - 1, by omega⟩
  show yst f y + (msm f y k + mln f y (k + 1)) = yst f y + msm f y k + mln f y (k + 1)
  omega
theorem bg_1 (f y : Nat) : bg f y 1 = yst f y := by unfold bg; show yst f y + 0 = _; omega
theorem yst_4 : ∀ f, f < 4 → yst f 4 = 1461 := by decide +kernel
theorem msm_12 : ∀ f, f < 4 → ∀ y, y < 4 → yst f y + msm f y 12 = yst f (y + 1) := by decide +kernel
theorem bg_13 {f y : Nat} (hf : f < 4) (hy : y < 4) : bg f y 13 = yst f (y + 1) := msm_12 f hf y hy
theorem yst_mono (f : Nat) {a b : Nat} (h : a ≤ b) : yst f a ≤ yst f b := by
  induction b with
  | zero => rw [show a = 0 by omega]; exact Nat.le_refl _
  | succ b ih =>
    by_cases h2 : a = b + 1
    · rw [h2]; exact Nat.le_refl _
    · refine Nat.le_trans (ih (by omega)) ?_
      show yst f b ≤ yst f b + _
      omega
theorem bg_mono (f y : Nat) {a b : Nat} (h1 : 1 ≤ a) (h : a ≤ b) : bg f y a ≤ bg f y b := by
  induction b with
  | zero => omega
  | succ b ih =>
    by_cases h2 : a = b + 1
    · rw [h2]; exact Nat.le_refl _
    · refine Nat.le_trans (ih (by omega)) ?_
      rw [bg_s f y b (by omega)]; omega
def yr (f n : Nat) : Nat := if n < yst f 1 then 0 else if n < yst f 2 then 1 else if n < yst f 3 then 2 else 3
def mU (f y n : Nat) : Nat → Nat → Nat
  | 0, m => m
  | k + 1, m => if n < bg f y (m + 1) then m else mU f y n k (m + 1)
def mo (f n : Nat) : Nat := mU f (yr f n) n 11 1
theorem yr_le (f n : Nat) : yr f n ≤ 3 := by
  unfold yr
  repeat' split
  all_goals omega
theorem yr_spec {f n : Nat} (hf : f < 4) (hn : n < 1461) : yst f (yr f n) ≤ n ∧ n < yst f (yr f n + 1) := by
  have h4 := yst_4 f hf
  unfold yr
  by_cases h1 : n < yst f 1
  · rw [if_pos h1]; exact ⟨Nat.zero_le _, h1⟩
  · rw [if_neg h1]
    by_cases h2 : n < yst f 2
    · rw [if_pos h2]; exact ⟨by omega, h2⟩
    · rw [if_neg h2]
      by_cases h3 : n < yst f 3
      · rw [if_pos h3]; exact ⟨by omega, h3⟩
      · rw [if_neg h3]; exact ⟨by omega, by show n < yst f 4; omega⟩
theorem yr_iff {f n y : Nat} (hf : f < 4) (hn : n < 1461) (hy : y < 4) : (yst f y ≤ n ∧ n < yst f (y + 1)) ↔ yr f n = y := by
  constructor
  · intro h
    have s := yr_spec hf hn
    have l := yr_le f n
    rcases Nat.lt_trichotomy (yr f n) y with h1 | h1 | h1
    · have := yst_mono f (show yr f n + 1 ≤ y by omega); omega
    · exact h1
    · have := yst_mono f (show y + 1 ≤ yr f n by omega); omega
  · intro h; rw [← h]; exact yr_spec hf hn
theorem mU_spec (f y n : Nat) : ∀ k m, 1 ≤ m → bg f y m ≤ n → (bg f y (mU f y n k m) ≤ n ∧ m ≤ mU f y n k m ∧ mU f y n k m ≤ m + k ∧ (mU f y n k m = m + k ∨ n < bg f y (mU f y n k m + 1)))
  | 0, m, _, h => ⟨h, Nat.le_refl _, Nat.le_refl _, .inl rfl⟩
  | k + 1, m, h1, h => by
    have e : mU f y n (k + 1) m = if n < bg f y (m + 1) then m else mU f y n k (m + 1) := rfl
    rw [e]
    by_cases h2 : n < bg f y (m + 1)
    · rw [if_pos h2]; exact ⟨h, Nat.le_refl _, by omega, .inr h2⟩
    · rw [if_neg h2]
      obtain ⟨a, b, c, d⟩ := mU_spec f y n k (m + 1) (by omega) (by omega)
      exact ⟨a, by omega, by omega, by omega⟩
theorem mo_spec {f n : Nat} (hf : f < 4) (hn : n < 1461) : bg f (yr f n) (mo f n) ≤ n ∧ n < bg f (yr f n) (mo f n + 1) ∧ 1 ≤ mo f n ∧ mo f n ≤ 12 := by
  have s := yr_spec hf hn
  have l := yr_le f n
  obtain ⟨a, b, c, d⟩ := mU_spec f (yr f n) n 11 1 (by omega) (by rw [bg_1]; exact s.1)
  have e : mo f n = mU f (yr f n) n 11 1 := rfl
  rw [e]
  refine ⟨a, ?_, b, by omega⟩
  rcases d with d | d
  · rw [d, show 1 + 11 + 1 = 13 by omega, bg_13 hf (by omega)]; exact s.2
  · exact d
theorem mo_iff {f n y m : Nat} (hf : f < 4) (hn : n < 1461) (hy : y < 4) (h1 : 1 ≤ m) (h2 : m ≤ 12) : (bg f y m ≤ n ∧ n < bg f y m + mln f y m) ↔ (yr f n = y ∧ mo f n = m) := by
  rw [← bg_s f y m h1]
  constructor
  · intro h
    have hy2 : yr f n = y := (yr_iff hf hn hy).mp ⟨by have := bg_mono f y (show 1 ≤ 1 by omega) h1; rw [bg_1] at this; omega, by have := bg_mono f y (show 1 ≤ m + 1 by omega) (show m + 1 ≤ 13 by omega); rw [bg_13 hf hy] at this; omega⟩
    refine ⟨hy2, ?_⟩
    have s := mo_spec hf hn
    rw [hy2] at s
    rcases Nat.lt_trichotomy (mo f n) m with h3 | h3 | h3
    · have := bg_mono f y (show 1 ≤ mo f n + 1 by omega) (show mo f n + 1 ≤ m by omega); omega
    · exact h3
    · have := bg_mono f y (show 1 ≤ m + 1 by omega) (show m + 1 ≤ mo f n by omega); omega
  · rintro ⟨rfl, rfl⟩
    have s := mo_spec hf hn
    exact ⟨s.1, s.2.1⟩
/-- the class's calendar holds f -/
def CF (w : AW) (f : Nat) : Prop := wi w 17 0 = nI f ∧ f < 4
theorem A_isLong {L : Nat} {xs : Nat → Int32} {w : AW} (T : Top L xs w) {f y : Nat} (C : CF w f) (hy : y < 8) : F_Ca_isLong w 17 (nI y) = some (nI (isL f y).toNat) := by
  have hf := C.2
  unfold F_Ca_isLong isL
  simp (disch := omega) only [qL, ↓qM, t17 T, C.1, nI_add, q_rem, q_eq, gd_true, beq_self_eq_true, bd_s, if_true, if_false, ↓reduceIte, ite_true, ite_false, Bool.and_self, Bool.and_true, Bool.true_and, Nat.reduceBEq, Bool.or_true, Bool.true_or, Bool.or_self]
  by_cases h : (f + y) % 4 = 0
  · rw [if_pos h, h]; rfl
  · rw [if_neg h, show ((f + y) % 4 == 0) = false by simpa using h]; rfl
theorem L_startOf {L : Nat} {xs : Nat → Int32} {w : AW} (T : Top L xs w) {f y : Nat} (C : CF w f) (hy : y ≤ 4) : ∀ k fu i, i + k = y → k < fu → F_Ca_startOf_4 w fu 17 (nI y) (nI (yst f i)) (nI i) = some (nI (yst f y)) := by
  intro k
  induction k with
  | zero =>
    intro fu i hi hf
    obtain ⟨fu, rfl⟩ : ∃ m, fu = m + 1 := ⟨fu - 1, by omega⟩
    obtain rfl : i = y := by omega
    show F_Ca_startOf_4_B (F_Ca_startOf_4 w fu) w 17 _ _ _ = _
    unfold F_Ca_startOf_4_B
    simp (disch := omega) only [qL, ↓qM, q_le]
    split
    · rfl
    · rw [if_pos (Nat.le_refl _)]
  | succ k ih =>
    intro fu i hi hf
    obtain ⟨fu, rfl⟩ : ∃ m, fu = m + 1 := ⟨fu - 1, by omega⟩
    show F_Ca_startOf_4_B (F_Ca_startOf_4 w fu) w 17 _ _ _ = _
    unfold F_Ca_startOf_4_B
    rw [A_isLong T C (by omega)]
    simp (disch := omega) only [qL, ↓qM, q_le, nI_add, t17 T, q_b0, gd_true, beq_self_eq_true, bd_s, if_true, if_false, ↓reduceIte, ite_true, ite_false, Bool.and_self, Bool.and_true, Bool.true_and, Nat.reduceBEq, Bool.or_true, Bool.true_or, Bool.or_self]
    rw [if_neg (by omega), if_neg (by omega)]
    rw [← ih fu (i + 1) (by omega) (by omega), show yst f (i + 1) = yst f i + (if isL f i = true then 366 else 365) from rfl]
    cases isL f i <;> simp
theorem A_startOf {L : Nat} {xs : Nat → Int32} {w : AW} (T : Top L xs w) {f y : Nat} (C : CF w f) (hy : y ≤ 4) : F_Ca_startOf w 17 (nI y) = some (nI (yst f y)) :=
  L_startOf T C hy y FUEL 0 (by omega) (Nat.lt_of_le_of_lt hy (by decide))
theorem A_endOf {L : Nat} {xs : Nat → Int32} {w : AW} (T : Top L xs w) {f y : Nat} (C : CF w f) (hy : y ≤ 3) : F_Ca_endOf w 17 (nI y) = some (nI (yst f (y + 1))) := by
  unfold F_Ca_endOf
  simp (disch := omega) only [qL, ↓qM, nI_add, t17 T, A_startOf T C, gd_true, beq_self_eq_true, bd_s, if_true, if_false, ↓reduceIte, ite_true, ite_false, Bool.and_self, Bool.and_true, Bool.true_and, Nat.reduceBEq, Bool.or_true, Bool.true_or, Bool.or_self]
theorem A_monthLength {L : Nat} {xs : Nat → Int32} {w : AW} (T : Top L xs w) {f y m : Nat} (C : CF w f) (hy : y < 4) (h1 : 1 ≤ m) (h2 : m ≤ 12) : F_Ca_monthLength w 17 (nI y) (nI m) = some (nI (mln f y m)) := by
  unfold F_Ca_monthLength F_Ca_monthLength_31
  rw [A_isLong T C (by omega)]
  simp (disch := omega) only [qL, ↓qM, q_le, q_lt, q_eq, nI_add, t17 T, q_b0, pk_sub, s2 T, q_inb, q_nat, gd_true, beq_self_eq_true, bd_s, if_true, if_false, ↓reduceIte, ite_true, ite_false, Bool.and_self, Bool.and_true, Bool.true_and, Nat.reduceBEq, Bool.or_true, Bool.true_or, Bool.or_self]
  rw [if_neg (by omega), if_pos (by omega)]
  unfold mln
  by_cases hm : m = 2
  · subst hm
    rw [if_pos rfl, if_pos rfl]
    cases isL f y
    · simp [s2 T]
    · simp
  · rw [if_neg hm, if_neg hm]
    have : m = 1 ∨ m = 3 ∨ m = 4 ∨ m = 5 ∨ m = 6 ∨ m = 7 ∨ m = 8 ∨ m = 9 ∨ m = 10 ∨ m = 11 ∨ m = 12 := by omega
    rcases this with h | h | h | h | h | h | h | h | h | h | h <;> subst h <;> simp [s2 T]
theorem L_dayOf {L : Nat} {xs : Nat → Int32} {w : AW} (T : Top L xs w) {f y m d : Nat} (C : CF w f) (hy : y < 4) (h1 : 1 ≤ m) (h2 : m ≤ 12) : ∀ k fu i, 1 ≤ i → i + k = m → k < fu → F_Ca_dayOf_30 w fu 17 (nI y) (nI m) (nI (bg f y i + d)) (nI i) = some (nI (bg f y m + d)) := by
  intro k
  induction k with
  | zero =>
    intro fu i hi1 hi hf
    obtain ⟨fu, rfl⟩ : ∃ m, fu = m + 1 := ⟨fu - 1, by omega⟩
    obtain rfl : i = m := by omega
    show F_Ca_dayOf_30_B (F_Ca_dayOf_30 w fu) w 17 _ _ _ _ = _
    unfold F_Ca_dayOf_30_B
    simp (disch := omega) only [qL, ↓qM, q_le]
    split
    · rfl
    · rw [if_pos (Nat.le_refl _)]
  | succ k ih =>
    intro fu i hi1 hi hf
    obtain ⟨fu, rfl⟩ : ∃ m, fu = m + 1 := ⟨fu - 1, by omega⟩
    show F_Ca_dayOf_30_B (F_Ca_dayOf_30 w fu) w 17 _ _ _ _ = _
    unfold F_Ca_dayOf_30_B
    rw [A_monthLength T C hy hi1 (by omega)]
    simp (disch := omega) only [qL, ↓qM, q_le, nI_add, t17 T, gd_true, beq_self_eq_true, bd_s, if_true, if_false, ↓reduceIte, ite_true, ite_false, Bool.and_self, Bool.and_true, Bool.true_and, Nat.reduceBEq, Bool.or_true, Bool.true_or, Bool.or_self]
    rw [if_neg (by omega), if_neg (by omega)]
    rw [← ih fu (i + 1) (by omega) (by omega) (by omega), bg_s f y i hi1, show bg f y i + d + mln f y i = bg f y i + mln f y i + d by omega]
theorem A_dayOf {L : Nat} {xs : Nat → Int32} {w : AW} (T : Top L xs w) {f y m d : Nat} (C : CF w f) (hy : y < 4) (h1 : 1 ≤ m) (h2 : m ≤ 12) (hd : 1 ≤ d) (hd2 : d ≤ 31) : F_Ca_dayOf w 17 (nI y) (nI m) (nI d) = some (if d ≤ mln f y m then nI (bg f y m + (d - 1)) else mI 1) := by
  have hl := mln_le f y m
  have hb := bg_le f y 1
  unfold F_Ca_dayOf
  rw [A_monthLength T C hy h1 h2, A_startOf T C (by omega)]
  simp (disch := omega) only [qL, ↓qM, A_within_b, q_int, q_b0, nI_add, t17 T, gd_true, beq_self_eq_true, bd_s, if_true, if_false, ↓reduceIte, ite_true, ite_false, Bool.and_self, Bool.and_true, Bool.true_and, Nat.reduceBEq, Bool.or_true, Bool.true_or, Bool.or_self]
  by_cases h : d ≤ mln f y m
  · rw [if_neg (by simp; omega), if_pos h, pk_sub (by omega), show yst f y + d - 1 = bg f y 1 + (d - 1) by rw [bg_1]; omega]
    exact L_dayOf T C hy h1 h2 (m - 1) FUEL 1 (by omega) (by omega) (Nat.lt_of_le_of_lt (by omega : m - 1 ≤ 12) (by decide))
  · rw [if_pos (by simp; omega), if_neg h]
theorem A_dayOf1 {L : Nat} {xs : Nat → Int32} {w : AW} (T : Top L xs w) {f y m : Nat} (C : CF w f) (hy : y < 4) (h1 : 1 ≤ m) (h2 : m ≤ 12) : F_Ca_dayOf w 17 (nI y) (nI m) (nI 1) = some (nI (bg f y m)) := by
  rw [A_dayOf T C hy h1 h2 (by omega) (by omega), if_pos (by have := mln_ge f y m; omega)]; rfl
theorem A_yearOf {L : Nat} {xs : Nat → Int32} {w : AW} (T : Top L xs w) {f n : Nat} (C : CF w f) (hn : n < 1461) : F_Ca_yearOf w 17 (nI n) = some (nI (yr f n)) := by
  have e : ∀ y, y ≤ 4 → yst f y < 2000 := fun y hy => by have := yst_le f y; omega
  have e1 := e 1 (by omega)
  have e2 := e 2 (by omega)
  have e3 := e 3 (by omega)
  have st : ∀ fu y, y < 3 → F_Ca_yearOf_2 w (fu + 1) 17 (nI n) (nI y) = if n < yst f (y + 1) then some (nI y) else F_Ca_yearOf_2 w fu 17 (nI n) (nI (y + 1)) := by
    intro fu y hy
    have := e (y + 1) (by omega)
    show F_Ca_yearOf_2_B (F_Ca_yearOf_2 w fu) w 17 _ _ = _
    unfold F_Ca_yearOf_2_B
    rw [A_endOf T C (by omega)]
    simp (disch := omega) only [qL, ↓qM, q_le, q_lt, nI_add, t17 T, gd_true, beq_self_eq_true, bd_s, if_true, if_false, ↓reduceIte, ite_true, ite_false, Bool.and_self, Bool.and_true, Bool.true_and, Nat.reduceBEq, Bool.or_true, Bool.true_or, Bool.or_self]
    rw [if_neg (by omega)]
  have st3 : ∀ fu, F_Ca_yearOf_2 w (fu + 1) 17 (nI n) (nI 3) = some (nI 3) := by
    intro fu
    show F_Ca_yearOf_2_B (F_Ca_yearOf_2 w fu) w 17 _ _ = _
    unfold F_Ca_yearOf_2_B
    simp (disch := omega) only [qL, ↓qM, q_le, gd_true, beq_self_eq_true, bd_s, if_true, if_false, ↓reduceIte, ite_true, ite_false, Bool.and_self, Bool.and_true, Bool.true_and, Nat.reduceBEq, Bool.or_true, Bool.true_or, Bool.or_self]
    rw [if_pos (by omega)]
  unfold F_Ca_yearOf yr
  rw [l_0, show FUEL = 999996 + 1 + 1 + 1 + 1 from rfl, st _ 0 (by omega), st _ 1 (by omega), st _ 2 (by omega), st3]
  repeat' split
  all_goals rfl
theorem L_monthOf {L : Nat} {xs : Nat → Int32} {w : AW} (T : Top L xs w) {f y n : Nat} (C : CF w f) (hy : y < 4) (hn : n < 1461) : ∀ k fu m, 1 ≤ m → m + k = 12 → k < fu → F_Ca_monthOf_22 w fu 17 (nI n) (nI y) (nI m) (nI (bg f y (m + 1))) = some (nI (mU f y n k m)) := by
  intro k
  induction k with
  | zero =>
    intro fu m h1 hm hf
    obtain ⟨fu, rfl⟩ : ∃ m, fu = m + 1 := ⟨fu - 1, by omega⟩
    show F_Ca_monthOf_22_B (F_Ca_monthOf_22 w fu) w 17 _ _ _ _ = _
    unfold F_Ca_monthOf_22_B
    simp (disch := omega) only [qL, ↓qM, q_le, gd_true, beq_self_eq_true, bd_s, if_true, if_false, ↓reduceIte, ite_true, ite_false, Bool.and_self, Bool.and_true, Bool.true_and, Nat.reduceBEq, Bool.or_true, Bool.true_or, Bool.or_self]
    rw [if_pos (by omega)]
    rfl
  | succ k ih =>
    intro fu m h1 hm hf
    obtain ⟨fu, rfl⟩ : ∃ m, fu = m + 1 := ⟨fu - 1, by omega⟩
    have hb := bg_le f y (m + 1)
    show F_Ca_monthOf_22_B (F_Ca_monthOf_22 w fu) w 17 _ _ _ _ = _
    unfold F_Ca_monthOf_22_B
    simp (disch := omega) only [qL, ↓qM, q_le, q_lt, nI_add, t17 T, A_monthLength T C, gd_true, beq_self_eq_true, bd_s, if_true, if_false, ↓reduceIte, ite_true, ite_false, Bool.and_self, Bool.and_true, Bool.true_and, Nat.reduceBEq, Bool.or_true, Bool.true_or, Bool.or_self]
    rw [if_neg (by omega), ← bg_s f y (m + 1) (by omega), ih fu (m + 1) (by omega) (by omega) (by omega)]
    show _ = some (nI (if n < bg f y (m + 1) then m else mU f y n k (m + 1)))
    split <;> rfl
theorem A_monthOf {L : Nat} {xs : Nat → Int32} {w : AW} (T : Top L xs w) {f n : Nat} (C : CF w f) (hn : n < 1461) : F_Ca_monthOf w 17 (nI n) = some (nI (mo f n)) := by
  have hy := yr_le f n
  unfold F_Ca_monthOf
  simp (disch := omega) only [qL, ↓qM, t17 T, A_yearOf T C hn, A_startOf T C, A_monthLength T C, nI_add, gd_true, beq_self_eq_true, bd_s, if_true, if_false, ↓reduceIte, ite_true, ite_false, Bool.and_self, Bool.and_true, Bool.true_and, Nat.reduceBEq, Bool.or_true, Bool.true_or, Bool.or_self]
  rw [show yst f (yr f n) + mln f (yr f n) 1 = bg f (yr f n) (1 + 1) by rw [bg_s _ _ _ (by omega), bg_1]]
  exact L_monthOf T C (by omega) hn 11 FUEL 1 (by omega) (by omega) (by decide)
theorem A_dateOf {L : Nat} {xs : Nat → Int32} {w : AW} (T : Top L xs w) {f n : Nat} (C : CF w f) (hn : n < 1461) : F_Ca_dateOf w 17 (nI n) = some (nI (n - bg f (yr f n) (mo f n) + 1)) := by
  have hy := yr_le f n
  have hm := mo_spec C.2 hn
  unfold F_Ca_dateOf
  simp (disch := omega) only [qL, ↓qM, t17 T, A_yearOf T C hn, A_monthOf T C hn, A_dayOf1 T C, pk_sub, nI_add, gd_true, beq_self_eq_true, bd_s, if_true, if_false, ↓reduceIte, ite_true, ite_false, Bool.and_self, Bool.and_true, Bool.true_and, Nat.reduceBEq, Bool.or_true, Bool.true_or, Bool.or_self]
