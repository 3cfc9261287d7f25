/-! PURE: the reference's worths -/
theorem fI_m (S : Nat → Nat → Int32) (k v n : Nat) : (fI S k v n = mI 1) = (opS S k 0 v n = true) := by
  unfold fI
  cases opS S k 0 v n <;> cases hld S k 0 v n <;> simp (disch := decide) [q_nm, q_mn]
theorem fI_1 (S : Nat → Nat → Int32) (k v n : Nat) : (fI S k v n = nI 1) = (opS S k 0 v n = false ∧ hld S k 0 v n = true) := by
  unfold fI
  cases opS S k 0 v n <;> cases hld S k 0 v n <;> simp (disch := decide) [q_nm, q_mn, q_eq]
theorem sI_m (S : Nat → Nat → Int32) (k v n : Nat) : (sI S k v n = mI 1) = (sk S k v n = false) := by
  unfold sI
  cases sk S k v n <;> cases sw S k v n <;> simp (disch := decide) [q_nm, q_mn]
theorem sI_1 (S : Nat → Nat → Int32) (k v n : Nat) : (sI S k v n = nI 1) = (sk S k v n = true ∧ sw S k v n = true) := by
  unfold sI
  cases sk S k v n <;> cases sw S k v n <;> simp (disch := decide) [q_nm, q_mn, q_eq]
/-- a count over some days -/
def ct (P : Nat → Bool) (a b : Nat) : Nat := cnt (fun j => P (a + j)) (b - a)
theorem ct_le (P : Nat → Bool) (a b : Nat) : ct P a b ≤ b - a := cnt_le _ _
theorem cnt_s (P : Nat → Bool) (n : Nat) : cnt P (n + 1) = cnt P n + (if P n = true then 1 else 0) := rfl
theorem M_countOf {L : Nat} {xs : Nat → Int32} {w : AW} (T : Top L xs w) {S : Nat → Nat → Int32} (R : RA S w) (If : IMf S) (Is : IMs S) {k v a b what : Nat} (hk : k < 8) (hv : v < 3) (hab : a ≤ b) (hb : b ≤ 1461) (hw : what < 4) (Ik : IMk S k) : ∃ w', F_M_countOf 271 (nI k) (nI v) (nI a) (nI b) (nI what) w = some (nI (ct (ofW S k v what) a b), w') ∧ MQs S w w' := by
  have loop : ∀ j fu c (u : AW), c + j = b - a → j < fu → MQs S w u → ∃ w', F_M_countOf_6 fu 271 (nI k) (nI v) (nI b) (nI what) (nI (cnt (fun j => ofW S k v what (a + j)) c)) (nI (a + c)) u = some (nI (ct (ofW S k v what) a b), w') ∧ MQs S w w' := by
    intro j
    induction j with
    | zero =>
      intro fu c u hj hf hu
      obtain ⟨fu, rfl⟩ : ∃ m, fu = m + 1 := ⟨fu - 1, by omega⟩
      obtain rfl : c = b - a := by omega
      refine ⟨u, ?_, hu⟩
      show F_M_countOf_6_B (F_M_countOf_6 fu) _ _ _ _ _ _ _ u = _
      unfold F_M_countOf_6_B
      simp (disch := omega) only [q_le]
      rw [if_pos (by omega)]
      rfl
    | succ j ih =>
      intro fu c u hj hf hu
      obtain ⟨fu, rfl⟩ : ∃ m, fu = m + 1 := ⟨fu - 1, by omega⟩
      have T1 := T.sh hu.1.sh
      obtain ⟨u1, e1, q1⟩ := M_isOf T1 hu.2 If Is hk hv (show a + c < 1461 by omega) hw Ik
      obtain ⟨w', r1, r2⟩ := ih fu (c + 1) u1 (by omega) (by omega) (hu.trans q1)
      refine ⟨w', ?_, r2⟩
      show F_M_countOf_6_B (F_M_countOf_6 fu) _ _ _ _ _ _ _ u = _
      unfold F_M_countOf_6_B
      simp (disch := omega) only [qL, ↓qM, q_le, mK T1, e1, q_b0, nI_add, gd_true, beq_self_eq_true, bd_s, if_true, if_false, ↓reduceIte, ite_true, ite_false, Bool.and_self, Bool.and_true, Bool.true_and, Nat.reduceBEq, Bool.or_true, Bool.true_or, Bool.or_self]
      rw [if_neg (by omega)]
      rw [cnt_s] at r1
      cases hx : ofW S k v what (a + c) <;> rw [hx] at r1 <;> simp only [if_true, if_false, reduceCtorEq] <;> exact r1
  unfold F_M_countOf
  rw [l_0]
  exact loop (b - a) FUEL 0 w (by omega) (Nat.lt_of_le_of_lt (by omega : b - a ≤ 1461) (by decide)) (MQs.refl R)
/-- a month's days of the years below y -/
def mcS (S : Nat → Nat → Int32) (k v m what : Nat) : Nat → Nat
  | 0 => 0
  | y + 1 => mcS S k v m what y + ct (ofW S k v what) (bg (sF S) y m) (bg (sF S) y m + mln (sF S) y m)
theorem mcS_le (S : Nat → Nat → Int32) (k v m what : Nat) : ∀ y, mcS S k v m what y ≤ 31 * y
  | 0 => Nat.le_refl _
  | y + 1 => by
    show mcS S k v m what y + ct _ _ _ ≤ _
    have h1 := mcS_le S k v m what y
    have h2 := ct_le (ofW S k v what) (bg (sF S) y m) (bg (sF S) y m + mln (sF S) y m)
    have h3 := mln_le (sF S) y m
    omega
theorem mbound {f y m : Nat} (hf : f < 4) (hy : y < 4) (h1 : 1 ≤ m) (h2 : m ≤ 12) : bg f y m + mln f y m ≤ 1461 := by
  have hb := bg_s f y m h1
  have hb2 := bg_mono f y (show 1 ≤ m + 1 by omega) (show m + 1 ≤ 13 by omega)
  rw [bg_13 hf hy] at hb2
  have hb3 := yst_mono f (show y + 1 ≤ 4 by omega)
  rw [yst_4 f hf] at hb3
  omega
theorem M_monthCount {L : Nat} {xs : Nat → Int32} {w : AW} (T : Top L xs w) {S : Nat → Nat → Int32} (R : RA S w) (If : IMf S) (Is : IMs S) {k v m what : Nat} (hk : k < 8) (hv : v < 3) (h1 : 1 ≤ m) (h2 : m ≤ 12) (hw : what < 4) (Ik : IMk S k) : ∃ w', F_M_monthCount 271 (nI k) (nI v) (nI m) (nI what) w = some (nI (mcS S k v m what 4), w') ∧ MQs S w w' := by
  have loop : ∀ j fu y (u : AW), y + j = 4 → j < fu → MQs S w u → ∃ w', F_M_monthCount_6 fu 271 (nI k) (nI v) (nI m) (nI what) (nI (mcS S k v m what y)) (nI y) u = some (nI (mcS S k v m what 4), w') ∧ MQs S w w' := by
    intro j
    induction j with
    | zero =>
      intro fu y u hj hf hu
      obtain ⟨fu, rfl⟩ : ∃ m, fu = m + 1 := ⟨fu - 1, by omega⟩
      obtain rfl : y = 4 := by omega
      refine ⟨u, ?_, hu⟩
      show F_M_monthCount_6_B (F_M_monthCount_6 fu) _ _ _ _ _ _ _ u = _
      unfold F_M_monthCount_6_B
      simp (disch := omega) only [qL, ↓qM, q_le]
      rw [if_pos (by omega)]
    | succ j ih =>
      intro fu y u hj hf hu
      obtain ⟨fu, rfl⟩ : ∃ m, fu = m + 1 := ⟨fu - 1, by omega⟩
      have T1 := T.sh hu.1.sh
      have hb := mbound If.2 (show y < 4 by omega) h1 h2
      obtain ⟨u1, e1, q1⟩ := M_countOf T1 hu.2 If Is hk hv (show bg (sF S) y m ≤ bg (sF S) y m + mln (sF S) y m by omega) hb hw Ik
      obtain ⟨w', r1, r2⟩ := ih fu (y + 1) u1 (by omega) (by omega) (hu.trans q1)
      refine ⟨w', ?_, r2⟩
      show F_M_monthCount_6_B (F_M_monthCount_6 fu) _ _ _ _ _ _ _ u = _
      unfold F_M_monthCount_6_B
      rw [M_begin T1 hu.2 If (by omega) h1 (by omega), M_length T1 hu.2 If (by omega) (by omega)]
      simp (disch := omega) only [qL, ↓qM, q_le, mK T1, e1, nI_add, gd_true, beq_self_eq_true, bd_s, if_true, if_false, ↓reduceIte, ite_true, ite_false, Bool.and_self, Bool.and_true, Bool.true_and, Nat.reduceBEq, Bool.or_true, Bool.true_or, Bool.or_self]
      rw [if_neg (by omega)]
      exact r1
  unfold F_M_monthCount
  rw [l_0]
  exact loop 4 FUEL 0 w (by omega) (by decide) (MQs.refl R)
/-- expected, of the months below m -/
def exM (S : Nat → Nat → Int32) (k v m : Nat) : Nat := if mcS S k v m 1 4 ≤ 0 then 0 else mcS S k v m 1 4 * 1000 * mcS S k v m 3 4 / mcS S k v m 0 4
def exS (S : Nat → Nat → Int32) (k v : Nat) : Nat → Nat
  | 0 => 0
  | c + 1 => exS S k v c + exM S k v (c + 1)
theorem cnt_mono {P Q : Nat → Bool} (h : ∀ i, P i = true → Q i = true) : ∀ n, cnt P n ≤ cnt Q n
  | 0 => Nat.le_refl _
  | n + 1 => by
    rw [cnt_s, cnt_s]
    have := cnt_mono h n
    by_cases hp : P n = true
    · rw [if_pos hp, if_pos (h n hp)]; omega
    · rw [if_neg hp]; omega
theorem mcS_mono (S : Nat → Nat → Int32) (k v m what : Nat) : ∀ y, mcS S k v m what y ≤ mcS S k v m 0 y
  | 0 => Nat.le_refl _
  | y + 1 => by
    show mcS S k v m what y + ct _ _ _ ≤ mcS S k v m 0 y + ct _ _ _
    have h1 := mcS_mono S k v m what y
    have h2 : ct (ofW S k v what) (bg (sF S) y m) (bg (sF S) y m + mln (sF S) y m) ≤ ct (ofW S k v 0) (bg (sF S) y m) (bg (sF S) y m + mln (sF S) y m) := cnt_mono (fun i hi => by
      unfold ofW at *
      rw [Bool.and_eq_true] at hi
      rw [hi.1]; rfl) _
    omega
theorem exM_le (S : Nat → Nat → Int32) (k v m : Nat) : exM S k v m ≤ 15376000 := by
  unfold exM
  have h1 := mcS_le S k v m 1 4
  have h3 := mcS_le S k v m 3 4
  split
  · omega
  · refine Nat.le_trans (Nat.div_le_self _ _) ?_
    exact Nat.le_trans (Nat.mul_le_mul (Nat.mul_le_mul_right 1000 h1) h3) (by decide)
theorem exS_le (S : Nat → Nat → Int32) (k v : Nat) : ∀ c, exS S k v c ≤ 15376000 * c
  | 0 => Nat.le_refl _
  | c + 1 => by
    show exS S k v c + exM S k v (c + 1) ≤ _
    have := exS_le S k v c
    have := exM_le S k v (c + 1)
    omega
theorem mulb {a b : Nat} (ha : a ≤ 124) (hb : b ≤ 124) : a * 1000 * b < 2147483648 := Nat.lt_of_le_of_lt (Nat.mul_le_mul (Nat.mul_le_mul_right 1000 ha) hb) (by decide)
theorem M_expectedOf {L : Nat} {xs : Nat → Int32} {w : AW} (T : Top L xs w) {S : Nat → Nat → Int32} (R : RA S w) (If : IMf S) (Is : IMs S) {k v : Nat} (hk : k < 8) (hv : v < 3) (Ik : IMk S k) : ∃ w', F_M_expectedOf 271 (nI k) (nI v) w = some (nI (exS S k v 12), w') ∧ MQs S w w' := by
  have loop : ∀ j fu c (u : AW), c + j = 12 → j < fu → MQs S w u → ∃ w', F_M_expectedOf_5 fu 271 (nI k) (nI v) (nI (exS S k v c)) (nI (c + 1)) u = some (nI (exS S k v 12), w') ∧ MQs S w w' := by
    intro j
    induction j with
    | zero =>
      intro fu c u hj hf hu
      obtain ⟨fu, rfl⟩ : ∃ m, fu = m + 1 := ⟨fu - 1, by omega⟩
      obtain rfl : c = 12 := by omega
      refine ⟨u, ?_, hu⟩
      show F_M_expectedOf_5_B (F_M_expectedOf_5 fu) _ _ _ _ _ u = _
      unfold F_M_expectedOf_5_B
      simp (disch := omega) only [qL, ↓qM, q_lt]
      rw [if_pos (by omega)]
    | succ j ih =>
      intro fu c u hj hf hu
      obtain ⟨fu, rfl⟩ : ∃ m, fu = m + 1 := ⟨fu - 1, by omega⟩
      have T1 := T.sh hu.1.sh
      have b1 := mcS_le S k v (c + 1) 1 4
      have b3 := mcS_le S k v (c + 1) 3 4
      have b0 := mcS_le S k v (c + 1) 0 4
      have mm := mcS_mono S k v (c + 1) 1 4
      obtain ⟨u1, e1, q1⟩ := M_monthCount T1 hu.2 If Is hk hv (show 1 ≤ c + 1 by omega) (by omega) (show 1 < 4 by omega) Ik
      have T2 := T1.sh q1.1.sh
      obtain ⟨u2, e2, q2⟩ := M_monthCount T2 q1.2 If Is hk hv (show 1 ≤ c + 1 by omega) (by omega) (show 3 < 4 by omega) Ik
      have T3 := T2.sh q2.1.sh
      obtain ⟨u3, e3, q3⟩ := M_monthCount T3 q2.2 If Is hk hv (show 1 ≤ c + 1 by omega) (by omega) (show 0 < 4 by omega) Ik
      show ∃ w', F_M_expectedOf_5_B (F_M_expectedOf_5 fu) _ _ _ _ _ u = _ ∧ _
      unfold F_M_expectedOf_5_B
      simp (disch := omega) only [qL, ↓qM, q_lt, q_le, mK T1, mK T2, mK T3, e1, e2, e3, pk_mul, nI_add, q_eq, gd_true, beq_self_eq_true, bd_s, if_true, if_false, ↓reduceIte, ite_true, ite_false, Bool.and_self, Bool.and_true, Bool.true_and, Nat.reduceBEq, Bool.or_true, Bool.true_or, Bool.or_self]
      rw [if_neg (by omega)]
      by_cases h0 : mcS S k v (c + 1) 1 4 ≤ 0
      · rw [if_pos h0]
        obtain ⟨w', r1, r2⟩ := ih fu (c + 1) u1 (by omega) (by omega) (hu.trans q1)
        have e : exS S k v (c + 1) = exS S k v c := by
          show exS S k v c + exM S k v (c + 1) = _
          unfold exM; rw [if_pos h0]; rfl
        rw [e] at r1
        exact ⟨w', r1, r2⟩
      · rw [if_neg h0, gd_t (by simp; omega), q_div (mulb b1 b3) (by omega) (by omega), nI_add]
        obtain ⟨w', r1, r2⟩ := ih fu (c + 1) u3 (by omega) (by omega) ((hu.trans q1).trans (q2.trans q3))
        have e : exS S k v (c + 1) = exS S k v c + mcS S k v (c + 1) 1 4 * 1000 * mcS S k v (c + 1) 3 4 / mcS S k v (c + 1) 0 4 := by
          show exS S k v c + exM S k v (c + 1) = _
          unfold exM; rw [if_neg h0]
        rw [e] at r1
        exact ⟨w', r1, r2⟩
  unfold F_M_expectedOf
  rw [l_0, l_1]
  exact loop 12 FUEL 0 w (by omega) (by decide) (MQs.refl R)
def woI (S : Nat → Nat → Int32) (k v : Nat) : Int32 := nI (1000 * ct (ofW S k v 2) 0 1461) - nI (exS S k v 12)
theorem M_worthOf {L : Nat} {xs : Nat → Int32} {w : AW} (T : Top L xs w) {S : Nat → Nat → Int32} (R : RA S w) (If : IMf S) (Is : IMs S) {k v : Nat} (hk : k < 8) (hv : v < 3) (Ik : IMk S k) : ∃ w', F_M_worthOf 271 (nI k) (nI v) w = some (woI S k v, w') ∧ MQs S w w' := by
  obtain ⟨u1, e1, q1⟩ := M_countOf T R If Is hk hv (show 0 ≤ 1461 by omega) (Nat.le_refl _) (show 2 < 4 by omega) Ik
  have T1 := T.sh q1.1.sh
  obtain ⟨u2, e2, q2⟩ := M_expectedOf T1 q1.2 If Is hk hv Ik
  refine ⟨u2, ?_, q1.trans q2⟩
  unfold F_M_worthOf woI
  simp only [qL, ↓qM, mK T, mK T1, e1, e2, pk_mul, gd_true, beq_self_eq_true, bd_s, if_true, if_false, ↓reduceIte, ite_true, ite_false, Bool.and_self, Bool.and_true, Bool.true_and, Nat.reduceBEq, Bool.or_true, Bool.true_or, Bool.or_self]
/-- turned: a case, or right -/
def tuS (S : Nat → Nat → Int32) (k v t what n : Nat) : Bool := seS S k n && (!opS S k 0 v n && hld S k 0 v n) && (tok (sF S) t n && sk S k v (tdy (sF S) t n)) && (decide (what = 1) || sw S k v (tdy (sF S) t n))
theorem M_turnedCount {L : Nat} {xs : Nat → Int32} {w : AW} (T : Top L xs w) {S : Nat → Nat → Int32} (R : RA S w) (If : IMf S) (Is : IMs S) {k v t what : Nat} (hk : k < 8) (hv : v < 3) (ht : t < 4) (hw : what < 2) (Ik : IMk S k) : ∃ w', F_M_turnedCount 271 (nI k) (nI v) (nI t) (nI what) w = some (nI (cnt (tuS S k v t what) 1461), w') ∧ MQs S w w' := by
  have hf := If.2
  have days : ∀ (rec6 : Nat → Int32 → Int32 → Int32 → Int32 → Int32 → Int32 → AW → Option (Int32 × AW)) (rec15 : Nat → Int32 → Int32 → Int32 → Int32 → Int32 → Int32 → Int32 → AW → Option (Int32 × AW)) (y m : Nat), y < 4 → 1 ≤ m → m ≤ 12 → ∀ j fu d (u : AW), 1 ≤ d → d + j = mln (sF S) y m + 1 → j < fu → MQs S w u → ∃ u', F_M_turnedCount_25 rec6 rec15 fu 271 (nI k) (nI v) (nI t) (nI what) (nI (cnt (tuS S k v t what) (bg (sF S) y m + (d - 1)))) (nI y) (nI m) (nI d) u = rec15 271 (nI k) (nI v) (nI t) (nI what) (nI (cnt (tuS S k v t what) (bg (sF S) y (m + 1)))) (nI y) (nI (m + 1)) u' ∧ MQs S w u' := by
    intro rec6 rec15 y m hy h1 h2 j
    have hl := mln_le (sF S) y m
    have hb := mbound hf hy h1 h2
    have hbs := bg_s (sF S) y m h1
    induction j with
    | zero =>
      intro fu d u hd hj hfu hu
      obtain ⟨fu, rfl⟩ : ∃ m, fu = m + 1 := ⟨fu - 1, by omega⟩
      have T1 := T.sh hu.1.sh
      refine ⟨u, ?_, hu⟩
      show F_M_turnedCount_25_B rec6 rec15 (F_M_turnedCount_25 rec6 rec15 fu) _ _ _ _ _ _ _ _ _ u = _
      unfold F_M_turnedCount_25_B
      rw [M_length T1 hu.2 If (by omega) (by omega)]
      simp (disch := omega) only [qL, ↓qM, q_lt, mK T1, nI_add, gd_true, beq_self_eq_true, bd_s, if_true, if_false, ↓reduceIte, ite_true, ite_false, Bool.and_self, Bool.and_true, Bool.true_and, Nat.reduceBEq, Bool.or_true, Bool.true_or, Bool.or_self]
      rw [if_pos (by omega), hbs, show bg (sF S) y m + (d - 1) = bg (sF S) y m + mln (sF S) y m by omega]
    | succ j ih =>
      intro fu d u hd hj hfu hu
      obtain ⟨fu, rfl⟩ : ∃ m, fu = m + 1 := ⟨fu - 1, by omega⟩
      have T1 := T.sh hu.1.sh
      generalize hn : bg (sF S) y m + (d - 1) = n at *
      have hn2 : n < 1461 := by omega
      have hym := (mo_iff hf hn2 hy h1 h2).mp (by omega)
      have etok : tok (sF S) t n = decide (d ≤ mln (sF S) ((y + t) % 4) m) := by
        unfold tok
        rw [hym.1, hym.2]
        exact decide_eq_decide.mpr (by omega)
      have etdy : tdy (sF S) t n = bg (sF S) ((y + t) % 4) m + (d - 1) := by
        unfold tdy
        rw [hym.1, hym.2]
        omega
      have cont : ∀ (u1 : AW) (b : Bool), MQs S w u1 → tuS S k v t what n = b → ∃ u', F_M_turnedCount_25 rec6 rec15 fu 271 (nI k) (nI v) (nI t) (nI what) (nI (cnt (tuS S k v t what) n + (if b = true then 1 else 0))) (nI y) (nI m) (nI (d + 1)) u1 = rec15 271 (nI k) (nI v) (nI t) (nI what) (nI (cnt (tuS S k v t what) (bg (sF S) y (m + 1)))) (nI y) (nI (m + 1)) u' ∧ MQs S w u' := by
        intro u1 b hu1 hb1
        have r := ih fu (d + 1) u1 (by omega) (by omega) (by omega) hu1
        rw [show bg (sF S) y m + (d + 1 - 1) = n + 1 by omega, cnt_s, hb1] at r
        exact r
      have d1 := M_dayOf T1 hu.2 If hy h1 h2 hd (by omega : d ≤ 31)
      have d2 := M_dayOf (y := (y + t) % 4) T1 hu.2 If (by omega) h1 h2 hd (by omega : d ≤ 31)
      rw [if_pos (by omega), hn] at d1
      have e3 := M_isInSeason T1 hu.2 If Is hk hn2 Ik
      obtain ⟨u1, e4, q4⟩ := M_firstOf T1 hu.2 hk hv hn2 Ik
      show ∃ u', F_M_turnedCount_25_B rec6 rec15 (F_M_turnedCount_25 rec6 rec15 fu) _ _ _ _ _ _ _ _ _ u = _ ∧ _
      unfold F_M_turnedCount_25_B F_M_turnedCount_124 F_M_turnedCount_128
      rw [M_length T1 hu.2 If (by omega) (by omega)]
      by_cases hd2 : d ≤ mln (sF S) ((y + t) % 4) m
      · have hb2 := mbound hf (show (y + t) % 4 < 4 by omega) h1 h2
        rw [if_pos hd2] at d2
        simp (disch := omega) only [qL, ↓qM, q_lt, mK T1, nI_add, d1, q_rem, d2, q_nm, e3, e4, q_b0, fI_1, q_eq, gd_true, beq_self_eq_true, bd_s, if_true, if_false, ↓reduceIte, ite_true, ite_false, Bool.and_self, Bool.and_true, Bool.true_and, Nat.reduceBEq, Bool.or_true, Bool.true_or, Bool.or_self]
        rw [if_neg (by omega)]
        have htd : tdy (sF S) t n < 1461 := by rw [etdy]; omega
        rw [decide_eq_true hd2] at etok
        by_cases hse : seS S k n = false
        · rw [if_pos hse]
          exact cont u false hu (by unfold tuS; rw [hse]; rfl)
        · rw [if_neg hse]
          have hse2 : seS S k n = true := by simpa using hse
          by_cases hfi : opS S k 0 v n = false ∧ hld S k 0 v n = true
          · rw [if_pos hfi]
            have T2 := T1.sh q4.1.sh
            rw [← etdy]
            obtain ⟨u2, e5, q5⟩ := M_secondOf T2 q4.2 hk hv htd Ik
            simp (disch := omega) only [mK T2, e5, sI_m, sI_1, gd_true, beq_self_eq_true, bd_s, if_true, if_false, ↓reduceIte, ite_true, ite_false, Bool.and_self, Bool.and_true, Bool.true_and, Nat.reduceBEq, Bool.or_true, Bool.true_or, Bool.or_self]
            have U2 := hu.trans (q4.trans q5)
            have eall : tuS S k v t what n = (sk S k v (tdy (sF S) t n) && (decide (what = 1) || sw S k v (tdy (sF S) t n))) := by
              unfold tuS
              rw [hse2, hfi.1, hfi.2, etok]; simp
            by_cases hsk : sk S k v (tdy (sF S) t n) = false
            · rw [if_pos hsk]
              exact cont u2 false U2 (by rw [eall, hsk]; rfl)
            · rw [if_neg hsk]
              have hsk2 : sk S k v (tdy (sF S) t n) = true := by simpa using hsk
              by_cases hw1 : what = 1
              · rw [if_pos hw1]
                exact cont u2 true U2 (by rw [eall, hsk2, decide_eq_true hw1]; rfl)
              · rw [if_neg hw1]
                by_cases hsw : sw S k v (tdy (sF S) t n) = true
                · rw [if_pos ⟨hsk2, hsw⟩]
                  exact cont u2 true U2 (by rw [eall, hsk2, hsw]; simp)
                · rw [if_neg (fun h => hsw h.2)]
                  exact cont u2 false U2 (by rw [eall, hsk2, decide_eq_false hw1, show sw S k v (tdy (sF S) t n) = false by simpa using hsw]; rfl)
          · rw [if_neg hfi]
            exact cont u1 false (hu.trans q4) (by
              unfold tuS
              cases h1 : opS S k 0 v n <;> cases h2 : hld S k 0 v n
              · simp
              · exact absurd ⟨h1, h2⟩ hfi
              · simp
              · simp)
      · rw [if_neg hd2] at d2
        simp (disch := omega) only [qL, ↓qM, q_lt, mK T1, nI_add, d1, q_rem, d2, gd_true, beq_self_eq_true, bd_s, if_true, if_false, ↓reduceIte, ite_true, ite_false, Bool.and_self, Bool.and_true, Bool.true_and, Nat.reduceBEq, Bool.or_true, Bool.true_or, Bool.or_self]
        rw [if_neg (by omega)]
        rw [decide_eq_false hd2] at etok
        exact cont u false hu (by unfold tuS; rw [etok]; simp)
  have months : ∀ (rec6 : Nat → Int32 → Int32 → Int32 → Int32 → Int32 → Int32 → AW → Option (Int32 × AW)) (y : Nat), y < 4 → ∀ j fu m (u : AW), 1 ≤ m → m + j = 13 → j < fu → MQs S w u → ∃ u', F_M_turnedCount_15 rec6 fu 271 (nI k) (nI v) (nI t) (nI what) (nI (cnt (tuS S k v t what) (bg (sF S) y m))) (nI y) (nI m) u = rec6 271 (nI k) (nI v) (nI t) (nI what) (nI (cnt (tuS S k v t what) (yst (sF S) (y + 1)))) (nI (y + 1)) u' ∧ MQs S w u' := by
    intro rec6 y hy j
    induction j with
    | zero =>
      intro fu m u h1 hj hfu hu
      obtain ⟨fu, rfl⟩ : ∃ m, fu = m + 1 := ⟨fu - 1, by omega⟩
      obtain rfl : m = 13 := by omega
      refine ⟨u, ?_, hu⟩
      show F_M_turnedCount_15_B rec6 (F_M_turnedCount_15 rec6 fu) _ _ _ _ _ _ _ _ u = _
      unfold F_M_turnedCount_15_B
      simp (disch := omega) only [qL, ↓qM, q_lt, nI_add]
      rw [if_pos (by omega), bg_13 hf hy]
    | succ j ih =>
      intro fu m u h1 hj hfu hu
      obtain ⟨fu, rfl⟩ : ∃ m, fu = m + 1 := ⟨fu - 1, by omega⟩
      obtain ⟨u1, e1, q1⟩ := days rec6 (F_M_turnedCount_15 rec6 fu) y m hy h1 (by omega) (mln (sF S) y m) FUEL 1 u (by omega) (by omega) (Nat.lt_of_le_of_lt (mln_le _ _ _) (by decide)) hu
      obtain ⟨u2, e2, q2⟩ := ih fu (m + 1) u1 (by omega) (by omega) (by omega) q1
      refine ⟨u2, ?_, q2⟩
      show F_M_turnedCount_15_B rec6 (F_M_turnedCount_15 rec6 fu) _ _ _ _ _ _ _ _ u = _
      unfold F_M_turnedCount_15_B
      simp (disch := omega) only [l_12, q_lt]
      rw [if_neg (by omega), l_1]
      refine Eq.trans e1 e2
  have years : ∀ j fu y (u : AW), y + j = 4 → j < fu → MQs S w u → ∃ w', F_M_turnedCount_6 fu 271 (nI k) (nI v) (nI t) (nI what) (nI (cnt (tuS S k v t what) (yst (sF S) y))) (nI y) u = some (nI (cnt (tuS S k v t what) 1461), w') ∧ MQs S w w' := by
    intro j
    induction j with
    | zero =>
      intro fu y u hj hfu hu
      obtain ⟨fu, rfl⟩ : ∃ m, fu = m + 1 := ⟨fu - 1, by omega⟩
      obtain rfl : y = 4 := by omega
      refine ⟨u, ?_, hu⟩
      show F_M_turnedCount_6_B (F_M_turnedCount_6 fu) _ _ _ _ _ _ _ u = _
      unfold F_M_turnedCount_6_B
      simp (disch := omega) only [qL, ↓qM, q_le]
      rw [if_pos (by omega), yst_4 _ hf]
    | succ j ih =>
      intro fu y u hj hfu hu
      obtain ⟨fu, rfl⟩ : ∃ m, fu = m + 1 := ⟨fu - 1, by omega⟩
      obtain ⟨u1, e1, q1⟩ := months (F_M_turnedCount_6 fu) y (by omega) 12 FUEL 1 u (by omega) (by omega) (by decide) hu
      obtain ⟨w', r1, r2⟩ := ih fu (y + 1) u1 (by omega) (by omega) q1
      refine ⟨w', ?_, r2⟩
      show F_M_turnedCount_6_B (F_M_turnedCount_6 fu) _ _ _ _ _ _ _ u = _
      unfold F_M_turnedCount_6_B
      simp (disch := omega) only [l_4, q_le]
      rw [if_neg (by omega), l_1]
      rw [bg_1] at e1
      exact Eq.trans e1 r1
  unfold F_M_turnedCount
  rw [l_0]
  exact years 4 FUEL 0 w (by omega) (by decide) (MQs.refl R)
