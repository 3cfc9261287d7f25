/-! PURE: months, years and seasons as sets of days -/
def inMon (a b m : Nat) : Bool := if a ≤ b then decide (a ≤ m) && decide (m ≤ b) else decide (a ≤ m) || decide (m ≤ b)
theorem A_addMonths {L : Nat} {xs : Nat → Int32} {w : AW} (T : Top L xs w) {f a b o : Nat} (C : CF w f) (ha : a < 13) (hb : b < 13) (to : TD w o) (wo : WF w o) : F_Ca_addMonths 17 (nI a) (nI b) o w = some (setD w o (fun n => gD w o n || inMon a b (mo f n))) := by
  have hf := C.2
  have inner : ∀ (rec3 : Nat → Int32 → Int32 → Nat → Int32 → AW → Option AW) (y : Nat), y < 4 → ∀ (P : Nat → Bool) k fu m, 1 ≤ m → m + k = 13 → k < fu → F_Ca_addMonths_12 rec3 fu 17 (nI a) (nI b) o (nI y) (nI m) (setD w o (fun n => P n || (decide (yr f n = y) && (decide (mo f n < m) && inMon a b (mo f n))))) = rec3 17 (nI a) (nI b) o (nI (y + 1)) (setD w o (fun n => P n || (decide (yr f n = y) && inMon a b (mo f n)))) := by
    intro rec3 y hy P k
    induction k with
    | zero =>
      intro fu m h1 hk hfu
      obtain ⟨fu, rfl⟩ : ∃ m, fu = m + 1 := ⟨fu - 1, by omega⟩
      show F_Ca_addMonths_12_B rec3 (F_Ca_addMonths_12 rec3 fu) _ _ _ _ _ _ _ = _
      unfold F_Ca_addMonths_12_B
      simp (disch := omega) only [qL, ↓qM, q_lt, nI_add]
      rw [if_pos (by omega)]
      exact congrArg (rec3 _ _ _ _ _) (setD_congr _ _ (fun n hn => by
        have := mo_spec hf hn
        rw [decide_eq_true (by omega : mo f n < m)]; simp))
    | succ k ih =>
      intro fu m h1 hk hfu
      obtain ⟨fu, rfl⟩ : ∃ m, fu = m + 1 := ⟨fu - 1, by omega⟩
      have hl := mln_le f y m
      have hb1 := bg_mono f y h1 (show m ≤ m + 1 by omega)
      have hb2 := bg_mono f y (show 1 ≤ m + 1 by omega) (show m + 1 ≤ 13 by omega)
      rw [bg_13 hf hy] at hb2
      have hb3 := yst_mono f (show y + 1 ≤ 4 by omega)
      rw [yst_4 f hf] at hb3
      have hbs := bg_s f y m h1
      have T' : ∀ P, Top L xs (setD w o P) := fun P => T.sh (Sh.setD w o P)
      have C' : ∀ P, CF (setD w o P) f := fun P => C
      have h51 : ∀ (c : Bool), (∀ n, n < 1461 → mo f n = m → inMon a b m = c) → F_Ca_addMonths_51 rec3 (F_Ca_addMonths_12 rec3 fu) 17 (nI a) (nI b) o (nI y) (nI m) (nI c.toNat) (setD w o (fun n => P n || (decide (yr f n = y) && (decide (mo f n < m) && inMon a b (mo f n))))) = rec3 17 (nI a) (nI b) o (nI (y + 1)) (setD w o (fun n => P n || (decide (yr f n = y) && inMon a b (mo f n)))) := by
        intro c hc
        unfold F_Ca_addMonths_51
        rw [l_1, A_dayOf1 (T' _) (C' _) hy h1 (by omega), A_monthLength (T' _) (C' _) hy h1 (by omega)]
        simp (disch := omega) only [qL, ↓qM, q_b0, nI_add, wk_setD, t17 T, to.1, ← hbs, gd_true, beq_self_eq_true, bd_s, if_true, if_false, ↓reduceIte, ite_true, ite_false, Bool.and_self, Bool.and_true, Bool.true_and, Nat.reduceBEq, Bool.or_true, Bool.true_or, Bool.or_self]
        rw [D_addFrom (TD_setD _ _ to) (WF_setD _ _ (.inl rfl)) (by omega) (by omega), setD_setD]
        simp only [bd_s]
        cases c
        · rw [if_pos rfl, ← ih fu (m + 1) (by omega) (by omega) (by omega)]
          refine congrArg (F_Ca_addMonths_12 rec3 fu _ _ _ _ _ _) (setD_congr _ _ (fun n hn => ?_))
          by_cases hm : mo f n = m
          · rw [hm, hc n hn hm]; simp
          · rw [show (decide (mo f n < m) : Bool) = decide (mo f n < m + 1) from decide_eq_decide.mpr (by omega)]
        · rw [if_neg (by simp), ← ih fu (m + 1) (by omega) (by omega) (by omega)]
          refine congrArg (F_Ca_addMonths_12 rec3 fu _ _ _ _ _ _) (setD_congr _ _ (fun n hn => ?_))
          rw [gD_eq _ _ _ hn]
          have hi := mo_iff hf hn hy h1 (by omega)
          rw [← hbs] at hi
          by_cases hm : yr f n = y ∧ mo f n = m
          · have := hi.mpr hm
            rw [decide_eq_true this.1, decide_eq_true this.2, decide_eq_true hm.1, hm.2, hc n hn hm.2]; simp
          · have hno : (decide (bg f y m ≤ n) && decide (n < bg f y (m + 1))) = false := by
              rw [Bool.and_eq_false_iff]
              by_cases h3 : bg f y m ≤ n
              · right; exact decide_eq_false (fun h4 => hm (hi.mp ⟨h3, h4⟩))
              · left; exact decide_eq_false h3
            rw [hno, Bool.or_false]
            by_cases hyy : yr f n = y
            · rw [show (decide (mo f n < m) : Bool) = decide (mo f n < m + 1) from decide_eq_decide.mpr (by omega)]
            · rw [decide_eq_false hyy]; rfl
      show F_Ca_addMonths_12_B rec3 (F_Ca_addMonths_12 rec3 fu) _ _ _ _ _ _ _ = _
      unfold F_Ca_addMonths_12_B
      simp (disch := omega) only [qL, ↓qM, q_lt, q_le, A_within_b, q_int]
      rw [if_neg (by omega)]
      by_cases hab : b < a
      · rw [if_pos hab]
        by_cases h3 : a ≤ m
        · rw [if_pos h3]
          exact h51 true (fun n hn hm => by unfold inMon; rw [if_neg (by omega), decide_eq_true h3]; rfl)
        · rw [if_neg h3]
          by_cases h4 : b < m
          · rw [if_pos h4]
            exact h51 false (fun n hn hm => by unfold inMon; rw [if_neg (by omega), decide_eq_false h3, decide_eq_false (by omega)]; rfl)
          · rw [if_neg h4]
            exact h51 true (fun n hn hm => by unfold inMon; rw [if_neg (by omega), decide_eq_true (by omega : m ≤ b)]; simp)
      · rw [if_neg hab]
        exact h51 _ (fun n hn hm => by
          unfold inMon
          rw [if_pos (by omega), ← Bool.decide_and]
          exact decide_eq_decide.mpr (by omega))
  have outer : ∀ k fu y, y + k = 4 → k < fu → F_Ca_addMonths_3 fu 17 (nI a) (nI b) o (nI y) (setD w o (fun n => gD w o n || (decide (yr f n < y) && inMon a b (mo f n)))) = some (setD w o (fun n => gD w o n || inMon a b (mo f n))) := by
    intro k
    induction k with
    | zero =>
      intro fu y hk hfu
      obtain ⟨fu, rfl⟩ : ∃ m, fu = m + 1 := ⟨fu - 1, by omega⟩
      show F_Ca_addMonths_3_B (F_Ca_addMonths_3 fu) _ _ _ _ _ _ = _
      unfold F_Ca_addMonths_3_B
      simp (disch := omega) only [qL, ↓qM, q_le]
      rw [if_pos (by omega)]
      exact congrArg some (setD_congr _ _ (fun n hn => by
        have := yr_le f n
        rw [decide_eq_true (by omega : yr f n < y)]; rfl))
    | succ k ih =>
      intro fu y hk hfu
      obtain ⟨fu, rfl⟩ : ∃ m, fu = m + 1 := ⟨fu - 1, by omega⟩
      show F_Ca_addMonths_3_B (F_Ca_addMonths_3 fu) _ _ _ _ _ _ = _
      unfold F_Ca_addMonths_3_B
      simp (disch := omega) only [qL, ↓qM, q_le]
      rw [if_neg (by omega), ← ih fu (y + 1) (by omega) (by omega)]
      have q := inner (F_Ca_addMonths_3 fu) y (by omega) (fun n => gD w o n || (decide (yr f n < y) && inMon a b (mo f n))) 12 FUEL 1 (by omega) (by omega) (by decide)
      refine Eq.trans ?_ (Eq.trans q ?_)
      · exact congrArg (F_Ca_addMonths_12 _ FUEL _ _ _ _ _ _) (setD_congr _ _ (fun n hn => by
          have := mo_spec hf hn
          rw [decide_eq_false (by omega : ¬ mo f n < 1)]; simp))
      · exact congrArg (F_Ca_addMonths_3 fu _ _ _ _ _) (setD_congr _ _ (fun n hn => by
          by_cases h : yr f n = y
          · rw [h, decide_eq_false (by omega : ¬ y < y), decide_eq_true (by omega : y < y + 1)]; simp
          · rw [decide_eq_false h, show (decide (yr f n < y) : Bool) = decide (yr f n < y + 1) from decide_eq_decide.mpr (by omega)]; simp))
  unfold F_Ca_addMonths
  rw [l_0]
  refine Eq.trans ?_ (outer 4 FUEL 0 (by omega) (by decide))
  exact congrArg (F_Ca_addMonths_3 FUEL _ _ _ _ _) (setD_self wo (fun n hn => by rw [decide_eq_false (by omega : ¬ yr f n < 0)]; simp)).symm
theorem A_addYears {L : Nat} {xs : Nat → Int32} {w : AW} (T : Top L xs w) {f a o : Nat} (C : CF w f) (ha : a < 16) (to : TD w o) (wo : WF w o) : F_Ca_addYears 17 (nI a) o w = some (setD w o (fun n => gD w o n || a.testBit (yr f n))) := by
  have hf := C.2
  have outer : ∀ k fu y, y + k = 4 → k < fu → F_Ca_addYears_2 fu 17 (nI a) o (nI y) (setD w o (fun n => gD w o n || (decide (yr f n < y) && a.testBit (yr f n)))) = some (setD w o (fun n => gD w o n || a.testBit (yr f n))) := by
    intro k
    induction k with
    | zero =>
      intro fu y hk hfu
      obtain ⟨fu, rfl⟩ : ∃ m, fu = m + 1 := ⟨fu - 1, by omega⟩
      show F_Ca_addYears_2_B (F_Ca_addYears_2 fu) _ _ _ _ _ = _
      unfold F_Ca_addYears_2_B
      simp (disch := omega) only [qL, ↓qM, q_le]
      rw [if_pos (by omega)]
      exact congrArg some (setD_congr _ _ (fun n hn => by
        have := yr_le f n
        rw [decide_eq_true (by omega : yr f n < y)]; rfl))
    | succ k ih =>
      intro fu y hk hfu
      obtain ⟨fu, rfl⟩ : ∃ m, fu = m + 1 := ⟨fu - 1, by omega⟩
      have hy : y < 4 := by omega
      have hb3 := yst_mono f (show y + 1 ≤ 4 by omega)
      have hb4 := yst_mono f (show y ≤ y + 1 by omega)
      rw [yst_4 f hf] at hb3
      have T' : ∀ P, Top L xs (setD w o P) := fun P => T.sh (Sh.setD w o P)
      have C' : ∀ P, CF (setD w o P) f := fun P => C
      show F_Ca_addYears_2_B (F_Ca_addYears_2 fu) _ _ _ _ _ = _
      unfold F_Ca_addYears_2_B
      rw [A_startOf (T' _) (C' _) (by omega), A_endOf (T' _) (C' _) (by omega)]
      simp (disch := omega) only [qL, ↓qM, q_le, q_and31, q_tb, q_b1, wk_setD, t17 T, to.1, nI_add, gd_true, beq_self_eq_true, bd_s, if_true, if_false, ↓reduceIte, ite_true, ite_false, Bool.and_self, Bool.and_true, Bool.true_and, Nat.reduceBEq, Bool.or_true, Bool.true_or, Bool.or_self]
      rw [if_neg (by omega), D_addFrom (TD_setD _ _ to) (WF_setD _ _ (.inl rfl)) (by omega) (by omega), setD_setD]
      simp only [bd_s]
      by_cases hb : a.testBit y = true
      · rw [if_pos hb, ← ih fu (y + 1) (by omega) (by omega)]
        refine congrArg (F_Ca_addYears_2 fu _ _ _ _) (setD_congr _ _ (fun n hn => ?_))
        rw [gD_eq _ _ _ hn]
        have hi := yr_iff hf hn hy
        by_cases h : yr f n = y
        · have := hi.mpr h
          rw [decide_eq_true this.1, decide_eq_true this.2, h, hb]; simp
        · have hno : (decide (yst f y ≤ n) && decide (n < yst f (y + 1))) = false := by
            rw [Bool.and_eq_false_iff]
            by_cases h3 : yst f y ≤ n
            · right; exact decide_eq_false (fun h4 => h (hi.mp ⟨h3, h4⟩))
            · left; exact decide_eq_false h3
          rw [hno, show (decide (yr f n < y) : Bool) = decide (yr f n < y + 1) from decide_eq_decide.mpr (by omega)]; simp
      · rw [if_neg hb, ← ih fu (y + 1) (by omega) (by omega)]
        refine congrArg (F_Ca_addYears_2 fu _ _ _ _) (setD_congr _ _ (fun n hn => ?_))
        by_cases h : yr f n = y
        · rw [h, show a.testBit y = false by simpa using hb]; simp
        · rw [show (decide (yr f n < y) : Bool) = decide (yr f n < y + 1) from decide_eq_decide.mpr (by omega)]
  unfold F_Ca_addYears
  rw [l_0]
  refine Eq.trans ?_ (outer 4 FUEL 0 (by omega) (by decide))
  exact congrArg (F_Ca_addYears_2 FUEL _ _ _ _) (setD_self wo (fun n hn => by rw [decide_eq_false (by omega : ¬ yr f n < 0)]; simp)).symm
/-- whether a day is a saint's in one of the years below y -/
def fst4 (S : Nat → Nat → Int32) (s n : Nat) : Nat → Bool
  | 0 => false
  | y + 1 => fst4 S s n y || decide (feS S s y = (n : Int))
/-- the season: months from and to, saint (as numbers that may be none) -/
def sea (S : Nat → Nat → Int32) (a b s : Int32) (n : Nat) : Bool :=
  if s = mI 1 then (if a = mI 1 then true else inMon (nat a) (nat b) (mo (sF S) n)) else fst4 S (nat s) n 4
/-- what a season may be -/
def okSea (a b s : Int32) : Prop := (s = mI 1 ∨ (s = nI (nat s) ∧ nat s < 8)) ∧ ((a = mI 1) ∨ (a = nI (nat a) ∧ b = nI (nat b) ∧ nat a < 13 ∧ nat b < 13))
theorem A_findSeason {L : Nat} {xs : Nat → Int32} {w : AW} (T : Top L xs w) {S : Nat → Nat → Int32} (C : CalA S w) (I : IMf S) (I2 : IMs S) {y o : Nat} (hy : wk w y = 5) (hs : okSea (wi w y 5) (wi w y 6) (wi w y 7)) (to : TD w o) : F_Ca_findSeason 17 y o w = some (setD w o (sea S (wi w y 5) (wi w y 6) (wi w y 7))) := by
  have T' : ∀ P, Top L xs (setD w o P) := fun P => T.sh (Sh.setD w o P)
  have C' : ∀ P, CalA S (setD w o P) := fun P => C
  have loop : ∀ s, s < 8 → wi w y 7 = nI s → ∀ k fu i, i + k = 4 → k < fu → F_Ca_findSeason_14 fu 17 y o (nI i) (setD w o (fun n => fst4 S s n i)) = some (setD w o (fun n => fst4 S s n 4)) := by
    intro s hs8 hse k
    induction k with
    | zero =>
      intro fu i hk hfu
      obtain ⟨fu, rfl⟩ : ∃ m, fu = m + 1 := ⟨fu - 1, by omega⟩
      show F_Ca_findSeason_14_B (F_Ca_findSeason_14 fu) _ _ _ _ _ = _
      unfold F_Ca_findSeason_14_B
      simp (disch := omega) only [qL, ↓qM, q_le]
      rw [if_pos (by omega), show i = 4 by omega]
    | succ k ih =>
      intro fu i hk hfu
      obtain ⟨fu, rfl⟩ : ∃ m, fu = m + 1 := ⟨fu - 1, by omega⟩
      show F_Ca_findSeason_14_B (F_Ca_findSeason_14 fu) _ _ _ _ _ = _
      unfold F_Ca_findSeason_14_B
      rw [wi_setD, hse, A_feastDay (T' _) (C' _) I I2 hs8 (by omega)]
      simp (disch := omega) only [qL, ↓qM, q_le, wk_setD, hy, t17 T, to.1, nI_add, gd_true, beq_self_eq_true, bd_s, if_true, if_false, ↓reduceIte, ite_true, ite_false, Bool.and_self, Bool.and_true, Bool.true_and, Nat.reduceBEq, Bool.or_true, Bool.true_or, Bool.or_self]
      rw [if_neg (by omega)]
      have h1 := fday_le (sF S) i (nat (S 1 s)) (nat (S 2 s)) (nat (S 3 s)) (S 4 s).toInt
      have h2 := fday_ge (sF S) i (nat (S 1 s)) (nat (S 2 s)) (nat (S 3 s)) (S 4 s).toInt
      have e : feS S s i = fday (sF S) i (nat (S 1 s)) (nat (S 2 s)) (nat (S 3 s)) (S 4 s).toInt := rfl
      rw [← e] at h1 h2
      unfold fv
      by_cases h0 : 0 ≤ feS S s i
      · rw [if_pos h0, D_add (TD_setD _ _ to) (WF_setD _ _ (.inl rfl)) (by omega), setD_setD, Option.bind_some, ← ih fu (i + 1) (by omega) (by omega)]
        refine congrArg (F_Ca_findSeason_14 fu _ _ _ _) (setD_congr _ _ (fun n hn => ?_))
        rw [gD_eq _ _ _ hn]
        show (fst4 S s n i || _) = (fst4 S s n i || _)
        congr 1
        exact decide_eq_decide.mpr (by omega)
      · rw [if_neg h0, D_add_ge (.inl (by decide)), Option.bind_some, ← ih fu (i + 1) (by omega) (by omega)]
        refine congrArg (F_Ca_findSeason_14 fu _ _ _ _) (setD_congr _ _ (fun n hn => ?_))
        show fst4 S s n i = (fst4 S s n i || _)
        rw [decide_eq_false (by omega)]; simp
  unfold F_Ca_findSeason
  rw [gd_t (by rw [to.1]; rfl), D_clear to, Option.bind_some]
  simp only [wk_setD, wi_setD, hy, qL, ↓qM, to.1, t17 T, gd_true, beq_self_eq_true, bd_s, if_true, if_false, ↓reduceIte, ite_true, ite_false, Bool.and_self, Bool.and_true, Bool.true_and, Nat.reduceBEq, Bool.or_true, Bool.true_or, Bool.or_self]
  by_cases h7 : wi w y 7 = mI 1
  · rw [if_pos h7]
    by_cases h5 : wi w y 5 = mI 1
    · rw [if_pos h5, D_fill (TD_setD _ _ to), Option.bind_some, setD_setD]
      exact congrArg some (setD_congr _ _ (fun n hn => by unfold sea; rw [if_pos h7, if_pos h5]))
    · rw [if_neg h5]
      rcases hs.2 with h | h
      · exact absurd h h5
      · have q := A_addMonths (T' (fun _ => false)) ((C' (fun _ => false)).cf I) h.2.2.1 h.2.2.2 (TD_setD _ _ to) (WF_setD o (fun _ => false) (.inl rfl))
        rw [← h.1, ← h.2.1, setD_setD] at q
        rw [q, Option.bind_some]
        exact congrArg some (setD_congr _ _ (fun n hn => by unfold sea; rw [if_pos h7, if_neg h5, gD_eq _ _ _ hn]; rfl))
  · rw [if_neg h7]
    rcases hs.1 with h | h
    · exact absurd h h7
    · refine Eq.trans ?_ (Eq.trans (loop _ h.2 h.1 4 FUEL 0 (by omega) (by decide)) ?_)
      · exact congrArg (F_Ca_findSeason_14 FUEL _ _ _ _) (setD_congr _ _ (fun n hn => rfl))
      · exact congrArg some (setD_congr _ _ (fun n hn => by unfold sea; rw [if_neg h7]))
