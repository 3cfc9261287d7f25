/-! PURE: source, spring -/
def sG (S : Nat → Nat → Int32) (v a : Nat) (lv : Int32) (b : Nat) : Bool := decide (S 6 b < S 6 a) && !decide (nI (shN S v a b 1) * nI (shN S v a b 0) * nI 10 ≤ lv * nI (shN S v a b 2) * nI (shN S v a b 3))
theorem sG_iff {S : Nat → Nat → Int32} {v a : Nat} {lv : Int32} {b : Nat} : sG S v a lv b = true ↔ S 6 b < S 6 a ∧ ¬ alk S v a b lv := by
  unfold sG alk
  simp only [Bool.and_eq_true, decide_eq_true_iff, Bool.not_eq_true', decide_eq_false_iff_not]
/-- the source behind the first almanacs, and what it shares -/
def srF (S : Nat → Nat → Int32) (v a : Nat) (lv : Int32) : Nat → Int32 × Nat
  | 0 => (mI 1, 0)
  | b + 1 => if sG S v a lv b = true ∧ (¬ (srF S v a lv b).1 = mI 1 → ¬ shN S v a b 1 ≤ (srF S v a lv b).2) then (nI b, shN S v a b 1) else srF S v a lv b
theorem shN_le (S : Nat → Nat → Int32) (v a b m : Nat) : shN S v a b m ≤ 1461 := cnt_le _ _
theorem srF_2 (S : Nat → Nat → Int32) (v a : Nat) (lv : Int32) : ∀ k, (srF S v a lv k).2 ≤ 1461 ∧ ((srF S v a lv k).1 = mI 1 ∨ ∃ b, b < k ∧ (srF S v a lv k).1 = nI b ∧ S 6 b < S 6 a)
  | 0 => ⟨by show 0 ≤ 1461; omega, .inl rfl⟩
  | k + 1 => by
    have ih := srF_2 S v a lv k
    unfold srF
    by_cases h : sG S v a lv k = true ∧ (¬ (srF S v a lv k).1 = mI 1 → ¬ shN S v a k 1 ≤ (srF S v a lv k).2)
    · rw [if_pos h]
      exact ⟨shN_le _ _ _ _ _, .inr ⟨k, by omega, rfl, (sG_iff.mp h.1).1⟩⟩
    · rw [if_neg h]
      refine ⟨ih.1, ?_⟩
      rcases ih.2 with e | ⟨b, hb, e1, e2⟩
      · exact .inl e
      · exact .inr ⟨b, by omega, e1, e2⟩
theorem srF_no {S : Nat → Nat → Int32} {v a : Nat} {lv : Int32} {b : Nat} (h : ¬ sG S v a lv b = true) : srF S v a lv (b + 1) = srF S v a lv b := by
  show ite _ _ _ = _
  rw [if_neg (fun q => h q.1)]
theorem srF_le {S : Nat → Nat → Int32} {v a : Nat} {lv : Int32} {b : Nat} (h1 : ¬ (srF S v a lv b).1 = mI 1) (h2 : shN S v a b 1 ≤ (srF S v a lv b).2) : srF S v a lv (b + 1) = srF S v a lv b := by
  show ite _ _ _ = _
  rw [if_neg (fun q => q.2 h1 h2)]
theorem srF_yes {S : Nat → Nat → Int32} {v a : Nat} {lv : Int32} {b : Nat} (h : sG S v a lv b = true) (h2 : ¬ (srF S v a lv b).1 = mI 1 → ¬ shN S v a b 1 ≤ (srF S v a lv b).2) : srF S v a lv (b + 1) = (nI b, shN S v a b 1) := by
  show ite _ _ _ = _
  rw [if_pos ⟨h, h2⟩]
theorem A_sourceOf_in {L : Nat} {xs : Nat → Int32} {S : Nat → Nat → Int32} {w : AW} (I : Inv L xs S w) {v a : Nat} (lv : Int32) (hv : v < 3) (ha : a < 6) (R : RN S v w) : ∃ w', F_A_sourceOf 16 (241 + 5 * a) lv w = some ((srF S v a lv 6).1, w') ∧ LF w w' ∧ RN S v w' := by
  classical
  have loop : ∀ j fu b (u : AW), Inv L xs S u → RN S v u → b + j = 6 → j < fu → ∃ w', F_A_sourceOf_8 fu 16 (241 + 5 * a) lv (srF S v a lv b).1 (nI (srF S v a lv b).2) (nI b) u = some ((srF S v a lv 6).1, w') ∧ LF u w' ∧ RN S v w' := by
    intro j
    induction j with
    | zero =>
      intro fu b u I R hb hf
      obtain ⟨fu, rfl⟩ : ∃ m, fu = m + 1 := ⟨fu - 1, by omega⟩
      obtain rfl : b = 6 := by omega
      refine ⟨u, ?_, LF.refl u, R⟩
      show F_A_sourceOf_8_B (F_A_sourceOf_8 fu) _ _ _ _ _ _ u = _
      unfold F_A_sourceOf_8_B
      simp (disch := omega) only [qL, ↓qM, q_le]
      rw [if_pos (Nat.le_refl _)]
    | succ j ih =>
      intro fu b u I R hb hf
      obtain ⟨fu, rfl⟩ : ∃ m, fu = m + 1 := ⟨fu - 1, by omega⟩
      have T := I.1
      have hb6 : b < 6 := by omega
      have ta := tA T ha
      have tb := tA T hb6
      have al := I.2.2.2.2.2.2.2.2.1
      obtain ⟨w1, p1, f1, R1, c1⟩ := A_compare I hv ha hb6 R
      have I1 := I.lf f1
      have hs := srF_2 S v a lv b
      have hn := shN_le S v a b 1
      by_cases h1 : S 6 b < S 6 a
      · obtain ⟨w', q1, q2, q3⟩ := ih fu (b + 1) w1 I1 R1 (by omega) (by omega)
        refine ⟨w', ?_, f1.trans q2, q3⟩
        have e78 : F_A_sourceOf_78 (F_A_sourceOf_8 fu) 16 (241 + 5 * a) lv (nI b) w1 = F_A_sourceOf_8 fu 16 (241 + 5 * a) lv (nI b) (nI (shN S v a b 1)) (nI (b + 1)) w1 := by
          unfold F_A_sourceOf_78
          simp only [qL, ↓qM, t16 I1.1, t168 I1.1, c1 1 (by omega), nI_add, gd_true, beq_self_eq_true, bd_s, if_true, if_false, ↓reduceIte, ite_true, ite_false, Bool.and_self, Bool.and_true, Bool.true_and, Nat.reduceBEq, Bool.or_true, Bool.true_or, Bool.or_self]
        show F_A_sourceOf_8_B (F_A_sourceOf_8 fu) _ _ _ _ _ _ u = _
        unfold F_A_sourceOf_8_B
        simp (disch := omega) only [qL, ↓qM, q_le, t16 T, t168 T, tAl T, q_inb, q_nat, ta.1, tb.1, tb.2.2.2.1, (al a ha).1, (al b hb6).1, p1, t16 I1.1, t168 I1.1, A_reaches I1.1 lv c1, c1 1 (by omega), nI_add, e78, gd_true, beq_self_eq_true, bd_s, if_true, if_false, ↓reduceIte, ite_true, ite_false, Bool.and_self, Bool.and_true, Bool.true_and, Nat.reduceBEq, Bool.or_true, Bool.true_or, Bool.or_self]
        rw [if_neg (by omega), if_pos h1]
        by_cases h2 : alk S v a b lv
        · rw [if_pos h2, if_pos rfl]
          rw [srF_no (fun q => (sG_iff.mp q).2 h2)] at q1
          exact q1
        · rw [if_neg h2, if_neg (show ¬ nI 1 = nI 0 by decide +kernel)]
          by_cases h3 : (srF S v a lv b).1 = mI 1
          · rw [if_pos h3]
            rw [srF_yes (sG_iff.mpr ⟨h1, h2⟩) (fun q => absurd h3 q)] at q1
            exact q1
          · rw [if_neg h3]
            by_cases h4 : shN S v a b 1 ≤ (srF S v a lv b).2
            · rw [if_pos h4]
              rw [srF_le h3 h4] at q1
              exact q1
            · rw [if_neg h4]
              rw [srF_yes (sG_iff.mpr ⟨h1, h2⟩) (fun _ => h4)] at q1
              exact q1
      · obtain ⟨w', q1, q2, q3⟩ := ih fu (b + 1) u I R (by omega) (by omega)
        refine ⟨w', ?_, q2, q3⟩
        show F_A_sourceOf_8_B (F_A_sourceOf_8 fu) _ _ _ _ _ _ u = _
        unfold F_A_sourceOf_8_B
        simp (disch := omega) only [qL, ↓qM, q_le, t16 T, tAl T, q_inb, q_nat, ta.1, tb.1, tb.2.2.2.1, (al a ha).1, (al b hb6).1, nI_add, gd_true, beq_self_eq_true, bd_s, if_true, if_false, ↓reduceIte, ite_true, ite_false, Bool.and_self, Bool.and_true, Bool.true_and, Nat.reduceBEq, Bool.or_true, Bool.true_or, Bool.or_self]
        rw [if_neg (by omega), if_neg h1]
        rw [srF_no (fun q => h1 (sG_iff.mp q).1)] at q1
        exact q1
  exact loop 6 FUEL 0 w I R (by omega) (by decide)
theorem M_sourceOf_in {L : Nat} {xs : Nat → Int32} {S : Nat → Nat → Int32} {w : AW} (T : Top L xs w) (R : RA S w) {v a : Nat} (lv : Int32) (hv : v < 3) (ha : a < 6) : F_M_sourceOf w 271 (nI a) (nI v) lv = some (srF S v a lv 6).1 := by
  classical
  have loop : ∀ j fu b, b + j = 6 → j < fu → F_M_sourceOf_9 w fu 271 (nI a) (nI v) lv (srF S v a lv b).1 (nI (srF S v a lv b).2) (nI b) = some (srF S v a lv 6).1 := by
    intro j
    induction j with
    | zero =>
      intro fu b hb hf
      obtain ⟨fu, rfl⟩ : ∃ m, fu = m + 1 := ⟨fu - 1, by omega⟩
      obtain rfl : b = 6 := by omega
      show F_M_sourceOf_9_B (F_M_sourceOf_9 w fu) w _ _ _ _ _ _ _ = _
      unfold F_M_sourceOf_9_B
      simp (disch := omega) only [qL, ↓qM, q_le]
      rw [if_pos (Nat.le_refl _)]
    | succ j ih =>
      intro fu b hb hf
      obtain ⟨fu, rfl⟩ : ∃ m, fu = m + 1 := ⟨fu - 1, by omega⟩
      have hb6 : b < 6 := by omega
      have hs := srF_2 S v a lv b
      have hn := shN_le S v a b 1
      have q1 := ih fu (b + 1) (by omega) (by omega)
      show F_M_sourceOf_9_B (F_M_sourceOf_9 w fu) w _ _ _ _ _ _ _ = _
      unfold F_M_sourceOf_9_B F_M_sourceOf_68
      simp (disch := omega) only [qL, ↓qM, q_le, mK T, mAlm T, q_inb, q_nat, ra6 R, M_areAlike T R lv ha hb6 hv, M_sharedOf T R ha hb6 hv, nI_add, gd_true, beq_self_eq_true, bd_s, if_true, if_false, ↓reduceIte, ite_true, ite_false, Bool.and_self, Bool.and_true, Bool.true_and, Nat.reduceBEq, Bool.or_true, Bool.true_or, Bool.or_self]
      rw [if_neg (by omega)]
      by_cases h1 : S 6 b < S 6 a
      · rw [if_neg (show ¬ S 6 a ≤ S 6 b by rw [Int32.le_iff_toInt_le]; rw [Int32.lt_iff_toInt_lt] at h1; omega)]
        by_cases h2 : alk S v a b lv
        · rw [if_pos h2, if_pos rfl]
          rw [srF_no (fun q => (sG_iff.mp q).2 h2)] at q1
          exact q1
        · rw [if_neg h2, if_neg (show ¬ nI 1 = nI 0 by decide +kernel)]
          by_cases h3 : (srF S v a lv b).1 = mI 1
          · rw [if_pos h3]
            rw [srF_yes (sG_iff.mpr ⟨h1, h2⟩) (fun q => absurd h3 q)] at q1
            exact q1
          · rw [if_neg h3]
            by_cases h4 : shN S v a b 1 ≤ (srF S v a lv b).2
            · rw [if_pos h4]
              rw [srF_le h3 h4] at q1
              exact q1
            · rw [if_neg h4]
              rw [srF_yes (sG_iff.mpr ⟨h1, h2⟩) (fun _ => h4)] at q1
              exact q1
      · rw [if_pos (show S 6 a ≤ S 6 b by rw [Int32.le_iff_toInt_le]; rw [Int32.lt_iff_toInt_lt] at h1; omega)]
        rw [srF_no (fun q => h1 (sG_iff.mp q).1)] at q1
        exact q1
  exact loop 6 FUEL 0 (by omega) (by decide)
theorem cnt_lt {P Q : Nat → Bool} (h : ∀ i, P i = true → Q i = true) {j : Nat} (hp : P j = false) (hq : Q j = true) : ∀ n, j < n → cnt P n < cnt Q n
  | 0, hj => by omega
  | n + 1, hj => by
    rw [cnt_s, cnt_s]
    by_cases e : j = n
    · subst e
      have := cnt_mono h j
      rw [hp, hq]; simp; omega
    · have := cnt_lt h hp hq n (by omega)
      have h2 := h n
      cases hP : P n
      · simp; omega
      · rw [h2 hP]; simp; omega
/-- how many almanacs are younger -/
def rnk (S : Nat → Nat → Int32) (a : Nat) : Nat := cnt (fun b => decide (S 6 b < S 6 a)) 6
theorem rnk_lt {S : Nat → Nat → Int32} {a b : Nat} (hb : b < 6) (h : S 6 b < S 6 a) : rnk S b < rnk S a := by
  have hi : ∀ x : Int32, ¬ x < x := fun x q => by rw [Int32.lt_iff_toInt_lt] at q; omega
  refine cnt_lt (j := b) (fun c hc => ?_) (decide_eq_false (hi _)) (decide_eq_true h) 6 hb
  rw [decide_eq_true_iff] at *
  rw [Int32.lt_iff_toInt_lt] at *
  omega
theorem rnk_le {S : Nat → Nat → Int32} {a : Nat} (ha : a < 6) : rnk S a ≤ 5 := by
  have hi : ∀ x : Int32, ¬ x < x := fun x q => by rw [Int32.lt_iff_toInt_lt] at q; omega
  have := cnt_lt (P := fun b => decide (S 6 b < S 6 a)) (Q := fun _ => true) (j := a) (fun c hc => rfl) (decide_eq_false (hi _)) rfl 6 ha
  have h2 : cnt (fun _ => true) 6 = 6 := by decide
  unfold rnk
  omega
/-- where the chain of sources ends -/
def sprF (S : Nat → Nat → Int32) (v : Nat) (lv : Int32) : Nat → Nat → Nat
  | 0, a => a
  | k + 1, a => if (srF S v a lv 6).1 = mI 1 then a else sprF S v lv k (nat (srF S v a lv 6).1)
theorem nI_m1 {b : Nat} (hb : b < 6) : ¬ nI b = mI 1 := by
  have : b = 0 ∨ b = 1 ∨ b = 2 ∨ b = 3 ∨ b = 4 ∨ b = 5 := by omega
  rcases this with e | e | e | e | e | e <;> subst e <;> decide +kernel
theorem A_spring_in {L : Nat} {xs : Nat → Int32} {S : Nat → Nat → Int32} {v : Nat} (lv : Int32) (hv : v < 3) : ∀ k fu a t (u : AW), Inv L xs S u → RN S v u → a < 6 → rnk S a ≤ k → t + k ≤ 5 → k + 1 < fu → ∃ w', F_A_spring_55 fu 16 lv (241 + 5 * a) (nI a) (nI t) u = some (nI (sprF S v lv (k + 1) a), w') ∧ LF u w' := by
  have stop : ∀ fu a t (u : AW), t < 10 → F_A_spring_55 (fu + 1) 16 lv 0 (nI a) (nI t) u = some (nI a, u) := by
    intro fu a t u ht
    show F_A_spring_55_B (F_A_spring_55 fu) _ _ _ _ _ u = _
    unfold F_A_spring_55_B
    simp (disch := omega) only [qL, ↓qM, q_le]
    by_cases h : 6 ≤ t
    · rw [if_pos h]
    · rw [if_neg h, if_pos trivial]
  intro k
  induction k with
  | zero =>
    intro fu a t u I R ha hr ht hf
    obtain ⟨fu, rfl⟩ : ∃ m, fu = m + 2 := ⟨fu - 2, by omega⟩
    obtain ⟨w1, p1, f1, R1⟩ := A_sourceOf_in I lv hv ha R
    have I1 := I.lf f1
    have hs : (srF S v a lv 6).1 = mI 1 := by
      rcases (srF_2 S v a lv 6).2 with e | ⟨b, hb, e1, e2⟩
      · exact e
      · have := rnk_lt hb e2; omega
    refine ⟨w1, ?_, f1⟩
    show F_A_spring_55_B (F_A_spring_55 (fu + 1)) _ _ _ _ _ u = _
    unfold F_A_spring_55_B
    rw [hs] at p1
    simp (disch := omega) only [qL, ↓qM, q_le, t16 I.1, p1, t16 I1.1, A_almanacOf I1.1, nI_add, gd_true, beq_self_eq_true, bd_s, if_true, if_false, ↓reduceIte, ite_true, ite_false, Bool.and_self, Bool.and_true, Bool.true_and, Nat.reduceBEq, Bool.or_true, Bool.true_or, Bool.or_self]
    rw [if_neg (by omega), if_neg (by omega), if_neg (show ¬ (0 ≤ (mI 1).toInt ∧ (mI 1).toInt ≤ 5) by decide +kernel), if_pos rfl, stop _ _ _ _ (by omega)]
    unfold sprF
    rw [if_pos hs]
  | succ k ih =>
    intro fu a t u I R ha hr ht hf
    obtain ⟨fu, rfl⟩ : ∃ m, fu = m + 2 := ⟨fu - 2, by omega⟩
    obtain ⟨w1, p1, f1, R1⟩ := A_sourceOf_in I lv hv ha R
    have I1 := I.lf f1
    rcases (srF_2 S v a lv 6).2 with hs | ⟨b, hb, e1, e2⟩
    · refine ⟨w1, ?_, f1⟩
      show F_A_spring_55_B (F_A_spring_55 (fu + 1)) _ _ _ _ _ u = _
      unfold F_A_spring_55_B
      rw [hs] at p1
      simp (disch := omega) only [qL, ↓qM, q_le, t16 I.1, p1, t16 I1.1, A_almanacOf I1.1, nI_add, gd_true, beq_self_eq_true, bd_s, if_true, if_false, ↓reduceIte, ite_true, ite_false, Bool.and_self, Bool.and_true, Bool.true_and, Nat.reduceBEq, Bool.or_true, Bool.true_or, Bool.or_self]
      rw [if_neg (by omega), if_neg (by omega), if_neg (show ¬ (0 ≤ (mI 1).toInt ∧ (mI 1).toInt ≤ 5) by decide +kernel), if_pos rfl, stop _ _ _ _ (by omega)]
      unfold sprF
      rw [if_pos hs]
    · obtain ⟨w2, p2, f2⟩ := ih (fu + 1) b (t + 1) w1 I1 R1 hb (by have := rnk_lt hb e2; omega) (by omega) (by omega)
      refine ⟨w2, ?_, f1.trans f2⟩
      show F_A_spring_55_B (F_A_spring_55 (fu + 1)) _ _ _ _ _ u = _
      unfold F_A_spring_55_B
      rw [e1] at p1
      simp (disch := omega) only [qL, ↓qM, q_le, t16 I.1, p1, t16 I1.1, A_almanacOf I1.1, q_int, nat_nI, nI_add, gd_true, beq_self_eq_true, bd_s, if_true, if_false, ↓reduceIte, ite_true, ite_false, Bool.and_self, Bool.and_true, Bool.true_and, Nat.reduceBEq, Bool.or_true, Bool.true_or, Bool.or_self]
      rw [if_neg (by omega), if_neg (by omega), if_pos (show 0 ≤ (b : Int) ∧ (b : Int) ≤ 5 by omega), if_neg (by omega), p2]
      refine congrArg (fun z => some (nI z, w2)) ?_
      show _ = ite _ _ _
      rw [e1, if_neg (nI_m1 hb), nat_nI (by omega)]
theorem M_spring_in {L : Nat} {xs : Nat → Int32} {S : Nat → Nat → Int32} {w : AW} (T : Top L xs w) (R : RA S w) {v : Nat} (lv : Int32) (hv : v < 3) : ∀ k fu a, a < 6 → rnk S a ≤ k → k + 1 < fu → F_M_spring_44 w fu 271 (nI v) lv (nI a) (srF S v a lv 6).1 = some (nI (sprF S v lv (k + 1) a)) := by
  intro k
  induction k with
  | zero =>
    intro fu a ha hr hf
    obtain ⟨fu, rfl⟩ : ∃ m, fu = m + 1 := ⟨fu - 1, by omega⟩
    have hs : (srF S v a lv 6).1 = mI 1 := by
      rcases (srF_2 S v a lv 6).2 with e | ⟨b, hb, e1, e2⟩
      · exact e
      · have := rnk_lt hb e2; omega
    show F_M_spring_44_B (F_M_spring_44 w fu) w _ _ _ _ _ = _
    unfold F_M_spring_44_B
    simp only [qL, ↓qM]
    rw [if_pos hs]
    unfold sprF
    rw [if_pos hs]
  | succ k ih =>
    intro fu a ha hr hf
    obtain ⟨fu, rfl⟩ : ∃ m, fu = m + 1 := ⟨fu - 1, by omega⟩
    show F_M_spring_44_B (F_M_spring_44 w fu) w _ _ _ _ _ = _
    unfold F_M_spring_44_B
    simp only [qL, ↓qM, mK T, gd_true, beq_self_eq_true, bd_s, if_true, if_false, ↓reduceIte, ite_true, ite_false, Bool.and_self, Bool.and_true, Bool.true_and, Nat.reduceBEq, Bool.or_true, Bool.true_or, Bool.or_self]
    rcases (srF_2 S v a lv 6).2 with hs | ⟨b, hb, e1, e2⟩
    · rw [if_pos hs]
      unfold sprF
      rw [if_pos hs]
    · have hq := ih fu b hb (by have := rnk_lt hb e2; omega) (by omega)
      rw [e1, if_neg (nI_m1 hb), M_sourceOf_in T R lv hv hb, bd_s, hq]
      refine congrArg (fun z => some (nI z)) ?_
      show _ = ite _ _ _
      rw [e1, if_neg (nI_m1 hb), nat_nI (by omega)]
theorem S_source {L : Nat} {xs : Nat → Int32} {S : Nat → Nat → Int32} {w : AW} (I : Inv L xs S w) (x1 x2 x3 : Int32) : STEP L xs w (F_A_source 16 x1 x2 x3) (fun u => (F_M_source u 271 x1 x2 x3).bind fun r => some (r, u)) := by
  have T := I.1
  have hV := A_almanacOf T x1
  have hD := A_diaryOf T x2
  by_cases h1 : 0 ≤ x1.toInt ∧ x1.toInt ≤ 5
  · obtain ⟨a, rfl, ha⟩ := q_of h1.1 (n := 5) h1.2 (by omega)
    rw [if_pos h1, nat_nI (by omega)] at hV
    by_cases h2 : 0 ≤ x2.toInt ∧ x2.toInt ≤ 2
    · obtain ⟨v, rfl, hv⟩ := q_of h2.1 (n := 2) h2.2 (by omega)
      rw [if_pos h2, nat_nI (by omega)] at hD
      by_cases h3 : 1 ≤ x3.toInt ∧ x3.toInt ≤ 100
      · obtain ⟨w1, p1, f1, R1⟩ := A_readRain I (show v < 3 by omega)
        have I1 := I.lf f1
        obtain ⟨w2, p2, f2, R2⟩ := A_sourceOf_in I1 x3 (show v < 3 by omega) (show a < 6 by omega) R1
        have I2 := I1.lf f2
        refine STEP.like I (r := (srF S v a x3 6).1) (w1 := w2) ?_ (f1.trans f2) ?_
        · unfold F_A_source
          simp (disch := omega) only [qL, ↓qM, t16 T, t168 T, hV, hD, A_wi, q_int, p1, t16 I1.1, p2, gd_true, beq_self_eq_true, bd_s, if_true, if_false, ↓reduceIte, ite_true, ite_false, Bool.and_self, Bool.and_true, Bool.true_and, Nat.reduceBEq, Bool.or_true, Bool.true_or, Bool.or_self]
          rw [if_neg (by omega), if_neg (by omega), if_neg (by omega)]
        · show (F_M_source w2 271 (nI a) (nI v) x3).bind _ = _
          unfold F_M_source
          simp (disch := omega) only [qL, ↓qM, M_alm, M_valley, M_wi, qLJ, q_int, mK I2.1, M_sourceOf_in I2.1 I2.2.1 x3 (show v < 3 by omega) (show a < 6 by omega), gd_true, beq_self_eq_true, bd_s, if_true, if_false, ↓reduceIte, ite_true, ite_false, Bool.and_self, Bool.and_true, Bool.true_and, Nat.reduceBEq, Bool.or_true, Bool.true_or, Bool.or_self]
          rw [if_neg (by omega), if_neg (by omega), if_neg (by omega), bd_s]
      · refine STEP.pure I (r := mI 102) ?_ ?_
        · unfold F_A_source
          simp (disch := omega) only [qL, ↓qM, t16 T, hV, hD, A_wi, q_int, gd_true, beq_self_eq_true, bd_s, if_true, if_false, ↓reduceIte, ite_true, ite_false, Bool.and_self, Bool.and_true, Bool.true_and, Nat.reduceBEq, Bool.or_true, Bool.true_or, Bool.or_self]
          rw [if_neg (by omega), if_neg (by omega), if_pos (by omega)]
        · unfold F_M_source
          simp (disch := omega) only [qL, ↓qM, M_alm, M_valley, M_wi, qLJ, q_int]
          rw [if_neg (by omega), if_neg (by omega), if_pos (by omega), bd_s]
    · rw [if_neg h2] at hD
      refine STEP.pure I (r := mI 101) ?_ ?_
      · unfold F_A_source
        simp only [qL, ↓qM, t16 T, hV, hD, gd_true, beq_self_eq_true, bd_s, if_true, if_false, ↓reduceIte, ite_true, ite_false, Bool.and_self, Bool.and_true, Bool.true_and, Nat.reduceBEq, Bool.or_true, Bool.true_or, Bool.or_self]
        rw [if_neg (by omega)]
      · unfold F_M_source
        simp (disch := omega) only [qL, ↓qM, M_alm, M_valley, q_int]
        rw [if_neg (by omega), if_pos (by omega), bd_s]
  · rw [if_neg h1] at hV
    refine STEP.pure I (r := mI 101) ?_ ?_
    · unfold F_A_source
      rw [hV, hD]
      simp only [qL, ↓qM, t16 T, gd_true, beq_self_eq_true, bd_s, if_true, if_false, ↓reduceIte, ite_true, ite_false, Bool.and_self, Bool.and_true, Bool.true_and, Nat.reduceBEq, Bool.or_true, Bool.true_or, Bool.or_self]
    · unfold F_M_source
      simp only [qL, ↓qM, M_alm]
      rw [if_pos (by omega), bd_s]
theorem S_spring {L : Nat} {xs : Nat → Int32} {S : Nat → Nat → Int32} {w : AW} (I : Inv L xs S w) (x1 x2 x3 : Int32) : STEP L xs w (F_A_spring 16 x1 x2 x3) (fun u => (F_M_spring u 271 x1 x2 x3).bind fun r => some (r, u)) := by
  have T := I.1
  have hV := A_almanacOf T x1
  have hD := A_diaryOf T x2
  by_cases h1 : 0 ≤ x1.toInt ∧ x1.toInt ≤ 5
  · obtain ⟨a, rfl, ha⟩ := q_of h1.1 (n := 5) h1.2 (by omega)
    rw [if_pos h1, nat_nI (by omega)] at hV
    by_cases h2 : 0 ≤ x2.toInt ∧ x2.toInt ≤ 2
    · obtain ⟨v, rfl, hv⟩ := q_of h2.1 (n := 2) h2.2 (by omega)
      rw [if_pos h2, nat_nI (by omega)] at hD
      by_cases h3 : 1 ≤ x3.toInt ∧ x3.toInt ≤ 100
      · obtain ⟨w1, p1, f1, R1⟩ := A_readRain I (show v < 3 by omega)
        have I1 := I.lf f1
        obtain ⟨w2, p2, f2⟩ := A_spring_in x3 (show v < 3 by omega) 5 FUEL a 0 w1 I1 R1 (by omega) (rnk_le (by omega)) (by omega) (by decide)
        have I2 := I1.lf f2
        refine STEP.like I (r := nI (sprF S v x3 6 a)) (w1 := w2) ?_ (f1.trans f2) ?_
        · unfold F_A_spring
          simp (disch := omega) only [qL, ↓qM, t16 T, t168 T, hV, hD, A_wi, q_int, p1, t16 I1.1, p2, gd_true, beq_self_eq_true, bd_s, if_true, if_false, ↓reduceIte, ite_true, ite_false, Bool.and_self, Bool.and_true, Bool.true_and, Nat.reduceBEq, Bool.or_true, Bool.true_or, Bool.or_self]
          rw [if_neg (by omega), if_neg (by omega), if_neg (by omega)]
        · show (F_M_spring w2 271 (nI a) (nI v) x3).bind _ = _
          unfold F_M_spring
          simp (disch := omega) only [qL, ↓qM, M_alm, M_valley, M_wi, qLJ, q_int, mK I2.1, M_sourceOf_in I2.1 I2.2.1 x3 (show v < 3 by omega) (show a < 6 by omega), gd_true, beq_self_eq_true, bd_s, if_true, if_false, ↓reduceIte, ite_true, ite_false, Bool.and_self, Bool.and_true, Bool.true_and, Nat.reduceBEq, Bool.or_true, Bool.true_or, Bool.or_self]
          rw [if_neg (by omega), if_neg (by omega), if_neg (by omega), M_spring_in I2.1 I2.2.1 x3 (show v < 3 by omega) 5 FUEL a (by omega) (rnk_le (by omega)) (by decide), bd_s]
      · refine STEP.pure I (r := mI 102) ?_ ?_
        · unfold F_A_spring
          simp (disch := omega) only [qL, ↓qM, t16 T, hV, hD, A_wi, q_int, gd_true, beq_self_eq_true, bd_s, if_true, if_false, ↓reduceIte, ite_true, ite_false, Bool.and_self, Bool.and_true, Bool.true_and, Nat.reduceBEq, Bool.or_true, Bool.true_or, Bool.or_self]
          rw [if_neg (by omega), if_neg (by omega), if_pos (by omega)]
        · unfold F_M_spring
          simp (disch := omega) only [qL, ↓qM, M_alm, M_valley, M_wi, qLJ, q_int]
          rw [if_neg (by omega), if_neg (by omega), if_pos (by omega), bd_s]
    · rw [if_neg h2] at hD
      refine STEP.pure I (r := mI 101) ?_ ?_
      · unfold F_A_spring
        simp only [qL, ↓qM, t16 T, hV, hD, gd_true, beq_self_eq_true, bd_s, if_true, if_false, ↓reduceIte, ite_true, ite_false, Bool.and_self, Bool.and_true, Bool.true_and, Nat.reduceBEq, Bool.or_true, Bool.true_or, Bool.or_self]
        rw [if_neg (by omega)]
      · unfold F_M_spring
        simp (disch := omega) only [qL, ↓qM, M_alm, M_valley, q_int]
        rw [if_neg (by omega), if_pos (by omega), bd_s]
  · rw [if_neg h1] at hV
    refine STEP.pure I (r := mI 101) ?_ ?_
    · unfold F_A_spring
      rw [hV, hD]
      simp only [qL, ↓qM, t16 T, gd_true, beq_self_eq_true, bd_s, if_true, if_false, ↓reduceIte, ite_true, ite_false, Bool.and_self, Bool.and_true, Bool.true_and, Nat.reduceBEq, Bool.or_true, Bool.true_or, Bool.or_self]
    · unfold F_M_spring
      simp only [qL, ↓qM, M_alm]
      rw [if_pos (by omega), bd_s]
