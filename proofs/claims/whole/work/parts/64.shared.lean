/-! PURE: shared, alike -/
theorem A_answer {L : Nat} {xs : Nat → Int32} {S : Nat → Nat → Int32} {w : AW} (T : Top L xs w) {a b v m : Nat} (hm : m < 4) (h : ∀ m, m < 4 → wi w 168 m = nI (shN S v a b m)) : F_Li_answer w 168 (nI m) = some (nI (shN S v a b m)) := by
  have : m = 0 ∨ m = 1 ∨ m = 2 ∨ m = 3 := by omega
  unfold F_Li_answer
  rcases this with e | e | e | e <;> subst e
  · rw [if_neg (by decide +kernel), if_pos (by decide +kernel)]; simp only [t168 T, h 0 (by omega), gd_true, beq_self_eq_true, bd_s, if_true, if_false, ↓reduceIte, ite_true, ite_false, Bool.and_self, Bool.and_true, Bool.true_and, Nat.reduceBEq, Bool.or_true, Bool.true_or, Bool.or_self]
  · rw [if_neg (by decide +kernel), if_neg (by decide +kernel), if_pos (by decide +kernel)]; simp only [t168 T, h 1 (by omega), gd_true, beq_self_eq_true, bd_s, if_true, if_false, ↓reduceIte, ite_true, ite_false, Bool.and_self, Bool.and_true, Bool.true_and, Nat.reduceBEq, Bool.or_true, Bool.true_or, Bool.or_self]
  · rw [if_neg (by decide +kernel), if_neg (by decide +kernel), if_neg (by decide +kernel), if_pos (by decide +kernel)]; simp only [t168 T, h 2 (by omega), gd_true, beq_self_eq_true, bd_s, if_true, if_false, ↓reduceIte, ite_true, ite_false, Bool.and_self, Bool.and_true, Bool.true_and, Nat.reduceBEq, Bool.or_true, Bool.true_or, Bool.or_self]
  · rw [if_pos (by decide +kernel)]; simp only [t168 T, h 3 (by omega), gd_true, beq_self_eq_true, bd_s, if_true, if_false, ↓reduceIte, ite_true, ite_false, Bool.and_self, Bool.and_true, Bool.true_and, Nat.reduceBEq, Bool.or_true, Bool.true_or, Bool.or_self]
theorem S_shared {L : Nat} {xs : Nat → Int32} {S : Nat → Nat → Int32} {w : AW} (I : Inv L xs S w) (x1 x2 x3 x4 : Int32) : STEP L xs w (F_A_shared 16 x1 x2 x3 x4) (fun u => (F_M_shared u 271 x1 x2 x3 x4).bind fun r => some (r, u)) := by
  have T := I.1
  have hV := A_almanacOf T x1
  have hW := A_almanacOf T x2
  have hD := A_diaryOf T x3
  by_cases h1 : 0 ≤ x1.toInt ∧ x1.toInt ≤ 5
  · obtain ⟨a, rfl, ha⟩ := q_of h1.1 (n := 5) h1.2 (by omega)
    rw [if_pos h1, nat_nI (by omega)] at hV
    by_cases h2 : 0 ≤ x2.toInt ∧ x2.toInt ≤ 5
    · obtain ⟨b, rfl, hb⟩ := q_of h2.1 (n := 5) h2.2 (by omega)
      rw [if_pos h2, nat_nI (by omega)] at hW
      by_cases h3 : 0 ≤ x3.toInt ∧ x3.toInt ≤ 2
      · obtain ⟨v, rfl, hv⟩ := q_of h3.1 (n := 2) h3.2 (by omega)
        rw [if_pos h3, nat_nI (by omega)] at hD
        by_cases h4 : 0 ≤ x4.toInt ∧ x4.toInt ≤ 3
        · obtain ⟨m, rfl, hm⟩ := q_of h4.1 (n := 3) h4.2 (by omega)
          obtain ⟨w1, p1, f1, R1⟩ := A_readRain I (show v < 3 by omega)
          have I1 := I.lf f1
          obtain ⟨w2, p2, f2, R2, c2⟩ := A_compare I1 (show v < 3 by omega) (show a < 6 by omega) (show b < 6 by omega) R1
          have I2 := I1.lf f2
          refine STEP.like I (r := nI (shN S v a b m)) (w1 := w2) ?_ (f1.trans f2) ?_
          · unfold F_A_shared
            simp (disch := omega) only [qL, ↓qM, t16 T, t168 T, hV, hW, hD, A_wi, q_int, p1, t16 I1.1, t168 I1.1, p2, t16 I2.1, t168 I2.1, A_answer I2.1 (show m < 4 by omega) c2, gd_true, beq_self_eq_true, bd_s, if_true, if_false, ↓reduceIte, ite_true, ite_false, Bool.and_self, Bool.and_true, Bool.true_and, Nat.reduceBEq, Bool.or_true, Bool.true_or, Bool.or_self]
            rw [if_neg (by omega), if_neg (by omega), if_neg (by omega), if_neg (by omega)]
          · show (F_M_shared w2 271 (nI a) (nI b) (nI v) (nI m)).bind _ = _
            unfold F_M_shared
            simp (disch := omega) only [qL, ↓qM, M_alm, M_valley, M_wi, qLJ, q_int, mK I2.1, M_sharedOf I2.1 I2.2.1 (show a < 6 by omega) (show b < 6 by omega) (show v < 3 by omega) (show m < 4 by omega), gd_true, beq_self_eq_true, bd_s, if_true, if_false, ↓reduceIte, ite_true, ite_false, Bool.and_self, Bool.and_true, Bool.true_and, Nat.reduceBEq, Bool.or_true, Bool.true_or, Bool.or_self]
            rw [if_neg (by omega), if_neg (by omega), if_neg (by omega), if_neg (by omega), bd_s]
        · refine STEP.pure I (r := mI 102) ?_ ?_
          · unfold F_A_shared
            simp (disch := omega) only [qL, ↓qM, t16 T, hV, hW, hD, A_wi, q_int, gd_true, beq_self_eq_true, bd_s, if_true, if_false, ↓reduceIte, ite_true, ite_false, Bool.and_self, Bool.and_true, Bool.true_and, Nat.reduceBEq, Bool.or_true, Bool.true_or, Bool.or_self]
            rw [if_neg (by omega), if_neg (by omega), if_neg (by omega), if_pos (by omega)]
          · unfold F_M_shared
            simp (disch := omega) only [qL, ↓qM, M_alm, M_valley, M_wi, qLJ, q_int]
            rw [if_neg (by omega), if_neg (by omega), if_neg (by omega), if_pos (by omega), bd_s]
      · rw [if_neg h3] at hD
        refine STEP.pure I (r := mI 101) ?_ ?_
        · unfold F_A_shared
          simp only [qL, ↓qM, t16 T, hV, hW, hD, gd_true, beq_self_eq_true, bd_s, if_true, if_false, ↓reduceIte, ite_true, ite_false, Bool.and_self, Bool.and_true, Bool.true_and, Nat.reduceBEq, Bool.or_true, Bool.true_or, Bool.or_self]
          rw [if_neg (by omega), if_neg (by omega)]
        · unfold F_M_shared
          simp (disch := omega) only [qL, ↓qM, M_alm, M_valley, q_int]
          rw [if_neg (by omega), if_neg (by omega), if_pos (by omega), bd_s]
    · rw [if_neg h2] at hW
      refine STEP.pure I (r := mI 101) ?_ ?_
      · unfold F_A_shared
        rw [hV, hW, hD]
        simp only [qL, ↓qM, t16 T, gd_true, beq_self_eq_true, bd_s, if_true, if_false, ↓reduceIte, ite_true, ite_false, Bool.and_self, Bool.and_true, Bool.true_and, Nat.reduceBEq, Bool.or_true, Bool.true_or, Bool.or_self]
        rw [if_neg (by omega)]
      · unfold F_M_shared
        simp (disch := omega) only [qL, ↓qM, M_alm, q_int]
        rw [if_neg (by omega), if_pos (by omega), bd_s]
  · rw [if_neg h1] at hV
    refine STEP.pure I (r := mI 101) ?_ ?_
    · unfold F_A_shared
      rw [hV, hW, hD]
      simp only [qL, ↓qM, t16 T, gd_true, beq_self_eq_true, bd_s, if_true, if_false, ↓reduceIte, ite_true, ite_false, Bool.and_self, Bool.and_true, Bool.true_and, Nat.reduceBEq, Bool.or_true, Bool.true_or, Bool.or_self]
    · unfold F_M_shared
      simp only [qL, ↓qM, M_alm]
      rw [if_pos (by omega), bd_s]
theorem S_alike {L : Nat} {xs : Nat → Int32} {S : Nat → Nat → Int32} {w : AW} (I : Inv L xs S w) (x1 x2 x3 x4 : Int32) : STEP L xs w (F_A_alike 16 x1 x2 x3 x4) (fun u => (F_M_alike u 271 x1 x2 x3 x4).bind fun r => some (r, u)) := by
  classical
  have T := I.1
  have hV := A_almanacOf T x1
  have hW := A_almanacOf T x2
  have hD := A_diaryOf T x3
  by_cases h1 : 0 ≤ x1.toInt ∧ x1.toInt ≤ 5
  · obtain ⟨a, rfl, ha⟩ := q_of h1.1 (n := 5) h1.2 (by omega)
    rw [if_pos h1, nat_nI (by omega)] at hV
    by_cases h2 : 0 ≤ x2.toInt ∧ x2.toInt ≤ 5
    · obtain ⟨b, rfl, hb⟩ := q_of h2.1 (n := 5) h2.2 (by omega)
      rw [if_pos h2, nat_nI (by omega)] at hW
      by_cases h3 : 0 ≤ x3.toInt ∧ x3.toInt ≤ 2
      · obtain ⟨v, rfl, hv⟩ := q_of h3.1 (n := 2) h3.2 (by omega)
        rw [if_pos h3, nat_nI (by omega)] at hD
        by_cases h4 : 1 ≤ x4.toInt ∧ x4.toInt ≤ 100
        · obtain ⟨w1, p1, f1, R1⟩ := A_readRain I (show v < 3 by omega)
          have I1 := I.lf f1
          obtain ⟨w2, p2, f2, R2, c2⟩ := A_compare I1 (show v < 3 by omega) (show a < 6 by omega) (show b < 6 by omega) R1
          have I2 := I1.lf f2
          refine STEP.like I (r := if alk S v a b x4 then nI 0 else nI 1) (w1 := w2) ?_ (f1.trans f2) ?_
          · unfold F_A_alike
            simp (disch := omega) only [qL, ↓qM, t16 T, t168 T, hV, hW, hD, A_wi, q_int, p1, t16 I1.1, t168 I1.1, p2, t16 I2.1, t168 I2.1, A_reaches I2.1 x4 c2, gd_true, beq_self_eq_true, bd_s, if_true, if_false, ↓reduceIte, ite_true, ite_false, Bool.and_self, Bool.and_true, Bool.true_and, Nat.reduceBEq, Bool.or_true, Bool.true_or, Bool.or_self]
            rw [if_neg (by omega), if_neg (by omega), if_neg (by omega), if_neg (by omega)]
            by_cases hk : alk S v a b x4
            · rw [if_pos hk, if_pos rfl]
            · rw [if_neg hk, if_neg (show ¬ nI 1 = nI 0 by decide +kernel)]
          · show (F_M_alike w2 271 (nI a) (nI b) (nI v) x4).bind _ = _
            unfold F_M_alike
            simp (disch := omega) only [qL, ↓qM, M_alm, M_valley, M_wi, qLJ, q_int, mK I2.1, M_areAlike I2.1 I2.2.1 x4 (show a < 6 by omega) (show b < 6 by omega) (show v < 3 by omega), gd_true, beq_self_eq_true, bd_s, if_true, if_false, ↓reduceIte, ite_true, ite_false, Bool.and_self, Bool.and_true, Bool.true_and, Nat.reduceBEq, Bool.or_true, Bool.true_or, Bool.or_self]
            rw [if_neg (by omega), if_neg (by omega), if_neg (by omega), if_neg (by omega)]
            by_cases hk : alk S v a b x4
            · rw [if_pos hk, if_pos rfl, bd_s]
            · rw [if_neg hk, if_neg (show ¬ nI 1 = nI 0 by decide +kernel), bd_s]
        · refine STEP.pure I (r := mI 102) ?_ ?_
          · unfold F_A_alike
            simp (disch := omega) only [qL, ↓qM, t16 T, hV, hW, hD, A_wi, q_int, gd_true, beq_self_eq_true, bd_s, if_true, if_false, ↓reduceIte, ite_true, ite_false, Bool.and_self, Bool.and_true, Bool.true_and, Nat.reduceBEq, Bool.or_true, Bool.true_or, Bool.or_self]
            rw [if_neg (by omega), if_neg (by omega), if_neg (by omega), if_pos (by omega)]
          · unfold F_M_alike
            simp (disch := omega) only [qL, ↓qM, M_alm, M_valley, M_wi, qLJ, q_int]
            rw [if_neg (by omega), if_neg (by omega), if_neg (by omega), if_pos (by omega), bd_s]
      · rw [if_neg h3] at hD
        refine STEP.pure I (r := mI 101) ?_ ?_
        · unfold F_A_alike
          simp only [qL, ↓qM, t16 T, hV, hW, hD, gd_true, beq_self_eq_true, bd_s, if_true, if_false, ↓reduceIte, ite_true, ite_false, Bool.and_self, Bool.and_true, Bool.true_and, Nat.reduceBEq, Bool.or_true, Bool.true_or, Bool.or_self]
          rw [if_neg (by omega), if_neg (by omega)]
        · unfold F_M_alike
          simp (disch := omega) only [qL, ↓qM, M_alm, M_valley, q_int]
          rw [if_neg (by omega), if_neg (by omega), if_pos (by omega), bd_s]
    · rw [if_neg h2] at hW
      refine STEP.pure I (r := mI 101) ?_ ?_
      · unfold F_A_alike
        rw [hV, hW, hD]
        simp only [qL, ↓qM, t16 T, gd_true, beq_self_eq_true, bd_s, if_true, if_false, ↓reduceIte, ite_true, ite_false, Bool.and_self, Bool.and_true, Bool.true_and, Nat.reduceBEq, Bool.or_true, Bool.true_or, Bool.or_self]
        rw [if_neg (by omega)]
      · unfold F_M_alike
        simp (disch := omega) only [qL, ↓qM, M_alm, q_int]
        rw [if_neg (by omega), if_pos (by omega), bd_s]
  · rw [if_neg h1] at hV
    refine STEP.pure I (r := mI 101) ?_ ?_
    · unfold F_A_alike
      rw [hV, hW, hD]
      simp only [qL, ↓qM, t16 T, gd_true, beq_self_eq_true, bd_s, if_true, if_false, ↓reduceIte, ite_true, ite_false, Bool.and_self, Bool.and_true, Bool.true_and, Nat.reduceBEq, Bool.or_true, Bool.true_or, Bool.or_self]
    · unfold F_M_alike
      simp only [qL, ↓qM, M_alm]
      rw [if_pos (by omega), bd_s]
