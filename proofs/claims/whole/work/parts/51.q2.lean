/-! PURE: more calls that ask of one saying and a valley -/
theorem S_expected {L : Nat} {xs : Nat → Int32} {S : Nat → Nat → Int32} {w : AW} (I : Inv L xs S w) (x1 x2 : Int32) : STEP L xs w (F_A_expected 16 x1 x2) (F_M_expected 271 x1 x2) := by
  have T := I.1
  have Is := I.2.2.1.2.2.2.2.1
  have hS := A_sayingOf T Is I.2.2.2.2.2.2.1 x1
  have hV := A_diaryOf T x2
  have hMS := M_isSaying T I.2.1 Is x1
  by_cases hk : 0 ≤ x1.toInt ∧ x1.toInt < nS S
  · rw [if_pos hk] at hS
    rw [decide_eq_true hk] at hMS
    have hkn : nat x1 < nS S := by unfold nat; omega
    have hx1 : x1 = nI (nat x1) := by unfold nat; exact q_ofI hk.1
    have sa := I.say hkn
    have ik := I.k8 hkn
    by_cases hv : 0 ≤ x2.toInt ∧ x2.toInt ≤ 2
    · rw [if_pos hv] at hV
      obtain ⟨v, rfl, hv3⟩ := q_of hv.1 (n := 2) hv.2 (by omega)
      rw [nat_nI (by omega)] at hV
      have hvi : (nI v).toInt = (v : Int) := nI_toInt (by omega)
      obtain ⟨w1, e1, f1, r0, r1, r2, I1⟩ := rdOf I hkn (show v < 3 by omega) in88
      have T1 := I1.1
      have W1 := I1.2.2.2.2.2.2.2.2.2
      have hMS1 := M_isSaying T1 I1.2.1 Is x1
      rw [decide_eq_true hk] at hMS1
      obtain ⟨w2, e2, f2⟩ := A_expR T1 W1 I1.2.2.2.1 I1.2.2.1.1 r2
      have F2 : DF (fun x => rdA 88 x ∨ x = 134) w w2 := (f1.mono (fun x hx => .inl hx)).trans (f2.mono (fun x hx => .inr hx))
      have hA : ∀ a, (rdA 88 a ∨ a = 134) → a < 200 := fun a h => by rcases h with h | h; (exact rd_lt in88 a h); omega
      have I2 := I.df F2 hA
      obtain ⟨w3, m1, m2⟩ := M_expectedOf I2.1 I2.2.1 I2.2.2.1.1 I2.2.2.1.2.1 ik.1 (show v < 3 by omega) ik.2
      rw [← hx1] at m1
      have hMS2 := M_isSaying I2.1 I2.2.1 Is x1
      rw [decide_eq_true hk] at hMS2
      refine STEP.query I (r := nI (exS S (nat x1) v 12)) ?_ F2 hA ?_ m2
      · unfold F_A_expected
        simp (disch := omega) only [qL, ↓qM, t16 T, t88 T, hS, hV, sa.2, e1, t16 T1, e2, gd_true, beq_self_eq_true, bd_s, if_true, if_false, ↓reduceIte, ite_true, ite_false, Bool.and_self, Bool.and_true, Bool.true_and, Nat.reduceBEq, Bool.or_true, Bool.true_or, Bool.or_self]
        rw [if_neg (by omega)]
      · unfold F_M_expected
        simp (disch := omega) only [qL, ↓qM, mK I2.1, hMS2, q_b0, M_valley, hvi, gd_true, beq_self_eq_true, bd_s, if_true, if_false, ↓reduceIte, ite_true, ite_false, Bool.and_self, Bool.and_true, Bool.true_and, Nat.reduceBEq, Bool.or_true, Bool.true_or, Bool.or_self]
        rw [if_neg (by simp), if_neg (by omega), m1, bd_s]
    · rw [if_neg hv] at hV
      refine STEP.pure I (r := mI 101) ?_ ?_
      · unfold F_A_expected
        simp only [qL, ↓qM, t16 T, hS, hV, sa.2, gd_true, beq_self_eq_true, bd_s, if_true, if_false, ↓reduceIte, ite_true, ite_false, Bool.and_self, Bool.and_true, Bool.true_and, Nat.reduceBEq, Bool.or_true, Bool.true_or, Bool.or_self]
      · unfold F_M_expected
        simp only [qL, ↓qM, mK T, hMS, q_b0, M_valley, gd_true, beq_self_eq_true, bd_s, if_true, if_false, ↓reduceIte, ite_true, ite_false, Bool.and_self, Bool.and_true, Bool.true_and, Nat.reduceBEq, Bool.or_true, Bool.true_or, Bool.or_self]
        rw [if_neg (by simp), if_pos hv]
  · rw [if_neg hk] at hS
    rw [decide_eq_false hk] at hMS
    refine STEP.pure I (r := mI 101) ?_ ?_
    · unfold F_A_expected
      simp only [qL, ↓qM, t16 T, hS, hV, gd_true, beq_self_eq_true, bd_s, if_true, if_false, ↓reduceIte, ite_true, ite_false, Bool.and_self, Bool.and_true, Bool.true_and, Nat.reduceBEq, Bool.or_true, Bool.true_or, Bool.or_self]
    · unfold F_M_expected
      simp only [qL, ↓qM, mK T, hMS, q_b0, gd_true, beq_self_eq_true, bd_s, if_true, if_false, ↓reduceIte, ite_true, ite_false, Bool.and_self, Bool.and_true, Bool.true_and, Nat.reduceBEq, Bool.or_true, Bool.true_or, Bool.or_self]
theorem S_worth {L : Nat} {xs : Nat → Int32} {S : Nat → Nat → Int32} {w : AW} (I : Inv L xs S w) (x1 x2 : Int32) : STEP L xs w (F_A_worth 16 x1 x2) (F_M_worth 271 x1 x2) := by
  have T := I.1
  have Is := I.2.2.1.2.2.2.2.1
  have hS := A_sayingOf T Is I.2.2.2.2.2.2.1 x1
  have hV := A_diaryOf T x2
  have hMS := M_isSaying T I.2.1 Is x1
  by_cases hk : 0 ≤ x1.toInt ∧ x1.toInt < nS S
  · rw [if_pos hk] at hS
    rw [decide_eq_true hk] at hMS
    have hkn : nat x1 < nS S := by unfold nat; omega
    have hx1 : x1 = nI (nat x1) := by unfold nat; exact q_ofI hk.1
    have sa := I.say hkn
    have ik := I.k8 hkn
    by_cases hv : 0 ≤ x2.toInt ∧ x2.toInt ≤ 2
    · rw [if_pos hv] at hV
      obtain ⟨v, rfl, hv3⟩ := q_of hv.1 (n := 2) hv.2 (by omega)
      rw [nat_nI (by omega)] at hV
      have hvi : (nI v).toInt = (v : Int) := nI_toInt (by omega)
      obtain ⟨w1, e1, f1, r0, r1, r2, I1⟩ := rdOf I hkn (show v < 3 by omega) in88
      have T1 := I1.1
      have W1 := I1.2.2.2.2.2.2.2.2.2
      have hMS1 := M_isSaying T1 I1.2.1 Is x1
      rw [decide_eq_true hk] at hMS1
      obtain ⟨w2, e2, f2⟩ := A_woR T1 W1 I1.2.2.2.1 I1.2.2.1.1 r2
      have F2 : DF (fun x => rdA 88 x ∨ x = 134) w w2 := (f1.mono (fun x hx => .inl hx)).trans (f2.mono (fun x hx => .inr hx))
      have hA : ∀ a, (rdA 88 a ∨ a = 134) → a < 200 := fun a h => by rcases h with h | h; (exact rd_lt in88 a h); omega
      have I2 := I.df F2 hA
      obtain ⟨w3, m1, m2⟩ := M_worthOf I2.1 I2.2.1 I2.2.2.1.1 I2.2.2.1.2.1 ik.1 (show v < 3 by omega) ik.2
      rw [← hx1] at m1
      have hMS2 := M_isSaying I2.1 I2.2.1 Is x1
      rw [decide_eq_true hk] at hMS2
      refine STEP.query I (r := woI S (nat x1) v) ?_ F2 hA ?_ m2
      · unfold F_A_worth
        simp (disch := omega) only [qL, ↓qM, t16 T, t88 T, hS, hV, sa.2, e1, t16 T1, e2, gd_true, beq_self_eq_true, bd_s, if_true, if_false, ↓reduceIte, ite_true, ite_false, Bool.and_self, Bool.and_true, Bool.true_and, Nat.reduceBEq, Bool.or_true, Bool.true_or, Bool.or_self]
        rw [if_neg (by omega)]
      · unfold F_M_worth
        simp (disch := omega) only [qL, ↓qM, mK I2.1, hMS2, q_b0, M_valley, hvi, gd_true, beq_self_eq_true, bd_s, if_true, if_false, ↓reduceIte, ite_true, ite_false, Bool.and_self, Bool.and_true, Bool.true_and, Nat.reduceBEq, Bool.or_true, Bool.true_or, Bool.or_self]
        rw [if_neg (by simp), if_neg (by omega), m1, bd_s]
    · rw [if_neg hv] at hV
      refine STEP.pure I (r := mI 100000001) ?_ ?_
      · unfold F_A_worth
        simp only [qL, ↓qM, t16 T, hS, hV, sa.2, gd_true, beq_self_eq_true, bd_s, if_true, if_false, ↓reduceIte, ite_true, ite_false, Bool.and_self, Bool.and_true, Bool.true_and, Nat.reduceBEq, Bool.or_true, Bool.true_or, Bool.or_self]
      · unfold F_M_worth
        simp only [qL, ↓qM, mK T, hMS, q_b0, M_valley, gd_true, beq_self_eq_true, bd_s, if_true, if_false, ↓reduceIte, ite_true, ite_false, Bool.and_self, Bool.and_true, Bool.true_and, Nat.reduceBEq, Bool.or_true, Bool.true_or, Bool.or_self]
        rw [if_neg (by simp), if_pos hv]
  · rw [if_neg hk] at hS
    rw [decide_eq_false hk] at hMS
    refine STEP.pure I (r := mI 100000001) ?_ ?_
    · unfold F_A_worth
      simp only [qL, ↓qM, t16 T, hS, hV, gd_true, beq_self_eq_true, bd_s, if_true, if_false, ↓reduceIte, ite_true, ite_false, Bool.and_self, Bool.and_true, Bool.true_and, Nat.reduceBEq, Bool.or_true, Bool.true_or, Bool.or_self]
    · unfold F_M_worth
      simp only [qL, ↓qM, mK T, hMS, q_b0, gd_true, beq_self_eq_true, bd_s, if_true, if_false, ↓reduceIte, ite_true, ite_false, Bool.and_self, Bool.and_true, Bool.true_and, Nat.reduceBEq, Bool.or_true, Bool.true_or, Bool.or_self]
theorem S_month {L : Nat} {xs : Nat → Int32} {S : Nat → Nat → Int32} {w : AW} (I : Inv L xs S w) (x1 x2 x3 x4 : Int32) : STEP L xs w (F_A_month 16 x1 x2 x3 x4) (F_M_month 271 x1 x2 x3 x4) := by
  have T := I.1
  have Is := I.2.2.1.2.2.2.2.1
  have hS := A_sayingOf T Is I.2.2.2.2.2.2.1 x1
  have hV := A_diaryOf T x2
  have hMS := M_isSaying T I.2.1 Is x1
  by_cases hk : 0 ≤ x1.toInt ∧ x1.toInt < nS S
  · rw [if_pos hk] at hS
    rw [decide_eq_true hk] at hMS
    have hkn : nat x1 < nS S := by unfold nat; omega
    have hx1 : x1 = nI (nat x1) := by unfold nat; exact q_ofI hk.1
    have sa := I.say hkn
    have ik := I.k8 hkn
    by_cases hv : 0 ≤ x2.toInt ∧ x2.toInt ≤ 2
    · rw [if_pos hv] at hV
      obtain ⟨v, rfl, hv3⟩ := q_of hv.1 (n := 2) hv.2 (by omega)
      rw [nat_nI (by omega)] at hV
      have hvi : (nI v).toInt = (v : Int) := nI_toInt (by omega)
      by_cases hm : 1 ≤ x3.toInt ∧ x3.toInt ≤ 12
      · obtain ⟨m, rfl, hm3⟩ := q_of (x := x3) (by omega) (n := 12) hm.2 (by omega)
        have hmi : (nI m).toInt = (m : Int) := nI_toInt (by omega)
        rw [hmi] at hm
        by_cases hd : 0 ≤ x4.toInt ∧ x4.toInt ≤ 3
        · obtain ⟨d, rfl, hd3⟩ := q_of hd.1 (n := 3) hd.2 (by omega)
          have hdi : (nI d).toInt = (d : Int) := nI_toInt (by omega)
          obtain ⟨w1, e1, f1, r0, r1, r2, I1⟩ := rdOf I hkn (show v < 3 by omega) in88
          have T1 := I1.1
          have W1 := I1.2.2.2.2.2.2.2.2.2
          have hMS1 := M_isSaying T1 I1.2.1 Is x1
          rw [decide_eq_true hk] at hMS1
          have d134 := tD T1 in134
          have ea := A_addMonths (T1.sh (Sh.setD w1 134 (fun _ => false))) (show CF (setD w1 134 (fun _ => false)) (sF S) from I1.2.2.2.1.cf I1.2.2.1.1) (show m < 13 by omega) (show m < 13 by omega) (TD_setD 134 _ d134) (WF_setD 134 (fun _ => false) (.inl rfl))
          rw [setD_setD] at ea
          have f2 : DF (fun x => x = 134) w1 (setD w1 134 (fun n => gD (setD w1 134 (fun _ => false)) 134 n || inMon m m (mo (sF S) n))) := DF.set _ _ rfl
          have hg : ∀ n, n < 1461 → gD (setD w1 134 (fun n => gD (setD w1 134 (fun _ => false)) 134 n || inMon m m (mo (sF S) n))) 134 n = inMon m m (mo (sF S) n) := fun n hn => by
            rw [gD_eq _ _ _ hn, gD_eq _ _ _ hn, Bool.false_or]
          generalize setD w1 134 (fun n => gD (setD w1 134 (fun _ => false)) 134 n || inMon m m (mo (sF S) n)) = w2 at ea f2 hg
          have F2 : DF (fun x => rdA 88 x ∨ x = 134) w w2 := (f1.mono (fun x hx => .inl hx)).trans (f2.mono (fun x hx => .inr hx))
          have hA : ∀ a, (rdA 88 a ∨ a = 134) → a < 200 := fun a h => by rcases h with h | h; (exact rd_lt in88 a h); omega
          have I2 := I.df F2 hA
          have sz : F_Dy_sizeWith w2 (pa d) 134 = some (nI (mcS S (nat x1) v m d 4)) := by
            rw [D_sizeWith (tD I2.1 (pa_in d (by omega)).1) (tD I2.1 in134) (I2.2.2.2.2.2.2.2.2.2 _ (pa_in d (by omega)).1), ← cnt_inMon I2.2.2.1.1 (by omega) (by omega)]
            refine congrArg (fun x => some (nI x)) (cnt_congr 1461 (fun n hn => ?_))
            have hp := (pa_in d (by omega)).2
            rw [hg n hn, f2.g (by omega), r2.of (by omega) hn]
          have ep : F_Rd_part w2 88 (nI d) = some (pa d) := by
            have dd : d = 0 ∨ d = 1 ∨ d = 2 ∨ d = 3 := by omega
            unfold F_Rd_part pa
            rcases dd with h | h | h | h <;> subst h <;> simp (disch := omega) [qL, q_int, q_eq, t88 I2.1, gd_true]
          obtain ⟨w3, m1, m2⟩ := M_monthCount I2.1 I2.2.1 I2.2.2.1.1 I2.2.2.1.2.1 ik.1 (show v < 3 by omega) (show 1 ≤ m by omega) (by omega) (show d < 4 by omega) ik.2
          rw [← hx1] at m1
          have hMS2 := M_isSaying I2.1 I2.2.1 Is x1
          rw [decide_eq_true hk] at hMS2
          refine STEP.query I (r := nI (mcS S (nat x1) v m d 4)) ?_ F2 hA ?_ m2
          · unfold F_A_month
            simp (disch := omega) only [qL, ↓qM, t16 T, t88 T, hS, hV, sa.2, A_month, A_wi, q_int, e1, t16 T1, d134.1, D_clear d134, wk_setD, wr_setD, t17 T1, ea, t16 I2.1, t88 I2.1, ep, (tD I2.1 (pa_in d (by omega)).1).1, sz, gd_true, beq_self_eq_true, bd_s, if_true, if_false, ↓reduceIte, ite_true, ite_false, Bool.and_self, Bool.and_true, Bool.true_and, Nat.reduceBEq, Bool.or_true, Bool.true_or, Bool.or_self]
            rw [if_neg (by omega), if_neg (by omega), if_neg (by omega)]
          · unfold F_M_month
            simp (disch := omega) only [qL, ↓qM, mK I2.1, hMS2, q_b0, M_valley, M_wi, qLJ, hvi, hmi, hdi, gd_true, beq_self_eq_true, bd_s, if_true, if_false, ↓reduceIte, ite_true, ite_false, Bool.and_self, Bool.and_true, Bool.true_and, Nat.reduceBEq, Bool.or_true, Bool.true_or, Bool.or_self]
            rw [if_neg (by simp), if_neg (by omega), if_neg (by omega), if_neg (by omega), m1, bd_s]
        · refine STEP.pure I (r := mI 102) ?_ ?_
          · unfold F_A_month
            simp (disch := omega) only [qL, ↓qM, t16 T, hS, hV, sa.2, A_month, A_wi, q_int, gd_true, beq_self_eq_true, bd_s, if_true, if_false, ↓reduceIte, ite_true, ite_false, Bool.and_self, Bool.and_true, Bool.true_and, Nat.reduceBEq, Bool.or_true, Bool.true_or, Bool.or_self]
            rw [if_neg (by omega), if_neg (by omega), if_pos (by omega)]
          · unfold F_M_month
            simp (disch := omega) only [qL, ↓qM, mK T, hMS, q_b0, M_valley, M_wi, qLJ, hvi, hmi, gd_true, beq_self_eq_true, bd_s, if_true, if_false, ↓reduceIte, ite_true, ite_false, Bool.and_self, Bool.and_true, Bool.true_and, Nat.reduceBEq, Bool.or_true, Bool.true_or, Bool.or_self]
            rw [if_neg (by simp), if_neg (by omega), if_neg (by omega), if_pos (by omega)]
      · refine STEP.pure I (r := mI 102) ?_ ?_
        · unfold F_A_month
          simp (disch := omega) only [qL, ↓qM, t16 T, hS, hV, sa.2, A_month, A_wi, q_int, gd_true, beq_self_eq_true, bd_s, if_true, if_false, ↓reduceIte, ite_true, ite_false, Bool.and_self, Bool.and_true, Bool.true_and, Nat.reduceBEq, Bool.or_true, Bool.true_or, Bool.or_self]
          rw [if_neg (by omega), if_pos hm]
        · unfold F_M_month
          simp (disch := omega) only [qL, ↓qM, mK T, hMS, q_b0, M_valley, M_wi, qLJ, hvi, gd_true, beq_self_eq_true, bd_s, if_true, if_false, ↓reduceIte, ite_true, ite_false, Bool.and_self, Bool.and_true, Bool.true_and, Nat.reduceBEq, Bool.or_true, Bool.true_or, Bool.or_self]
          rw [if_neg (by simp), if_neg (by omega), if_pos hm]
    · rw [if_neg hv] at hV
      refine STEP.pure I (r := mI 101) ?_ ?_
      · unfold F_A_month
        simp only [qL, ↓qM, t16 T, hS, hV, sa.2, gd_true, beq_self_eq_true, bd_s, if_true, if_false, ↓reduceIte, ite_true, ite_false, Bool.and_self, Bool.and_true, Bool.true_and, Nat.reduceBEq, Bool.or_true, Bool.true_or, Bool.or_self]
      · unfold F_M_month
        simp only [qL, ↓qM, mK T, hMS, q_b0, M_valley, gd_true, beq_self_eq_true, bd_s, if_true, if_false, ↓reduceIte, ite_true, ite_false, Bool.and_self, Bool.and_true, Bool.true_and, Nat.reduceBEq, Bool.or_true, Bool.true_or, Bool.or_self]
        rw [if_neg (by simp), if_pos hv]
  · rw [if_neg hk] at hS
    rw [decide_eq_false hk] at hMS
    refine STEP.pure I (r := mI 101) ?_ ?_
    · unfold F_A_month
      simp only [qL, ↓qM, t16 T, hS, hV, gd_true, beq_self_eq_true, bd_s, if_true, if_false, ↓reduceIte, ite_true, ite_false, Bool.and_self, Bool.and_true, Bool.true_and, Nat.reduceBEq, Bool.or_true, Bool.true_or, Bool.or_self]
    · unfold F_M_month
      simp only [qL, ↓qM, mK T, hMS, q_b0, gd_true, beq_self_eq_true, bd_s, if_true, if_false, ↓reduceIte, ite_true, ite_false, Bool.and_self, Bool.and_true, Bool.true_and, Nat.reduceBEq, Bool.or_true, Bool.true_or, Bool.or_self]
theorem S_cases {L : Nat} {xs : Nat → Int32} {S : Nat → Nat → Int32} {w : AW} (I : Inv L xs S w) (x1 x2 x3 x4 x5 : Int32) : STEP L xs w (F_A_cases 16 x1 x2 x3 x4 x5) (F_M_cases 271 x1 x2 x3 x4 x5) := by
  have T := I.1
  have Is := I.2.2.1.2.2.2.2.1
  have hS := A_sayingOf T Is I.2.2.2.2.2.2.1 x1
  have hV := A_diaryOf T x2
  have hMS := M_isSaying T I.2.1 Is x1
  by_cases hk : 0 ≤ x1.toInt ∧ x1.toInt < nS S
  · rw [if_pos hk] at hS
    rw [decide_eq_true hk] at hMS
    have hkn : nat x1 < nS S := by unfold nat; omega
    have hx1 : x1 = nI (nat x1) := by unfold nat; exact q_ofI hk.1
    have sa := I.say hkn
    have ik := I.k8 hkn
    by_cases hv : 0 ≤ x2.toInt ∧ x2.toInt ≤ 2
    · rw [if_pos hv] at hV
      obtain ⟨v, rfl, hv3⟩ := q_of hv.1 (n := 2) hv.2 (by omega)
      rw [nat_nI (by omega)] at hV
      have hvi : (nI v).toInt = (v : Int) := nI_toInt (by omega)
      by_cases hy : 0 ≤ x3.toInt ∧ x3.toInt ≤ 3
      · obtain ⟨a, rfl, ha3⟩ := q_of hy.1 (n := 3) hy.2 (by omega)
        have hai : (nI a).toInt = (a : Int) := nI_toInt (by omega)
        by_cases hz : a ≤ x4.toInt ∧ x4.toInt ≤ 3
        · obtain ⟨b, rfl, hb3⟩ := q_of (x := x4) (by omega) (n := 3) hz.2 (by omega)
          have hbi : (nI b).toInt = (b : Int) := nI_toInt (by omega)
          rw [hbi] at hz
          by_cases hd : 0 ≤ x5.toInt ∧ x5.toInt ≤ 3
          · obtain ⟨d, rfl, hd3⟩ := q_of hd.1 (n := 3) hd.2 (by omega)
            have hdi : (nI d).toInt = (d : Int) := nI_toInt (by omega)
            obtain ⟨w1, e1, f1, r0, r1, r2, I1⟩ := rdOf I hkn (show v < 3 by omega) in88
            have T1 := I1.1
            have W1 := I1.2.2.2.2.2.2.2.2.2
            have hMS1 := M_isSaying T1 I1.2.1 Is x1
            rw [decide_eq_true hk] at hMS1
            have d134 := tD T1 in134
            have Cf := I1.2.2.2.1.cf I1.2.2.1.1
            have hf := I1.2.2.1.1.2
            have y1 := yst_mono (sF S) (show a ≤ b + 1 by omega)
            have y2 := yst_mono (sF S) (show b + 1 ≤ 4 by omega)
            rw [yst_4 _ hf] at y2
            have ea := D_addFrom (lo := yst (sF S) a) (he := yst (sF S) (b + 1)) (TD_setD 134 (fun _ => false) d134) (WF_setD 134 (fun _ => false) (.inl rfl)) (by omega) y2
            rw [setD_setD] at ea
            have f2 : DF (fun x => x = 134) w1 (setD w1 134 (fun n => gD (setD w1 134 (fun _ => false)) 134 n || (decide (yst (sF S) a ≤ n) && decide (n < yst (sF S) (b + 1))))) := DF.set _ _ rfl
            have hg : ∀ n, n < 1461 → gD (setD w1 134 (fun n => gD (setD w1 134 (fun _ => false)) 134 n || (decide (yst (sF S) a ≤ n) && decide (n < yst (sF S) (b + 1))))) 134 n = (decide (yst (sF S) a ≤ n) && decide (n < yst (sF S) (b + 1))) := fun n hn => by
              rw [gD_eq _ _ _ hn, gD_eq _ _ _ hn, Bool.false_or]
            generalize setD w1 134 (fun n => gD (setD w1 134 (fun _ => false)) 134 n || (decide (yst (sF S) a ≤ n) && decide (n < yst (sF S) (b + 1)))) = w2 at ea f2 hg
            have F2 : DF (fun x => rdA 88 x ∨ x = 134) w w2 := (f1.mono (fun x hx => .inl hx)).trans (f2.mono (fun x hx => .inr hx))
            have hA : ∀ a, (rdA 88 a ∨ a = 134) → a < 200 := fun a h => by rcases h with h | h; (exact rd_lt in88 a h); omega
            have I2 := I.df F2 hA
            have sz : F_Dy_sizeWith w2 (pa d) 134 = some (nI (ct (ofW S (nat x1) v d) (yst (sF S) a) (yst (sF S) (b + 1)))) := by
              rw [D_sizeWith (tD I2.1 (pa_in d (by omega)).1) (tD I2.1 in134) (I2.2.2.2.2.2.2.2.2.2 _ (pa_in d (by omega)).1), ← cnt_rng _ y1 1461 y2]
              refine congrArg (fun x => some (nI x)) (cnt_congr 1461 (fun n hn => ?_))
              have hp := (pa_in d (by omega)).2
              rw [hg n hn, f2.g (by omega), r2.of (by omega) hn]
            have ep : F_Rd_part w2 88 (nI d) = some (pa d) := by
              have dd : d = 0 ∨ d = 1 ∨ d = 2 ∨ d = 3 := by omega
              unfold F_Rd_part pa
              rcases dd with h | h | h | h <;> subst h <;> simp (disch := omega) [qL, q_int, q_eq, t88 I2.1, gd_true]
            obtain ⟨w3, m1, m2⟩ := M_countOf I2.1 I2.2.1 I2.2.2.1.1 I2.2.2.1.2.1 ik.1 (show v < 3 by omega) y1 y2 (show d < 4 by omega) ik.2
            rw [← hx1] at m1
            have hMS2 := M_isSaying I2.1 I2.2.1 Is x1
            rw [decide_eq_true hk] at hMS2
            have T12 := T1.sh (Sh.setD w1 134 (fun _ => false))
            have Cf2 : CF (setD w1 134 (fun _ => false)) (sF S) := Cf
            refine STEP.query I (r := nI (ct (ofW S (nat x1) v d) (yst (sF S) a) (yst (sF S) (b + 1)))) ?_ F2 hA ?_ m2
            · unfold F_A_cases
              simp (disch := omega) only [qL, ↓qM, t16 T, t88 T, hS, hV, sa.2, A_year, A_wi, q_int, q_lt, e1, t16 T1, d134.1, D_clear d134, wk_setD, wr_setD, t17 T1, A_startOf T12 Cf2, A_endOf T12 Cf2, ea, t16 I2.1, t88 I2.1, ep, (tD I2.1 (pa_in d (by omega)).1).1, sz, gd_true, beq_self_eq_true, bd_s, if_true, if_false, ↓reduceIte, ite_true, ite_false, Bool.and_self, Bool.and_true, Bool.true_and, Nat.reduceBEq, Bool.or_true, Bool.true_or, Bool.or_self]
              rw [if_neg (by omega), if_neg (by omega), if_neg (by omega), if_neg (by omega), if_neg (by omega)]
            · unfold F_M_cases
              simp (disch := omega) only [qL, ↓qM, mK I2.1, hMS2, q_b0, M_valley, M_wi, Int32.toInt_toInt64, qLJ, hvi, hai, hbi, hdi, M_begin I2.1 I2.2.1 I2.2.2.1.1, M_yearEnd I2.1 I2.2.1 I2.2.2.1.1, bg_1, gd_true, beq_self_eq_true, bd_s, if_true, if_false, ↓reduceIte, ite_true, ite_false, Bool.and_self, Bool.and_true, Bool.true_and, Nat.reduceBEq, Bool.or_true, Bool.true_or, Bool.or_self]
              rw [if_neg (by simp), if_neg (by omega), if_neg (by omega), if_neg (by omega), if_neg (by omega), m1, bd_s]
          · refine STEP.pure I (r := mI 102) ?_ ?_
            · unfold F_A_cases
              simp (disch := omega) only [qL, ↓qM, t16 T, hS, hV, sa.2, A_year, A_wi, q_int, q_lt, gd_true, beq_self_eq_true, bd_s, if_true, if_false, ↓reduceIte, ite_true, ite_false, Bool.and_self, Bool.and_true, Bool.true_and, Nat.reduceBEq, Bool.or_true, Bool.true_or, Bool.or_self]
              rw [if_neg (by omega), if_neg (by omega), if_neg (by omega), if_neg (by omega), if_pos (by omega)]
            · unfold F_M_cases
              simp (disch := omega) only [qL, ↓qM, mK T, hMS, q_b0, M_valley, M_wi, Int32.toInt_toInt64, qLJ, hvi, hai, hbi, gd_true, beq_self_eq_true, bd_s, if_true, if_false, ↓reduceIte, ite_true, ite_false, Bool.and_self, Bool.and_true, Bool.true_and, Nat.reduceBEq, Bool.or_true, Bool.true_or, Bool.or_self]
              rw [if_neg (by simp), if_neg (by omega), if_neg (by omega), if_neg (by omega), if_pos hd]
        · refine STEP.pure I (r := mI 102) ?_ ?_
          · unfold F_A_cases
            simp (disch := omega) only [qL, ↓qM, t16 T, hS, hV, sa.2, A_year, A_wi, q_int, Int32.lt_iff_toInt_lt, gd_true, beq_self_eq_true, bd_s, if_true, if_false, ↓reduceIte, ite_true, ite_false, Bool.and_self, Bool.and_true, Bool.true_and, Nat.reduceBEq, Bool.or_true, Bool.true_or, Bool.or_self]
            rw [if_neg (by omega), if_neg (by omega)]
            by_cases h4 : 0 ≤ x4.toInt ∧ x4.toInt ≤ 3
            · rw [if_neg (by omega), if_pos (by omega)]
            · rw [if_pos h4]
          · unfold F_M_cases
            simp (disch := omega) only [qL, ↓qM, mK T, hMS, q_b0, M_valley, M_wi, Int32.toInt_toInt64, qLJ, hvi, hai, gd_true, beq_self_eq_true, bd_s, if_true, if_false, ↓reduceIte, ite_true, ite_false, Bool.and_self, Bool.and_true, Bool.true_and, Nat.reduceBEq, Bool.or_true, Bool.true_or, Bool.or_self]
            rw [if_neg (by simp), if_neg (by omega), if_neg (by omega), if_pos hz]
      · refine STEP.pure I (r := mI 102) ?_ ?_
        · unfold F_A_cases
          simp (disch := omega) only [qL, ↓qM, t16 T, hS, hV, sa.2, A_year, A_wi, q_int, gd_true, beq_self_eq_true, bd_s, if_true, if_false, ↓reduceIte, ite_true, ite_false, Bool.and_self, Bool.and_true, Bool.true_and, Nat.reduceBEq, Bool.or_true, Bool.true_or, Bool.or_self]
          rw [if_neg (by omega), if_pos hy]
        · unfold F_M_cases
          simp (disch := omega) only [qL, ↓qM, mK T, hMS, q_b0, M_valley, M_wi, qLJ, hvi, gd_true, beq_self_eq_true, bd_s, if_true, if_false, ↓reduceIte, ite_true, ite_false, Bool.and_self, Bool.and_true, Bool.true_and, Nat.reduceBEq, Bool.or_true, Bool.true_or, Bool.or_self]
          rw [if_neg (by simp), if_neg (by omega), if_pos hy]
    · rw [if_neg hv] at hV
      refine STEP.pure I (r := mI 101) ?_ ?_
      · unfold F_A_cases
        simp only [qL, ↓qM, t16 T, hS, hV, sa.2, gd_true, beq_self_eq_true, bd_s, if_true, if_false, ↓reduceIte, ite_true, ite_false, Bool.and_self, Bool.and_true, Bool.true_and, Nat.reduceBEq, Bool.or_true, Bool.true_or, Bool.or_self]
      · unfold F_M_cases
        simp only [qL, ↓qM, mK T, hMS, q_b0, M_valley, gd_true, beq_self_eq_true, bd_s, if_true, if_false, ↓reduceIte, ite_true, ite_false, Bool.and_self, Bool.and_true, Bool.true_and, Nat.reduceBEq, Bool.or_true, Bool.true_or, Bool.or_self]
        rw [if_neg (by simp), if_pos hv]
  · rw [if_neg hk] at hS
    rw [decide_eq_false hk] at hMS
    refine STEP.pure I (r := mI 101) ?_ ?_
    · unfold F_A_cases
      simp only [qL, ↓qM, t16 T, hS, hV, gd_true, beq_self_eq_true, bd_s, if_true, if_false, ↓reduceIte, ite_true, ite_false, Bool.and_self, Bool.and_true, Bool.true_and, Nat.reduceBEq, Bool.or_true, Bool.true_or, Bool.or_self]
    · unfold F_M_cases
      simp only [qL, ↓qM, mK T, hMS, q_b0, gd_true, beq_self_eq_true, bd_s, if_true, if_false, ↓reduceIte, ite_true, ite_false, Bool.and_self, Bool.and_true, Bool.true_and, Nat.reduceBEq, Bool.or_true, Bool.true_or, Bool.or_self]
