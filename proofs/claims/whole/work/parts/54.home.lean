/-! PURE: home -/
def hoS (S : Nat → Nat → Int32) (k : Nat) : Nat → Int32 × Int32
  | 0 => (mI 1, nI 0)
  | v + 1 => if ct (ofW S k v 1) 0 1461 = 0 then hoS S k v else if (hoS S k v).1 = mI 1 then (nI v, woI S k v) else if woI S k v ≤ (hoS S k v).2 then hoS S k v else (nI v, woI S k v)
theorem S_home {L : Nat} {xs : Nat → Int32} {S : Nat → Nat → Int32} {w : AW} (I : Inv L xs S w) (x1 : Int32) : STEP L xs w (F_A_home 16 x1) (F_M_home 271 x1) := by
  have T := I.1
  have Is := I.2.2.1.2.2.2.2.1
  have hS := A_sayingOf T Is I.2.2.2.2.2.2.1 x1
  have hMS := M_isSaying T I.2.1 Is x1
  by_cases hk : 0 ≤ x1.toInt ∧ x1.toInt < nS S
  · rw [if_pos hk] at hS
    rw [decide_eq_true hk] at hMS
    have hkn : nat x1 < nS S := by unfold nat; omega
    have hx1 : x1 = nI (nat x1) := by unfold nat; exact q_ofI hk.1
    have sa := I.say hkn
    have ik := I.k8 hkn
    have hAl : ∀ j fu v (u : AW), v + j = 3 → j < fu → Inv L xs S u → (∀ a i, wr u a i = wr w a i) → ∃ w', F_A_home_21 fu 16 (wr w 37 (nat x1)) (hoS S (nat x1) v).1 (hoS S (nat x1) v).2 (nI v) u = some ((hoS S (nat x1) 3).1, w') ∧ DF (fun x => x < 200) u w' := by
      intro j
      induction j with
      | zero =>
        intro fu v u hj hf Iu hr
        obtain ⟨fu, rfl⟩ : ∃ m, fu = m + 1 := ⟨fu - 1, by omega⟩
        obtain rfl : v = 3 := by omega
        refine ⟨u, ?_, DF.refl _ _⟩
        show F_A_home_21_B (F_A_home_21 fu) _ _ _ _ _ u = _
        unfold F_A_home_21_B
        simp (disch := omega) only [qL, ↓qM, q_le]
        rw [if_pos (by omega)]
      | succ j ih =>
        intro fu v u hj hf Iu hr
        obtain ⟨fu, rfl⟩ : ∃ m, fu = m + 1 := ⟨fu - 1, by omega⟩
        have hv : v < 3 := by omega
        obtain ⟨u1, e1, f1, r0, r1, r2, I1⟩ := rdOf Iu hkn hv in88
        rw [hr] at e1
        have T1 := I1.1
        obtain ⟨s1, s2⟩ := sizeOf I1 r2
        have b1 := ct_le (ofW S (nat x1) v 1) 0 1461
        obtain ⟨u2, e2, f2⟩ := A_woR T1 I1.2.2.2.2.2.2.2.2.2 I1.2.2.2.1 I1.2.2.1.1 r2
        have F1 : DF (fun x => x < 200) u u1 := f1.mono (rd_lt in88)
        have F2 : DF (fun x => x < 200) u u2 := F1.trans (f2.mono (fun x hx => by omega))
        have I2 := Iu.df F2 (fun a h => h)
        have ih1 := ih fu (v + 1) u1 (by omega) (by omega) I1 (fun a i => (f1.2.2.2.2.1 a i).trans (hr a i))
        have ih2 := ih fu (v + 1) u2 (by omega) (by omega) I2 (fun a i => (F2.2.2.2.2.1 a i).trans (hr a i))
        have e : hoS S (nat x1) (v + 1) = if ct (ofW S (nat x1) v 1) 0 1461 = 0 then hoS S (nat x1) v else if (hoS S (nat x1) v).1 = mI 1 then (nI v, woI S (nat x1) v) else if woI S (nat x1) v ≤ (hoS S (nat x1) v).2 then hoS S (nat x1) v else (nI v, woI S (nat x1) v) := rfl
        rw [e] at ih1 ih2
        show ∃ w', F_A_home_21_B (F_A_home_21 fu) _ _ _ _ _ u = _ ∧ _
        unfold F_A_home_21_B F_A_home_84
        simp (disch := omega) only [qL, ↓qM, q_le, t16 Iu.1, tDi Iu.1, tV Iu.1 hv, q_inb, q_nat, t88 Iu.1, e1, t16 T1, t88 T1, (tD T1 (show 101 ∈ DTab by decide)).1, s1, q_eq, e2, nI_add, gd_true, beq_self_eq_true, bd_s, if_true, if_false, ↓reduceIte, ite_true, ite_false, Bool.and_self, Bool.and_true, Bool.true_and, Nat.reduceBEq, Bool.or_true, Bool.true_or, Bool.or_self]
        rw [if_neg (by omega)]
        by_cases h0 : ct (ofW S (nat x1) v 1) 0 1461 = 0
        · rw [if_pos h0] at ih1 ⊢
          obtain ⟨w', r1, r2⟩ := ih1
          exact ⟨w', r1, F1.trans r2⟩
        · rw [if_neg h0] at ih2 ⊢
          by_cases h1 : (hoS S (nat x1) v).1 = mI 1
          · rw [if_pos h1] at ih2 ⊢
            obtain ⟨w', r1, r2⟩ := ih2
            exact ⟨w', r1, F2.trans r2⟩
          · rw [if_neg h1] at ih2 ⊢
            by_cases h2 : woI S (nat x1) v ≤ (hoS S (nat x1) v).2
            · rw [if_pos h2] at ih2 ⊢
              obtain ⟨w', r1, r2⟩ := ih2
              exact ⟨w', r1, F2.trans r2⟩
            · rw [if_neg h2] at ih2 ⊢
              obtain ⟨w', r1, r2⟩ := ih2
              exact ⟨w', r1, F2.trans r2⟩
    have hMl : ∀ (w : AW) (T : Top L xs w) (R : RA S w), ∀ j fu v (u : AW), v + j = 3 → j < fu → MQs S w u → ∃ w', F_M_home_18 fu 271 (nI (nat x1)) (hoS S (nat x1) v).1 (hoS S (nat x1) v).2 (nI v) u = some ((hoS S (nat x1) 3).1, w') ∧ MQs S w w' := by
      intro w T R j
      induction j with
      | zero =>
        intro fu v u hj hf hu
        obtain ⟨fu, rfl⟩ : ∃ m, fu = m + 1 := ⟨fu - 1, by omega⟩
        obtain rfl : v = 3 := by omega
        refine ⟨u, ?_, hu⟩
        show F_M_home_18_B (F_M_home_18 fu) _ _ _ _ _ u = _
        unfold F_M_home_18_B
        simp (disch := omega) only [qL, ↓qM, q_le]
        rw [if_pos (by omega)]
      | succ j ih =>
        intro fu v u hj hf hu
        obtain ⟨fu, rfl⟩ : ∃ m, fu = m + 1 := ⟨fu - 1, by omega⟩
        have hv : v < 3 := by omega
        have T1 := T.sh hu.1.sh
        obtain ⟨u1, e1, q1⟩ := M_worthOf T1 hu.2 I.2.2.1.1 I.2.2.1.2.1 ik.1 hv ik.2
        have T2 := T1.sh q1.1.sh
        obtain ⟨u2, e2, q2⟩ := M_countOf T2 q1.2 I.2.2.1.1 I.2.2.1.2.1 ik.1 hv (show 0 ≤ 1461 by omega) (Nat.le_refl _) (show 1 < 4 by omega) ik.2
        have ih2 := ih fu (v + 1) u2 (by omega) (by omega) (hu.trans (q1.trans q2))
        have b1 := ct_le (ofW S (nat x1) v 1) 0 1461
        have e : hoS S (nat x1) (v + 1) = if ct (ofW S (nat x1) v 1) 0 1461 = 0 then hoS S (nat x1) v else if (hoS S (nat x1) v).1 = mI 1 then (nI v, woI S (nat x1) v) else if woI S (nat x1) v ≤ (hoS S (nat x1) v).2 then hoS S (nat x1) v else (nI v, woI S (nat x1) v) := rfl
        rw [e] at ih2
        show ∃ w', F_M_home_18_B (F_M_home_18 fu) _ _ _ _ _ u = _ ∧ _
        unfold F_M_home_18_B F_M_home_59
        simp (disch := omega) only [qL, ↓qM, q_le, mK T1, mK T2, e1, e2, nI_add, gd_true, beq_self_eq_true, bd_s, if_true, if_false, ↓reduceIte, ite_true, ite_false, Bool.and_self, Bool.and_true, Bool.true_and, Nat.reduceBEq, Bool.or_true, Bool.true_or, Bool.or_self]
        rw [if_neg (by omega)]
        by_cases h0 : ct (ofW S (nat x1) v 1) 0 1461 = 0
        · rw [if_pos (by omega)]; rw [if_pos h0] at ih2; exact ih2
        · rw [if_neg (by omega)]; rw [if_neg h0] at ih2
          by_cases h1 : (hoS S (nat x1) v).1 = mI 1
          · rw [if_pos h1] at ih2 ⊢; exact ih2
          · rw [if_neg h1] at ih2 ⊢
            by_cases h2 : woI S (nat x1) v ≤ (hoS S (nat x1) v).2
            · rw [if_pos h2] at ih2 ⊢; exact ih2
            · rw [if_neg h2] at ih2 ⊢; exact ih2
    obtain ⟨w2, e2, F2⟩ := hAl 3 FUEL 0 w (by omega) (by decide) I (fun _ _ => rfl)
    have I2 := I.df F2 (fun a h => h)
    obtain ⟨w3, m1, m2⟩ := hMl w2 I2.1 I2.2.1 3 FUEL 0 w2 (by omega) (by decide) (MQs.refl I2.2.1)
    rw [← hx1] at m1
    have hMS2 := M_isSaying I2.1 I2.2.1 Is x1
    rw [decide_eq_true hk] at hMS2
    refine STEP.query I (r := (hoS S (nat x1) 3).1) ?_ F2 (fun a h => h) ?_ m2
    · unfold F_A_home
      simp (disch := omega) only [qL, ↓qM, t16 T, hS, sa.2, gd_true, beq_self_eq_true, bd_s, if_true, if_false, ↓reduceIte, ite_true, ite_false, Bool.and_self, Bool.and_true, Bool.true_and, Nat.reduceBEq, Bool.or_true, Bool.true_or, Bool.or_self]
      exact e2
    · unfold F_M_home
      simp (disch := omega) only [qL, ↓qM, mK I2.1, hMS2, q_b0, gd_true, beq_self_eq_true, bd_s, if_true, if_false, ↓reduceIte, ite_true, ite_false, Bool.and_self, Bool.and_true, Bool.true_and, Nat.reduceBEq, Bool.or_true, Bool.true_or, Bool.or_self]
      rw [if_neg (by simp)]
      exact m1
  · rw [if_neg hk] at hS
    rw [decide_eq_false hk] at hMS
    refine STEP.pure I (r := mI 101) ?_ ?_
    · unfold F_A_home
      simp only [qL, ↓qM, t16 T, hS, gd_true, beq_self_eq_true, bd_s, if_true, if_false, ↓reduceIte, ite_true, ite_false, Bool.and_self, Bool.and_true, Bool.true_and, Nat.reduceBEq, Bool.or_true, Bool.true_or, Bool.or_self]
    · unfold F_M_home
      simp only [qL, ↓qM, mK T, hMS, q_b0, gd_true, beq_self_eq_true, bd_s, if_true, if_false, ↓reduceIte, ite_true, ite_false, Bool.and_self, Bool.and_true, Bool.true_and, Nat.reduceBEq, Bool.or_true, Bool.true_or, Bool.or_self]
