/-! PURE: turned, chance, parted, one, home -/
theorem turnOf {L : Nat} {xs : Nat → Int32} {S : Nat → Nat → Int32} {w : AW} (I : Inv L xs S w) {k v t : Nat} (ht : t < 4) (R0 : RD0 S w 88 k v) (R1 : RD1 S w 88 k v) : ∃ w', F_Rd_turn 88 (nI t) 17 w = some w' ∧ DF (rdA 88) w w' ∧ F_Dy_size w' 101 = some (nI (cnt (tuS S k v t 1) 1461)) ∧ F_Dy_size w' 103 = some (nI (cnt (tuS S k v t 0) 1461)) ∧ RD0 S w' 88 k v ∧ RD1 S w' 88 k v ∧ Inv L xs S w' := by
  have i2 := I
  obtain ⟨T, R, ⟨M1, M2, M3, M4, M5, M6⟩, A1, A2, A3, A4, A5, A6, A7⟩ := i2
  obtain ⟨w', e, f, h13, h15⟩ := A_turn T A7 A1 M1 in88 ht R0 R1
  have F : DF (rdA 88) w w' := f.mono (fun x hx => .inr (by omega))
  have I' := I.df F (rd_lt in88)
  refine ⟨w', e, F, ?_, ?_, fun n hn => ?_, fun n hn => ?_, I'⟩
  · rw [D_size (tD I'.1 (show 101 ∈ DTab by decide)) (I'.2.2.2.2.2.2.2.2.2 _ (show 101 ∈ DTab by decide))]
    refine congrArg (fun x => some (nI x)) (cnt_congr 1461 (fun n hn => ?_))
    rw [show gD w' 101 n = _ from h13 n hn]
    unfold tuS; simp
  · rw [D_size (tD I'.1 (show 103 ∈ DTab by decide)) (I'.2.2.2.2.2.2.2.2.2 _ (show 103 ∈ DTab by decide))]
    refine congrArg (fun x => some (nI x)) (cnt_congr 1461 (fun n hn => ?_))
    rw [show gD w' 103 n = _ from h15 n hn]
    unfold tuS; simp
  · rw [f.g (by omega), f.g (by omega), f.g (by omega)]; exact R0 n hn
  · rw [f.g (by omega), f.g (by omega)]; exact R1 n hn
theorem sizeOf {L : Nat} {xs : Nat → Int32} {S : Nat → Nat → Int32} {w : AW} (I : Inv L xs S w) {k v : Nat} (R2 : RD2 S w 88 k v) : F_Dy_size w 101 = some (nI (ct (ofW S k v 1) 0 1461)) ∧ F_Dy_size w 103 = some (nI (ct (ofW S k v 2) 0 1461)) := by
  constructor
  · rw [D_size (tD I.1 (show 101 ∈ DTab by decide)) (I.2.2.2.2.2.2.2.2.2 _ (show 101 ∈ DTab by decide))]
    unfold ct
    exact congrArg (fun x => some (nI x)) (cnt_congr 1461 (fun n hn => by rw [Nat.zero_add]; exact R2.of (what := 1) (by omega) hn))
  · rw [D_size (tD I.1 (show 103 ∈ DTab by decide)) (I.2.2.2.2.2.2.2.2.2 _ (show 103 ∈ DTab by decide))]
    unfold ct
    exact congrArg (fun x => some (nI x)) (cnt_congr 1461 (fun n hn => by rw [Nat.zero_add]; exact R2.of (what := 2) (by omega) hn))
/-- by how many of the turns below c it is not worse -/
def chS (S : Nat → Nat → Int32) (k v : Nat) : Nat → Nat
  | 0 => 0
  | c + 1 => chS S k v c + (if cnt (tuS S k v (c + 1) 0) 1461 * ct (ofW S k v 1) 0 1461 < ct (ofW S k v 2) 0 1461 * cnt (tuS S k v (c + 1) 1) 1461 then 0 else 1)
theorem chS_le (S : Nat → Nat → Int32) (k v : Nat) : ∀ c, chS S k v c ≤ c
  | 0 => Nat.le_refl _
  | c + 1 => by
    show chS S k v c + _ ≤ _
    have := chS_le S k v c
    split <;> omega
theorem mul1461 {a b : Nat} (ha : a ≤ 1461) (hb : b ≤ 1461) : a * b < 2147483648 := Nat.lt_of_le_of_lt (Nat.mul_le_mul ha hb) (by decide)
theorem A_chance_l {L : Nat} {xs : Nat → Int32} {S : Nat → Nat → Int32} {w : AW} (I : Inv L xs S w) {k v : Nat} (R0 : RD0 S w 88 k v) (R1 : RD1 S w 88 k v) : ∃ w', F_A_chance_73 FUEL 16 (nI (ct (ofW S k v 2) 0 1461)) (nI (ct (ofW S k v 1) 0 1461)) (nI 0) (nI 1) w = some (nI (chS S k v 3), w') ∧ DF (rdA 88) w w' := by
  have loop : ∀ j fu c (u : AW), c + j = 3 → j < fu → Inv L xs S u → RD0 S u 88 k v → RD1 S u 88 k v → ∃ w', F_A_chance_73 fu 16 (nI (ct (ofW S k v 2) 0 1461)) (nI (ct (ofW S k v 1) 0 1461)) (nI (chS S k v c)) (nI (c + 1)) u = some (nI (chS S k v 3), w') ∧ DF (rdA 88) u w' := by
    intro j
    induction j with
    | zero =>
      intro fu c u hj hf I R0 R1
      obtain ⟨fu, rfl⟩ : ∃ m, fu = m + 1 := ⟨fu - 1, by omega⟩
      obtain rfl : c = 3 := by omega
      refine ⟨u, ?_, DF.refl _ _⟩
      show F_A_chance_73_B (F_A_chance_73 fu) _ _ _ _ _ u = _
      unfold F_A_chance_73_B
      simp (disch := omega) only [qL, ↓qM, q_le]
      rw [if_pos (by omega)]
    | succ j ih =>
      intro fu c u hj hf I R0 R1
      obtain ⟨fu, rfl⟩ : ∃ m, fu = m + 1 := ⟨fu - 1, by omega⟩
      obtain ⟨u1, e1, f1, s1, s3, R0', R1', I1⟩ := turnOf I (show c + 1 < 4 by omega) R0 R1
      obtain ⟨w', r1, r2⟩ := ih fu (c + 1) u1 (by omega) (by omega) I1 R0' R1'
      refine ⟨w', ?_, f1.trans r2⟩
      have b1 := cnt_le (tuS S k v (c + 1) 1) 1461
      have b2 := cnt_le (tuS S k v (c + 1) 0) 1461
      have b3 := ct_le (ofW S k v 1) 0 1461
      have b4 := ct_le (ofW S k v 2) 0 1461
      show F_A_chance_73_B (F_A_chance_73 fu) _ _ _ _ _ u = _
      unfold F_A_chance_73_B
      simp (disch := omega) only [qL, ↓qM, q_le, t16 I.1, t88 I.1, e1, t16 I1.1, t88 I1.1, (tD I1.1 (show 101 ∈ DTab by decide)).1, (tD I1.1 (show 103 ∈ DTab by decide)).1, s1, s3, pk_mul, nI_add, q_lt (mul1461 b2 b3) (mul1461 b4 b1), gd_true, beq_self_eq_true, bd_s, if_true, if_false, ↓reduceIte, ite_true, ite_false, Bool.and_self, Bool.and_true, Bool.true_and, Nat.reduceBEq, Bool.or_true, Bool.true_or, Bool.or_self]
      rw [if_neg (by omega)]
      have e : chS S k v (c + 1) = chS S k v c + (if cnt (tuS S k v (c + 1) 0) 1461 * ct (ofW S k v 1) 0 1461 < ct (ofW S k v 2) 0 1461 * cnt (tuS S k v (c + 1) 1) 1461 then 0 else 1) := rfl
      rw [e] at r1
      by_cases hc : cnt (tuS S k v (c + 1) 0) 1461 * ct (ofW S k v 1) 0 1461 < ct (ofW S k v 2) 0 1461 * cnt (tuS S k v (c + 1) 1) 1461
      · rw [if_pos hc] at r1 ⊢; exact r1
      · rw [if_neg hc] at r1 ⊢; exact r1
  exact loop 3 FUEL 0 w (by omega) (by decide) I R0 R1
theorem M_chance_l {L : Nat} {xs : Nat → Int32} {w : AW} (T : Top L xs w) {S : Nat → Nat → Int32} (R : RA S w) (If : IMf S) (Is : IMs S) {k v : Nat} (hk : k < 8) (hv : v < 3) (Ik : IMk S k) : ∃ w', F_M_chance_49 FUEL 271 (nI k) (nI v) (nI (ct (ofW S k v 1) 0 1461)) (nI (ct (ofW S k v 2) 0 1461)) (nI 0) (nI 1) w = some (nI (chS S k v 3), w') ∧ MQs S w w' := by
  have b3 := ct_le (ofW S k v 1) 0 1461
  have b4 := ct_le (ofW S k v 2) 0 1461
  have m21 : ct (ofW S k v 2) 0 1461 ≤ ct (ofW S k v 1) 0 1461 := cnt_mono (fun i hi => by
    have hi' : ofW S k v 2 (0 + i) = true := hi
    show ofW S k v 1 (0 + i) = true
    unfold ofW at *
    simp at hi' ⊢
    exact ⟨hi'.1, hi'.2.1⟩) _
  have loop : ∀ j fu c (u : AW), c + j = 3 → j < fu → MQs S w u → ∃ w', F_M_chance_49 fu 271 (nI k) (nI v) (nI (ct (ofW S k v 1) 0 1461)) (nI (ct (ofW S k v 2) 0 1461)) (nI (chS S k v c)) (nI (c + 1)) u = some (nI (chS S k v 3), w') ∧ MQs S w w' := by
    intro j
    induction j with
    | zero =>
      intro fu c u hj hf hu
      obtain ⟨fu, rfl⟩ : ∃ m, fu = m + 1 := ⟨fu - 1, by omega⟩
      obtain rfl : c = 3 := by omega
      refine ⟨u, ?_, hu⟩
      show F_M_chance_49_B (F_M_chance_49 fu) _ _ _ _ _ _ _ u = _
      unfold F_M_chance_49_B
      simp (disch := omega) only [qL, ↓qM, q_le]
      rw [if_pos (by omega)]
    | succ j ih =>
      intro fu c u hj hf hu
      obtain ⟨fu, rfl⟩ : ∃ m, fu = m + 1 := ⟨fu - 1, by omega⟩
      have T1 := T.sh hu.1.sh
      obtain ⟨u1, e1, q1⟩ := M_turnedCount T1 hu.2 If Is hk hv (show c + 1 < 4 by omega) (show 1 < 2 by omega) Ik
      have T2 := T1.sh q1.1.sh
      obtain ⟨u2, e2, q2⟩ := M_turnedCount T2 q1.2 If Is hk hv (show c + 1 < 4 by omega) (show 0 < 2 by omega) Ik
      obtain ⟨w', r1, r2⟩ := ih fu (c + 1) u2 (by omega) (by omega) (hu.trans (q1.trans q2))
      refine ⟨w', ?_, r2⟩
      have b1 := cnt_le (tuS S k v (c + 1) 1) 1461
      have b2 := cnt_le (tuS S k v (c + 1) 0) 1461
      show F_M_chance_49_B (F_M_chance_49 fu) _ _ _ _ _ _ _ u = _
      unfold F_M_chance_49_B F_M_chance_100
      simp (disch := omega) only [qL, ↓qM, q_le, mK T1, mK T2, e1, e2, pk_mul, nI_add, q_eq, q_lt (mul1461 b2 b3) (mul1461 b4 b1), gd_true, beq_self_eq_true, bd_s, if_true, if_false, ↓reduceIte, ite_true, ite_false, Bool.and_self, Bool.and_true, Bool.true_and, Nat.reduceBEq, Bool.or_true, Bool.true_or, Bool.or_self]
      rw [if_neg (by omega)]
      have e : chS S k v (c + 1) = chS S k v c + (if cnt (tuS S k v (c + 1) 0) 1461 * ct (ofW S k v 1) 0 1461 < ct (ofW S k v 2) 0 1461 * cnt (tuS S k v (c + 1) 1) 1461 then 0 else 1) := rfl
      rw [e] at r1
      by_cases h0 : ct (ofW S k v 1) 0 1461 = 0
      · rw [if_pos h0]
        rw [if_neg (by rw [show ct (ofW S k v 2) 0 1461 = 0 by omega]; simp)] at r1
        exact r1
      · rw [if_neg h0]
        by_cases h1 : cnt (tuS S k v (c + 1) 1) 1461 = 0
        · rw [if_pos h1]
          rw [if_neg (by rw [h1]; simp)] at r1
          exact r1
        · rw [if_neg h1]
          by_cases hc : cnt (tuS S k v (c + 1) 0) 1461 * ct (ofW S k v 1) 0 1461 < ct (ofW S k v 2) 0 1461 * cnt (tuS S k v (c + 1) 1) 1461
          · rw [if_pos hc] at r1 ⊢; exact r1
          · rw [if_neg hc] at r1 ⊢; exact r1
  exact loop 3 FUEL 0 w (by omega) (by decide) (MQs.refl R)
theorem S_chance {L : Nat} {xs : Nat → Int32} {S : Nat → Nat → Int32} {w : AW} (I : Inv L xs S w) (x1 x2 : Int32) : STEP L xs w (F_A_chance 16 x1 x2) (F_M_chance 271 x1 x2) := by
  have T := I.1
  have Is := I.2.2.1.2.2.2.2.1
  have hS := A_sayingOf T Is I.2.2.2.2.2.2.1 x1
  have hV := A_diaryOf T x2
  have hMS := M_isSaying T I.2.1 Is x1
  by_cases hk : 0 ≤ x1.toInt ∧ x1.toInt < nS S
  · rw [if_pos hk] at hS
    rw [decide_eq_true hk] at hMS
    have hkn : nat x1 < nS S := by unfold nat; omega
    have hx1 : x1 = nI (nat x1) := by unfold nat; exact q_ofI hk.1
    have sa := I.say hkn
    have ik := I.k8 hkn
    by_cases hv : 0 ≤ x2.toInt ∧ x2.toInt ≤ 2
    · rw [if_pos hv] at hV
      obtain ⟨v, rfl, hv3⟩ := q_of hv.1 (n := 2) hv.2 (by omega)
      rw [nat_nI (by omega)] at hV
      have hvi : (nI v).toInt = (v : Int) := nI_toInt (by omega)
      obtain ⟨w1, e1, f1, r0, r1, r2, I1⟩ := rdOf I hkn (show v < 3 by omega) in88
      have T1 := I1.1
      have W1 := I1.2.2.2.2.2.2.2.2.2
      have hMS1 := M_isSaying T1 I1.2.1 Is x1
      rw [decide_eq_true hk] at hMS1
      obtain ⟨s1, s2⟩ := sizeOf I1 r2
      obtain ⟨w2, e2, f2⟩ := A_chance_l I1 r0 r1
      have F2 : DF (rdA 88) w w2 := f1.trans f2
      have I2 := I.df F2 (rd_lt in88)
      obtain ⟨u1, n1, q1⟩ := M_countOf I2.1 I2.2.1 I2.2.2.1.1 I2.2.2.1.2.1 ik.1 (show v < 3 by omega) (show 0 ≤ 1461 by omega) (Nat.le_refl _) (show 1 < 4 by omega) ik.2
      have U1 := I2.1.sh q1.1.sh
      obtain ⟨u2, n2, q2⟩ := M_countOf U1 q1.2 I2.2.2.1.1 I2.2.2.1.2.1 ik.1 (show v < 3 by omega) (show 0 ≤ 1461 by omega) (Nat.le_refl _) (show 2 < 4 by omega) ik.2
      have U2 := U1.sh q2.1.sh
      obtain ⟨w3, m1, m2⟩ := M_chance_l U2 q2.2 I2.2.2.1.1 I2.2.2.1.2.1 ik.1 (show v < 3 by omega) ik.2
      rw [← hx1] at m1 n1 n2
      have hMS2 := M_isSaying I2.1 I2.2.1 Is x1
      rw [decide_eq_true hk] at hMS2
      refine STEP.query I (r := nI (chS S (nat x1) v 3)) ?_ F2 (rd_lt in88) ?_ (q1.trans (q2.trans m2))
      · unfold F_A_chance
        simp (disch := omega) only [qL, ↓qM, t16 T, t88 T, hS, hV, sa.2, e1, t16 T1, t88 T1, (tD T1 (show 101 ∈ DTab by decide)).1, (tD T1 (show 103 ∈ DTab by decide)).1, s1, s2, gd_true, beq_self_eq_true, bd_s, if_true, if_false, ↓reduceIte, ite_true, ite_false, Bool.and_self, Bool.and_true, Bool.true_and, Nat.reduceBEq, Bool.or_true, Bool.true_or, Bool.or_self]
        rw [if_neg (by omega), e2]
      · unfold F_M_chance
        simp (disch := omega) only [qL, ↓qM, mK I2.1, hMS2, q_b0, M_valley, hvi, n1, mK U1, n2, gd_true, beq_self_eq_true, bd_s, if_true, if_false, ↓reduceIte, ite_true, ite_false, Bool.and_self, Bool.and_true, Bool.true_and, Nat.reduceBEq, Bool.or_true, Bool.true_or, Bool.or_self]
        rw [if_neg (by simp), if_neg (by omega), m1]
    · rw [if_neg hv] at hV
      refine STEP.pure I (r := mI 101) ?_ ?_
      · unfold F_A_chance
        simp only [qL, ↓qM, t16 T, hS, hV, sa.2, gd_true, beq_self_eq_true, bd_s, if_true, if_false, ↓reduceIte, ite_true, ite_false, Bool.and_self, Bool.and_true, Bool.true_and, Nat.reduceBEq, Bool.or_true, Bool.true_or, Bool.or_self]
      · unfold F_M_chance
        simp only [qL, ↓qM, mK T, hMS, q_b0, M_valley, gd_true, beq_self_eq_true, bd_s, if_true, if_false, ↓reduceIte, ite_true, ite_false, Bool.and_self, Bool.and_true, Bool.true_and, Nat.reduceBEq, Bool.or_true, Bool.true_or, Bool.or_self]
        rw [if_neg (by simp), if_pos hv]
  · rw [if_neg hk] at hS
    rw [decide_eq_false hk] at hMS
    refine STEP.pure I (r := mI 101) ?_ ?_
    · unfold F_A_chance
      simp only [qL, ↓qM, t16 T, hS, hV, gd_true, beq_self_eq_true, bd_s, if_true, if_false, ↓reduceIte, ite_true, ite_false, Bool.and_self, Bool.and_true, Bool.true_and, Nat.reduceBEq, Bool.or_true, Bool.true_or, Bool.or_self]
    · unfold F_M_chance
      simp only [qL, ↓qM, mK T, hMS, q_b0, gd_true, beq_self_eq_true, bd_s, if_true, if_false, ↓reduceIte, ite_true, ite_false, Bool.and_self, Bool.and_true, Bool.true_and, Nat.reduceBEq, Bool.or_true, Bool.true_or, Bool.or_self]
theorem S_turned {L : Nat} {xs : Nat → Int32} {S : Nat → Nat → Int32} {w : AW} (I : Inv L xs S w) (x1 x2 x3 x4 : Int32) : STEP L xs w (F_A_turned 16 x1 x2 x3 x4) (F_M_turned 271 x1 x2 x3 x4) := by
  have T := I.1
  have Is := I.2.2.1.2.2.2.2.1
  have hS := A_sayingOf T Is I.2.2.2.2.2.2.1 x1
  have hV := A_diaryOf T x2
  have hMS := M_isSaying T I.2.1 Is x1
  by_cases hk : 0 ≤ x1.toInt ∧ x1.toInt < nS S
  · rw [if_pos hk] at hS
    rw [decide_eq_true hk] at hMS
    have hkn : nat x1 < nS S := by unfold nat; omega
    have hx1 : x1 = nI (nat x1) := by unfold nat; exact q_ofI hk.1
    have sa := I.say hkn
    have ik := I.k8 hkn
    by_cases hv : 0 ≤ x2.toInt ∧ x2.toInt ≤ 2
    · rw [if_pos hv] at hV
      obtain ⟨v, rfl, hv3⟩ := q_of hv.1 (n := 2) hv.2 (by omega)
      rw [nat_nI (by omega)] at hV
      have hvi : (nI v).toInt = (v : Int) := nI_toInt (by omega)
      by_cases hm : 1 ≤ x3.toInt ∧ x3.toInt ≤ 3
      · obtain ⟨t, rfl, hm3⟩ := q_of (x := x3) (by omega) (n := 3) hm.2 (by omega)
        have hmi : (nI t).toInt = (t : Int) := nI_toInt (by omega)
        rw [hmi] at hm
        by_cases hd : 0 ≤ x4.toInt ∧ x4.toInt ≤ 1
        · obtain ⟨d, rfl, hd3⟩ := q_of hd.1 (n := 1) hd.2 (by omega)
          have hdi : (nI d).toInt = (d : Int) := nI_toInt (by omega)
          obtain ⟨w1, e1, f1, r0, r1, r2, I1⟩ := rdOf I hkn (show v < 3 by omega) in88
          have T1 := I1.1
          have W1 := I1.2.2.2.2.2.2.2.2.2
          have hMS1 := M_isSaying T1 I1.2.1 Is x1
          rw [decide_eq_true hk] at hMS1
          obtain ⟨w2, e2, f2, s1, s3, R0', R1', I2⟩ := turnOf I1 (show t < 4 by omega) r0 r1
          have F2 : DF (rdA 88) w w2 := f1.trans f2
          obtain ⟨w3, m1, m2⟩ := M_turnedCount I2.1 I2.2.1 I2.2.2.1.1 I2.2.2.1.2.1 ik.1 (show v < 3 by omega) (show t < 4 by omega) (show d < 2 by omega) ik.2
          rw [← hx1] at m1
          have hMS2 := M_isSaying I2.1 I2.2.1 Is x1
          rw [decide_eq_true hk] at hMS2
          have dd : d = 0 ∨ d = 1 := by omega
          refine STEP.query I (r := nI (cnt (tuS S (nat x1) v t d) 1461)) ?_ F2 (rd_lt in88) ?_ m2
          · unfold F_A_turned
            simp (disch := omega) only [qL, ↓qM, t16 T, t88 T, hS, hV, sa.2, A_wi, q_int, e1, t16 T1, t88 T1, e2, q_eq, t16 I2.1, t88 I2.1, (tD I2.1 (show 101 ∈ DTab by decide)).1, (tD I2.1 (show 103 ∈ DTab by decide)).1, s1, s3, gd_true, beq_self_eq_true, bd_s, if_true, if_false, ↓reduceIte, ite_true, ite_false, Bool.and_self, Bool.and_true, Bool.true_and, Nat.reduceBEq, Bool.or_true, Bool.true_or, Bool.or_self]
            rw [if_neg (by omega), if_neg (by omega), if_neg (by omega)]
            rcases dd with h | h <;> subst h
            · rw [if_pos rfl]
            · rw [if_neg (by omega)]
          · unfold F_M_turned
            simp (disch := omega) only [qL, ↓qM, mK I2.1, hMS2, q_b0, M_valley, M_wi, qLJ, hvi, hmi, hdi, gd_true, beq_self_eq_true, bd_s, if_true, if_false, ↓reduceIte, ite_true, ite_false, Bool.and_self, Bool.and_true, Bool.true_and, Nat.reduceBEq, Bool.or_true, Bool.true_or, Bool.or_self]
            rw [if_neg (by simp), if_neg (by omega), if_neg (by omega), if_neg (by omega), m1, bd_s]
        · refine STEP.pure I (r := mI 102) ?_ ?_
          · unfold F_A_turned
            simp (disch := omega) only [qL, ↓qM, t16 T, hS, hV, sa.2, A_wi, q_int, gd_true, beq_self_eq_true, bd_s, if_true, if_false, ↓reduceIte, ite_true, ite_false, Bool.and_self, Bool.and_true, Bool.true_and, Nat.reduceBEq, Bool.or_true, Bool.true_or, Bool.or_self]
            rw [if_neg (by omega), if_neg (by omega), if_pos (by omega)]
          · unfold F_M_turned
            simp (disch := omega) only [qL, ↓qM, mK T, hMS, q_b0, M_valley, M_wi, qLJ, hvi, hmi, gd_true, beq_self_eq_true, bd_s, if_true, if_false, ↓reduceIte, ite_true, ite_false, Bool.and_self, Bool.and_true, Bool.true_and, Nat.reduceBEq, Bool.or_true, Bool.true_or, Bool.or_self]
            rw [if_neg (by simp), if_neg (by omega), if_neg (by omega), if_pos (by omega)]
      · refine STEP.pure I (r := mI 102) ?_ ?_
        · unfold F_A_turned
          simp (disch := omega) only [qL, ↓qM, t16 T, hS, hV, sa.2, A_wi, q_int, gd_true, beq_self_eq_true, bd_s, if_true, if_false, ↓reduceIte, ite_true, ite_false, Bool.and_self, Bool.and_true, Bool.true_and, Nat.reduceBEq, Bool.or_true, Bool.true_or, Bool.or_self]
          rw [if_neg (by omega), if_pos (by omega)]
        · unfold F_M_turned
          simp (disch := omega) only [qL, ↓qM, mK T, hMS, q_b0, M_valley, M_wi, qLJ, hvi, gd_true, beq_self_eq_true, bd_s, if_true, if_false, ↓reduceIte, ite_true, ite_false, Bool.and_self, Bool.and_true, Bool.true_and, Nat.reduceBEq, Bool.or_true, Bool.true_or, Bool.or_self]
          rw [if_neg (by simp), if_neg (by omega), if_pos hm]
    · rw [if_neg hv] at hV
      refine STEP.pure I (r := mI 101) ?_ ?_
      · unfold F_A_turned
        simp only [qL, ↓qM, t16 T, hS, hV, sa.2, gd_true, beq_self_eq_true, bd_s, if_true, if_false, ↓reduceIte, ite_true, ite_false, Bool.and_self, Bool.and_true, Bool.true_and, Nat.reduceBEq, Bool.or_true, Bool.true_or, Bool.or_self]
      · unfold F_M_turned
        simp only [qL, ↓qM, mK T, hMS, q_b0, M_valley, gd_true, beq_self_eq_true, bd_s, if_true, if_false, ↓reduceIte, ite_true, ite_false, Bool.and_self, Bool.and_true, Bool.true_and, Nat.reduceBEq, Bool.or_true, Bool.true_or, Bool.or_self]
        rw [if_neg (by simp), if_pos hv]
  · rw [if_neg hk] at hS
    rw [decide_eq_false hk] at hMS
    refine STEP.pure I (r := mI 101) ?_ ?_
    · unfold F_A_turned
      simp only [qL, ↓qM, t16 T, hS, hV, gd_true, beq_self_eq_true, bd_s, if_true, if_false, ↓reduceIte, ite_true, ite_false, Bool.and_self, Bool.and_true, Bool.true_and, Nat.reduceBEq, Bool.or_true, Bool.true_or, Bool.or_self]
    · unfold F_M_turned
      simp only [qL, ↓qM, mK T, hMS, q_b0, gd_true, beq_self_eq_true, bd_s, if_true, if_false, ↓reduceIte, ite_true, ite_false, Bool.and_self, Bool.and_true, Bool.true_and, Nat.reduceBEq, Bool.or_true, Bool.true_or, Bool.or_self]
