/-! PURE: calls that ask of one saying and a valley -/
theorem Inv.say {L : Nat} {xs : Nat → Int32} {S : Nat → Nat → Int32} {w : AW} (I : Inv L xs S w) {k : Nat} (hk : k < nS S) : wr w 37 k ∈ STab ∧ wr w 37 k ≠ 0 := by
  have h8 := I.2.2.1.2.2.2.2.1.2.1
  have h := I.1.p.1 k (by omega)
  have r := STab_rng _ h
  exact ⟨h, by omega⟩
theorem Inv.k8 {L : Nat} {xs : Nat → Int32} {S : Nat → Nat → Int32} {w : AW} (I : Inv L xs S w) {k : Nat} (hk : k < nS S) : k < 8 ∧ IMk S k := ⟨by have h8 := I.2.2.1.2.2.2.2.1.2.1; omega, I.2.2.1.2.2.2.2.1.2.2 k hk⟩
theorem rd_lt {r : Nat} (hr : r ∈ RTabs) : ∀ a, rdA r a → a < 200 := by
  have := RT_big r hr
  intro a h
  unfold rdA scA at h
  omega
theorem rdOf {L : Nat} {xs : Nat → Int32} {S : Nat → Nat → Int32} {w : AW} (I : Inv L xs S w) {k v r : Nat} (hk : k < nS S) (hv : v < 3) (hr : r ∈ RTabs) : ∃ w', F_Rd_read r (wr w 37 k) (179 + 2 * v) 17 38 w = some w' ∧ DF (rdA r) w w' ∧ RD0 S w' r k v ∧ RD1 S w' r k v ∧ RD2 S w' r k v ∧ Inv L xs S w' := by
  have ik := I.k8 hk
  have i2 := I
  obtain ⟨T, R, ⟨M1, M2, M3, M4, M5, M6⟩, A1, A2, A3, A4, A5, A6, A7⟩ := i2
  obtain ⟨w', e, f, r0, r1, r2⟩ := A_read T A7 A1 A2 M1 M2 M3 ik.2 (A4.2 k hk) (I.say hk).1 hv hr
  exact ⟨w', e, f, r0, r1, r2, I.df f (rd_lt hr)⟩
theorem in88 : 88 ∈ RTabs := by decide
theorem in111 : 111 ∈ RTabs := by decide
/-- the reference refuses -/
theorem MQ0 {L : Nat} {xs : Nat → Int32} {S : Nat → Nat → Int32} {w : AW} (I : Inv L xs S w) {FA FM : AW → Option (Int32 × AW)} {r : Int32} (h1 : FA w = some (r, w)) (h2 : FM w = some (r, w)) : STEP L xs w FA FM := STEP.pure I h1 h2
theorem has_b {w : AW} {a n : Nat} (ta : TD w a) (hn : n < 1461) : F_Dy_has w a (nI n) = some (nI (gD w a n).toNat) := by
  rw [D_has ta hn]
  cases gD w a n <;> rfl
theorem S_truth {L : Nat} {xs : Nat → Int32} {S : Nat → Nat → Int32} {w : AW} (I : Inv L xs S w) (x1 x2 x3 x4 : Int32) : STEP L xs w (F_A_truth 16 x1 x2 x3 x4) (F_M_truth 271 x1 x2 x3 x4) := by
  have T := I.1
  have Is := I.2.2.1.2.2.2.2.1
  have hS := A_sayingOf T Is I.2.2.2.2.2.2.1 x1
  have hV := A_diaryOf T x2
  have hMS := M_isSaying T I.2.1 Is x1
  by_cases hk : 0 ≤ x1.toInt ∧ x1.toInt < nS S
  · rw [if_pos hk] at hS
    rw [decide_eq_true hk] at hMS
    have hkn : nat x1 < nS S := by unfold nat; omega
    have sa := I.say hkn
    by_cases hv : 0 ≤ x2.toInt ∧ x2.toInt ≤ 2
    · rw [if_pos hv] at hV
      obtain ⟨v, rfl, hv3⟩ := q_of hv.1 (n := 2) hv.2 (by omega)
      rw [nat_nI (by omega)] at hV
      by_cases hn : 0 ≤ x3.toInt ∧ x3.toInt ≤ 1460
      · obtain ⟨n, rfl, hn3⟩ := q_of hn.1 (n := 1460) hn.2 (by omega)
        by_cases hd : 0 ≤ x4.toInt ∧ x4.toInt ≤ 2
        · obtain ⟨d, rfl, hd3⟩ := q_of hd.1 (n := 2) hd.2 (by omega)
          obtain ⟨w1, e1, f1, r0, r1, r2, I1⟩ := rdOf I hkn (show v < 3 by omega) in88
          have ik := I.k8 hkn
          have T1 := I1.1
          have hx1 : x1 = nI (nat x1) := by unfold nat; exact q_ofI hk.1
          obtain ⟨z1, z3, z5⟩ := r0 n (by omega)
          obtain ⟨z7, z9⟩ := r1 n (by omega)
          have g1 := has_b (tD T1 (show 89 ∈ DTab by decide)) (show n < 1461 by omega)
          have g3 := has_b (tD T1 (show 91 ∈ DTab by decide)) (show n < 1461 by omega)
          have g5 := has_b (tD T1 (show 93 ∈ DTab by decide)) (show n < 1461 by omega)
          have g7 := has_b (tD T1 (show 95 ∈ DTab by decide)) (show n < 1461 by omega)
          have g9 := has_b (tD T1 (show 97 ∈ DTab by decide)) (show n < 1461 by omega)
          rw [show gD w1 89 n = seS S (nat x1) n from z1] at g1
          rw [show gD w1 91 n = _ from z3] at g3
          rw [show gD w1 93 n = _ from z5] at g5
          rw [show gD w1 95 n = _ from z7] at g7
          rw [show gD w1 97 n = _ from z9] at g9
          have dd : d = 0 ∨ d = 1 ∨ d = 2 := by omega
          have eA : F_A_truth 16 x1 (nI v) (nI n) (nI d) w = some (if d = 0 then fI S (nat x1) v n else if d = 1 then sI S (nat x1) v n else nI (seS S (nat x1) n).toNat, w1) := by
            unfold F_A_truth
            simp (disch := omega) only [qL, ↓qM, t16 T, t88 T, hS, hV, sa.2, A_day, A_wi, q_int, e1, t16 T1, t88 T1, gd_true, beq_self_eq_true, bd_s, if_true, if_false, ↓reduceIte, ite_true, ite_false, Bool.and_self, Bool.and_true, Bool.true_and, Nat.reduceBEq, Bool.or_true, Bool.true_or, Bool.or_self]
            rw [if_neg (by omega), if_neg (by omega), if_neg (by omega)]
            unfold F_Rd_truthOn F_Rd_truthOn_45 F_Rd_truthOn_75 fI sI
            simp (disch := omega) only [qL, ↓qM, t88 T1, (tD T1 (show 89 ∈ DTab by decide)).1, (tD T1 (show 91 ∈ DTab by decide)).1, (tD T1 (show 93 ∈ DTab by decide)).1, (tD T1 (show 95 ∈ DTab by decide)).1, (tD T1 (show 97 ∈ DTab by decide)).1, g1, g3, g5, g7, g9, q_b0, q_eq, gd_true, beq_self_eq_true, bd_s, if_true, if_false, ↓reduceIte, ite_true, ite_false, Bool.and_self, Bool.and_true, Bool.true_and, Nat.reduceBEq, Bool.or_true, Bool.true_or, Bool.or_self]
            rcases dd with h | h | h <;> subst h
            · simp
              cases opS S (nat x1) 0 v n <;> cases hld S (nat x1) 0 v n <;> simp
            · simp
              cases sk S (nat x1) v n <;> cases sw S (nat x1) v n <;> simp
            · simp
              cases seS S (nat x1) n <;> simp
          have hm : ∃ w2, F_M_truth 271 x1 (nI v) (nI n) (nI d) w1 = some (if d = 0 then fI S (nat x1) v n else if d = 1 then sI S (nat x1) v n else nI (seS S (nat x1) n).toNat, w2) ∧ MQs S w1 w2 := by
            have hMS1 := M_isSaying T1 I1.2.1 Is x1
            rw [decide_eq_true hk] at hMS1
            unfold F_M_truth
            simp (disch := omega) only [qL, ↓qM, mK T1, hMS1, q_b0, M_valley, M_day, q_int, q_eq, gd_true, beq_self_eq_true, bd_s, if_true, if_false, ↓reduceIte, ite_true, ite_false, Bool.and_self, Bool.and_true, Bool.true_and, Nat.reduceBEq, Bool.or_true, Bool.true_or, Bool.or_self]
            rw [if_neg (by simp), if_neg (by omega), if_neg (by omega)]
            rw [hx1]
            rw [nat_nI (by omega)]
            rcases dd with h | h | h <;> subst h
            · obtain ⟨w2, m1, m2⟩ := M_firstOf T1 I1.2.1 ik.1 (show v < 3 by omega) (show n < 1461 by omega) ik.2
              exact ⟨w2, by simp [m1], m2⟩
            · obtain ⟨w2, m1, m2⟩ := M_secondOf T1 I1.2.1 ik.1 (show v < 3 by omega) (show n < 1461 by omega) ik.2
              exact ⟨w2, by simp [m1], m2⟩
            · have m1 := M_isInSeason T1 I1.2.1 I1.2.2.1.1 I1.2.2.1.2.1 ik.1 (show n < 1461 by omega) ik.2
              refine ⟨w1, ?_, MQs.refl I1.2.1⟩
              simp only [m1, bd_s, q_b0]
              cases seS S (nat x1) n <;> simp
          obtain ⟨w2, m1, m2⟩ := hm
          exact STEP.query I eA f1 (rd_lt in88) m1 m2
        · refine STEP.pure I (r := mI 102) ?_ ?_
          · unfold F_A_truth
            simp (disch := omega) only [qL, ↓qM, t16 T, hS, hV, sa.2, A_day, A_wi, q_int, gd_true, beq_self_eq_true, bd_s, if_true, if_false, ↓reduceIte, ite_true, ite_false, Bool.and_self, Bool.and_true, Bool.true_and, Nat.reduceBEq, Bool.or_true, Bool.true_or, Bool.or_self]
            rw [if_neg (by omega), if_neg (by omega), if_pos (by omega)]
          · unfold F_M_truth
            have h0 : ∀ d, d ≤ 2 → (x4 = nI d) = False := fun d hd2 => by
              apply propext
              refine ⟨fun e => hd ?_, False.elim⟩
              rw [e, nI_toInt (by omega)]; omega
            simp (disch := omega) only [qL, ↓qM, mK T, hMS, q_b0, M_valley, M_day, q_int, h0 0, h0 1, h0 2, gd_true, beq_self_eq_true, bd_s, if_true, if_false, ↓reduceIte, ite_true, ite_false, Bool.and_self, Bool.and_true, Bool.true_and, Nat.reduceBEq, Bool.or_true, Bool.true_or, Bool.or_self]
            rw [if_neg (by simp), if_neg (by omega), if_neg (by omega)]
      · refine STEP.pure I (r := mI 101) ?_ ?_
        · unfold F_A_truth
          simp (disch := omega) only [qL, ↓qM, t16 T, hS, hV, sa.2, A_day, gd_true, beq_self_eq_true, bd_s, if_true, if_false, ↓reduceIte, ite_true, ite_false, Bool.and_self, Bool.and_true, Bool.true_and, Nat.reduceBEq, Bool.or_true, Bool.true_or, Bool.or_self]
          rw [if_neg (by omega), if_pos hn]
        · unfold F_M_truth
          simp (disch := omega) only [qL, ↓qM, mK T, hMS, q_b0, M_valley, M_day, q_int, gd_true, beq_self_eq_true, bd_s, if_true, if_false, ↓reduceIte, ite_true, ite_false, Bool.and_self, Bool.and_true, Bool.true_and, Nat.reduceBEq, Bool.or_true, Bool.true_or, Bool.or_self]
          rw [if_neg (by simp), if_neg (by omega), if_pos hn]
    · rw [if_neg hv] at hV
      refine STEP.pure I (r := mI 101) ?_ ?_
      · unfold F_A_truth
        simp only [qL, ↓qM, t16 T, hS, hV, sa.2, gd_true, beq_self_eq_true, bd_s, if_true, if_false, ↓reduceIte, ite_true, ite_false, Bool.and_self, Bool.and_true, Bool.true_and, Nat.reduceBEq, Bool.or_true, Bool.true_or, Bool.or_self]
      · unfold F_M_truth
        simp only [qL, ↓qM, mK T, hMS, q_b0, M_valley, gd_true, beq_self_eq_true, bd_s, if_true, if_false, ↓reduceIte, ite_true, ite_false, Bool.and_self, Bool.and_true, Bool.true_and, Nat.reduceBEq, Bool.or_true, Bool.true_or, Bool.or_self]
        rw [if_neg (by simp), if_pos hv]
  · rw [if_neg hk] at hS
    rw [decide_eq_false hk] at hMS
    refine STEP.pure I (r := mI 101) ?_ ?_
    · unfold F_A_truth
      simp only [qL, ↓qM, t16 T, hS, hV, gd_true, beq_self_eq_true, bd_s, if_true, if_false, ↓reduceIte, ite_true, ite_false, Bool.and_self, Bool.and_true, Bool.true_and, Nat.reduceBEq, Bool.or_true, Bool.true_or, Bool.or_self]
    · unfold F_M_truth
      simp only [qL, ↓qM, mK T, hMS, q_b0, gd_true, beq_self_eq_true, bd_s, if_true, if_false, ↓reduceIte, ite_true, ite_false, Bool.and_self, Bool.and_true, Bool.true_and, Nat.reduceBEq, Bool.or_true, Bool.true_or, Bool.or_self]
