/-! PURE: the law's other calls, and its loop -/
section
variable {L : Nat} {xs : Nat → Int32} {S : Nat → Nat → Int32}
theorem W_607 {w : AW} (I : Inv L xs S w) (hL : L ≤ 3072) (rec18 : Nat → Nat → Nat → Int32 → AW → Option (Int32 × AW)) (z0 q0 : Nat) {p : Nat} (hp : p + 6 ≤ L) : ∃ S1 v, Inv L xs S1 v ∧ F_Lw_law_607 rec18 z0 q0 1 16 271 (nI p) w = rec18 1 16 271 (nI (p + 6)) v := by
  have T := I.1
  obtain ⟨r, w1, w2, S1, h1, T1, h2, J⟩ := S_letters I (((Int32.toInt64 (xs (p + 1))) <<< (Int32.toInt64 (32 : Int32) &&& 63)) ||| ((Int32.toInt64 (xs (p + 2))) &&& (4294967295 : Int64)))
  have T2 := J.1
  refine ⟨S1, w2, J, ?_⟩
  unfold F_Lw_law_607
  simp (disch := omega) only [l_1, l_2, l_6, t1 T, t16 T, T.1, T.2.1, ro, T.x, q_inb, q_nat, nI_add, h1, wzz, T1.1, T1.2.1, t1 T1, mK T1, T1.x, h2, T2.1, T2.2.1, gd_true, beq_self_eq_true, bd_s, if_true, if_false, ↓reduceIte, ite_true, ite_false, Bool.and_self, Bool.and_true, Bool.true_and, Nat.reduceBEq, Bool.or_true, Bool.true_or, Bool.or_self]
theorem W_523 {w : AW} (I : Inv L xs S w) (hL : L ≤ 3072) (rec18 : Nat → Nat → Nat → Int32 → AW → Option (Int32 × AW)) (z0 q0 : Nat) {p : Nat} (hp : p + 6 ≤ L) (b : Int32) : ∃ S1 v, Inv L xs S1 v ∧ (∃ r w1, F_A_set 16 (xs (p + 1)) (xs (p + 2)) (xs (p + 3)) (xs (p + 4)) b w = some (r, w1) ∧ Top L xs w1 ∧ F_Lw_law_523 rec18 z0 q0 1 16 271 (nI p) b (xs (p + 4)) (xs (p + 3)) (xs (p + 2)) (xs (p + 1)) 271 r w1 = rec18 1 16 271 (nI (p + 6)) v) := by
  have T := I.1
  obtain ⟨r, w1, w2, S1, h1, T1, h2, J⟩ := S_set I (xs (p + 1)) (xs (p + 2)) (xs (p + 3)) (xs (p + 4)) b
  have T2 := J.1
  refine ⟨S1, w2, J, r, w1, h1, T1, ?_⟩
  unfold F_Lw_law_523
  simp (disch := omega) only [qL, ↓qM, T1.1, T1.2.1, ro, wzz, mK T1, h2, T2.1, T2.2.1, nI_add, gd_true, beq_self_eq_true, bd_s, if_true, if_false, ↓reduceIte, ite_true, ite_false, Bool.and_self, Bool.and_true, Bool.true_and, Nat.reduceBEq, Bool.or_true, Bool.true_or, Bool.or_self]
theorem W_452 {w : AW} (I : Inv L xs S w) (hL : L ≤ 3072) (rec18 : Nat → Nat → Nat → Int32 → AW → Option (Int32 × AW)) (z0 q0 : Nat) {p : Nat} (hp : p + 6 ≤ L) : ∃ S1 v, Inv L xs S1 v ∧ F_Lw_law_452 rec18 z0 q0 1 16 271 (nI p) w = rec18 1 16 271 (nI (p + 6)) v := by
  have T := I.1
  by_cases h0 : xs (p + 5) = nI 0
  · obtain ⟨S1, v, J, r, w1, h1, T1, h2⟩ := W_523 I hL rec18 z0 q0 hp (nI 0)
    refine ⟨S1, v, J, ?_⟩
    unfold F_Lw_law_452 F_Lw_law_486
    simp (disch := omega) only [qL, ↓qM, t1 T, t16 T, T.1, T.2.1, ro, T.x, q_inb, q_nat, nI_add, h0, h1, wzz, T1.1, T1.2.1, t1 T1, T1.x, h2, gd_true, beq_self_eq_true, bd_s, if_true, if_false, ↓reduceIte, ite_true, ite_false, Bool.and_self, Bool.and_true, Bool.true_and, Nat.reduceBEq, Bool.or_true, Bool.true_or, Bool.or_self]
  · obtain ⟨S1, v, J, r, w1, h1, T1, h2⟩ := W_523 I hL rec18 z0 q0 hp (nI 1)
    refine ⟨S1, v, J, ?_⟩
    unfold F_Lw_law_452 F_Lw_law_486
    simp (disch := omega) only [qL, ↓qM, t1 T, t16 T, T.1, T.2.1, ro, T.x, q_inb, q_nat, nI_add, h0, h1, wzz, T1.1, T1.2.1, t1 T1, T1.x, h2, gd_true, beq_self_eq_true, bd_s, if_true, if_false, ↓reduceIte, ite_true, ite_false, Bool.and_self, Bool.and_true, Bool.true_and, Nat.reduceBEq, Bool.or_true, Bool.true_or, Bool.or_self]
theorem W_1684 {w : AW} (I : Inv L xs S w) (hL : L ≤ 3072) (rec18 : Nat → Nat → Nat → Int32 → AW → Option (Int32 × AW)) (z0 q0 : Nat) {p : Nat} (hp : p + 6 ≤ L) : ∃ S1 v, Inv L xs S1 v ∧ F_Lw_law_1684 rec18 z0 q0 1 16 271 (nI p) w = rec18 1 16 271 (nI (p + 6)) v := by
  have T := I.1
  obtain ⟨h1, h2⟩ := S_digest I
  refine ⟨S, w, I, ?_⟩
  unfold F_Lw_law_1684
  simp (disch := omega) only [l_6, t1 T, t16 T, mK T, T.1, T.2.1, ro, h1, h2, nI_add, lg_cmp_eq, gd_true, beq_self_eq_true, bd_s, if_true, if_false, ↓reduceIte, ite_true, ite_false, Bool.and_self, Bool.and_true, Bool.true_and, Nat.reduceBEq, Bool.or_true, Bool.true_or, Bool.or_self]
theorem W_686 {w : AW} (H : STEP L xs w (F_A_good 16) (F_M_good 271)) (I : Inv L xs S w) (hL : L ≤ 3072) (rec18 : Nat → Nat → Nat → Int32 → AW → Option (Int32 × AW)) (z0 q0 : Nat) {p : Nat} (hp : p + 6 ≤ L) : ∃ S1 v, Inv L xs S1 v ∧ F_Lw_law_686 rec18 z0 q0 1 16 271 (nI p) w = rec18 1 16 271 (nI (p + 6)) v := by
  have T := I.1
  obtain ⟨r, w1, w2, S1, h1, T1, h2, J⟩ := H
  have T2 := J.1
  refine ⟨S1, w2, J, ?_⟩
  unfold F_Lw_law_686
  simp (disch := omega) only [qL, ↓qM, t1 T, t16 T, T.1, T.2.1, ro, T.x, q_inb, q_nat, nI_add, h1, wzz, T1.1, T1.2.1, t1 T1, mK T1, T1.x, h2, T2.1, T2.2.1, gd_true, beq_self_eq_true, bd_s, if_true, if_false, ↓reduceIte, ite_true, ite_false, Bool.and_self, Bool.and_true, Bool.true_and, Nat.reduceBEq, Bool.or_true, Bool.true_or, Bool.or_self]
theorem W_673 {w : AW} (H : STEP L xs w (F_A_say 16) (F_M_say 271)) (I : Inv L xs S w) (hL : L ≤ 3072) (rec18 : Nat → Nat → Nat → Int32 → AW → Option (Int32 × AW)) (z0 q0 : Nat) {p : Nat} (hp : p + 6 ≤ L) : ∃ S1 v, Inv L xs S1 v ∧ F_Lw_law_673 rec18 z0 q0 1 16 271 (nI p) w = rec18 1 16 271 (nI (p + 6)) v := by
  have T := I.1
  obtain ⟨r, w1, w2, S1, h1, T1, h2, J⟩ := H
  have T2 := J.1
  refine ⟨S1, w2, J, ?_⟩
  unfold F_Lw_law_673
  simp (disch := omega) only [qL, ↓qM, t1 T, t16 T, T.1, T.2.1, ro, T.x, q_inb, q_nat, nI_add, h1, wzz, T1.1, T1.2.1, t1 T1, mK T1, T1.x, h2, T2.1, T2.2.1, gd_true, beq_self_eq_true, bd_s, if_true, if_false, ↓reduceIte, ite_true, ite_false, Bool.and_self, Bool.and_true, Bool.true_and, Nat.reduceBEq, Bool.or_true, Bool.true_or, Bool.or_self]
end
