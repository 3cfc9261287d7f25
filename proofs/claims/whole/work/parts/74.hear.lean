/-! PURE: the class learns -/
section
variable {L : Nat} {xs : Nat → Int32} {S : Nat → Nat → Int32}
theorem tb15 : ∀ a, a < 16 → ∀ y, y < 4 → (15 - a).testBit y = !a.testBit y := by decide +kernel
theorem A_hear {w : AW} (T : Top L xs w) (W : WFs w) {k : Nat} (hk : k < 8) : ∃ w', F_Le_hear 136 (nI k) 89 93 w = some w' ∧ DF (fun x => x = 151 + 2 * k) w w' ∧ (∀ n, n < 1461 → gD w' (151 + 2 * k) n = (gD w 89 n && gD w 93 n)) := by
  have ik := (Le_ok k hk).2
  have i89 : 89 ∈ DTab := by decide +kernel
  have i93 : 93 ∈ DTab := by decide +kernel
  obtain ⟨w1, p1, d1, g1⟩ := X_take (tT T hk).2 (tD T i89) (W _ i89)
  have T1 := T.sh d1.sh
  have W1 := d1.wfs W
  obtain ⟨w2, p2, d2, g2⟩ := X_meet (tT T1 hk).2 (tD T1 i93) (W1 _ ik) (W1 _ i93)
  refine ⟨w2, ?_, d1.trans d2, fun n hn => ?_⟩
  · unfold F_Le_hear
    simp (disch := omega) only [qL, ↓qM, A_wi, q_int, t136 T, q_inb, q_nat, (tT T hk).1, (tT T hk).2.1, p1, t136 T1, (tT T1 hk).1, (tT T1 hk).2.1, p2, gd_true, beq_self_eq_true, bd_s, if_true, if_false, ↓reduceIte, ite_true, ite_false, Bool.and_self, Bool.and_true, Bool.true_and, Nat.reduceBEq, Bool.or_true, Bool.true_or, Bool.or_self]
    rw [if_neg (by omega)]
  · rw [g2 n hn, g1 n hn, d1.g (by omega)]
theorem A_aimAt {w : AW} (T : Top L xs w) (W : WFs w) : ∃ w', F_Le_aimAt 136 95 97 134 w = some w' ∧ DF (fun x => x = 138 ∨ x = 140 ∨ x = 142) w w' ∧ (∀ n, n < 1461 → gD w' 138 n = (gD w 95 n && gD w 134 n)) ∧ (∀ n, n < 1461 → gD w' 140 n = (gD w 95 n && !gD w 134 n)) ∧ (∀ n, n < 1461 → gD w' 142 n = gD w 97 n) := by
  obtain ⟨i138, i140, i142, i144, i146⟩ := Ln_in
  have i95 : 95 ∈ DTab := by decide +kernel
  have i97 : 97 ∈ DTab := by decide +kernel
  have i134 : 134 ∈ DTab := by decide +kernel
  obtain ⟨w1, p1, d1, g1⟩ := X_take (tD T i138) (tD T i95) (W _ i95)
  have T1 := T.sh d1.sh
  have W1 := d1.wfs W
  obtain ⟨w2, p2, d2, g2⟩ := X_meet (tD T1 i138) (tD T1 i134) (W1 _ i138) (W1 _ i134)
  have T2 := T1.sh d2.sh
  have W2 := d2.wfs W1
  obtain ⟨w3, p3, d3, g3⟩ := X_take (tD T2 i140) (tD T2 i95) (W2 _ i95)
  have T3 := T2.sh d3.sh
  have W3 := d3.wfs W2
  obtain ⟨w4, p4, d4, g4⟩ := X_leave (tD T3 i140) (tD T3 i134) (W3 _ i140) (W3 _ i134)
  have T4 := T3.sh d4.sh
  have W4 := d4.wfs W3
  obtain ⟨w5, p5, d5, g5⟩ := X_take (tD T4 i142) (tD T4 i97) (W4 _ i97)
  refine ⟨w5, ?_, ((((d1.mono (fun x h => .inl h)).trans (d2.mono (fun x h => .inl h))).trans (d3.mono (fun x h => .inr (.inl h)))).trans (d4.mono (fun x h => .inr (.inl h)))).trans (d5.mono (fun x h => .inr (.inr h))), fun n hn => ?_, fun n hn => ?_, fun n hn => ?_⟩
  · unfold F_Le_aimAt
    simp only [t136 T, (tD T i138).1, p1, t136 T1, (tD T1 i138).1, p2, t136 T2, (tD T2 i140).1, p3, t136 T3, (tD T3 i140).1, p4, t136 T4, (tD T4 i142).1, p5, gd_true, beq_self_eq_true, bd_s, if_true, if_false, ↓reduceIte, ite_true, ite_false, Bool.and_self, Bool.and_true, Bool.true_and, Nat.reduceBEq, Bool.or_true, Bool.true_or, Bool.or_self]
  · rw [d5.g (by omega), d4.g (by omega), d3.g (by omega), g2 n hn, g1 n hn, d1.g (by omega)]
  · rw [d5.g (by omega), g4 n hn, g3 n hn, d3.g (by omega), d2.g (by omega), d1.g (by omega), d2.g (by omega), d1.g (by omega)]
  · rw [g5 n hn, d4.g (by omega), d3.g (by omega), d2.g (by omega), d1.g (by omega)]
theorem A_learn1 {w : AW} (I : Inv L xs S w) {v s a : Nat} (sz : Int32) (hv : v < 3) (hs : s < nS S) (ha : a < 16) (hsz : 0 ≤ sz.toInt ∧ sz.toInt ≤ 2) (hd : nat (S 0 40) < 12) : ∃ w1, F_A_learn 16 (nI v) (nI s) sz (nI a) w = F_A_learn_201 16 sz w1 ∧ DF (fun q => q < 167) w w1 ∧ LT S v s a w1 := by
  have T := I.1
  have Is := I.2.2.1.2.2.2.2.1
  have h8 := Is.2.1
  have hS := A_sayingOf T Is I.2.2.2.2.2.2.1 (nI s)
  have hV := A_diaryOf T (nI v)
  rw [q_int (by omega), if_pos (by omega), nat_nI (by omega)] at hS hV
  have sa := I.say hs
  have Ile := I.2.2.1.2.2.2.2.2
  have le := I.2.2.2.2.2.2.2.1
  obtain ⟨w1, e1, f1, r0, r1, r2, I1⟩ := rdOf I hs hv in88
  have T1 := I1.1
  have i134 : 134 ∈ DTab := by decide +kernel
  obtain ⟨w2, p2, d2⟩ : ∃ w2, F_Dy_clear 134 w1 = some w2 ∧ DF (fun x => x = 134) w1 w2 ∧ ∀ n, n < 1461 → gD w2 134 n = false := ⟨_, D_clear (tD T1 i134), DF.set _ _ rfl, fun n hn => gD_eq _ _ _ hn⟩
  have I2 := I1.df d2.1 (fun q h => by omega)
  have T2 := I2.1
  have W2 := I2.2.2.2.2.2.2.2.2.2
  have C2 := I2.2.2.2.1.cf I2.2.2.1.1
  obtain ⟨w3, p3, d3⟩ : ∃ w3, F_Ca_addYears 17 (nI a) 134 w2 = some w3 ∧ DF (fun x => x = 134) w2 w3 ∧ ∀ n, n < 1461 → gD w3 134 n = a.testBit (yr (sF S) n) := ⟨_, A_addYears T2 C2 ha (tD T2 i134) (W2 _ i134), DF.set _ _ rfl, fun n hn => by rw [gD_eq _ _ _ hn, d2.2 n hn]; rfl⟩
  have I3 := I2.df d3.1 (fun q h => by omega)
  have T3 := I3.1
  have W3 := I3.2.2.2.2.2.2.2.2.2
  obtain ⟨w4, p4, d4, g138, g140, g142⟩ := A_aimAt T3 W3
  have I4 := I3.df d4 (fun q h => by omega)
  have fA : DF (fun q => q < 167) w w4 := (((f1.mono (fun x h => by unfold rdA scA at h; omega)).trans (d2.1.mono (fun x h => by omega))).trans (d3.1.mono (fun x h => by omega))).trans (d4.mono (fun x h => by omega))
  have hk95 : ∀ n, n < 1461 → gD w3 95 n = sk S s v n := fun n hn => by rw [d3.1.g (by omega), d2.1.g (by omega)]; exact (r1 n hn).1
  have hk97 : ∀ n, n < 1461 → gD w3 97 n = tru S v s n := fun n hn => by rw [d3.1.g (by omega), d2.1.g (by omega)]; exact (r1 n hn).2
  have hyr : ∀ n, yr (sF S) n < 4 := fun n => by have := yr_le (sF S) n; omega
  have loop : ∀ j fu k (u : AW), Inv L xs S u → DF (fun q => q < 167) w u → (∀ i, i < k → ∀ n, n < 1461 → gD u (151 + 2 * i) n = tel S v i n) → (∀ n, n < 1461 → gD u 142 n = tru S v s n) → (∀ n, n < 1461 → gD u 138 n = lrn S v s a n) → (∀ n, n < 1461 → gD u 140 n = lrn S v s (15 - a) n) → k + j = nS S → j < fu → ∃ w1, F_A_learn_132 fu 16 sz (179 + 2 * v) (nI k) u = F_A_learn_201 16 sz w1 ∧ DF (fun q => q < 167) w w1 ∧ LT S v s a w1 := by
    intro j
    induction j with
    | zero =>
      intro fu k u Iu fu2 ht h142 h138 h140 hk hf
      obtain ⟨fu, rfl⟩ : ∃ m, fu = m + 1 := ⟨fu - 1, by omega⟩
      obtain rfl : k = nS S := by omega
      refine ⟨u, ?_, fu2, ht, h142, h138, h140⟩
      show F_A_learn_132_B (F_A_learn_132 fu) _ _ _ _ u = _
      unfold F_A_learn_132_B
      simp (disch := omega) only [qL, ↓qM, t16 Iu.1, Iu.2.2.2.2.2.2.1.1, Is.1, q_le, gd_true, beq_self_eq_true, bd_s, if_true, if_false, ↓reduceIte, ite_true, ite_false, Bool.and_self, Bool.and_true, Bool.true_and, Nat.reduceBEq, Bool.or_true, Bool.true_or, Bool.or_self]
      rw [if_pos (Nat.le_refl _)]
    | succ j ih =>
      intro fu k u Iu fu2 ht h142 h138 h140 hk hf
      obtain ⟨fu, rfl⟩ : ∃ m, fu = m + 1 := ⟨fu - 1, by omega⟩
      have Tu := Iu.1
      have hkn : k < nS S := by omega
      have sk' := Iu.say hkn
      have ik := Iu.k8 hkn
      obtain ⟨u1, q1, e1, R0⟩ := A_readFirst Tu Iu.2.2.2.2.2.2.2.2.2 Iu.2.2.2.1 Iu.2.2.2.2.1 Iu.2.2.1.1 Iu.2.2.1.2.1 Iu.2.2.1.2.2.1 ik.2 (Iu.2.2.2.2.2.2.1.2 k hkn) sk'.1 hv in88
      have hsc : ∀ x, (scA x ∨ x = 88 + 1 ∨ x = 88 + 3 ∨ x = 88 + 5) → x < 138 := fun x h => by
        rcases h with h | h | h | h
        · unfold scA at h; omega
        · omega
        · omega
        · omega
      have I1 := Iu.df e1 (fun x h => by have := hsc x h; omega)
      have T1 := I1.1
      obtain ⟨u2, q2, e2, g2⟩ := A_hear T1 I1.2.2.2.2.2.2.2.2.2 ik.1
      have I2 := I1.df e2 (fun x h => by omega)
      obtain ⟨w1, o1, o2⟩ := ih fu (k + 1) u2 I2 (fu2.trans ((e1.mono (fun x h => by have := hsc x h; omega)).trans (e2.mono (fun x h => by have := ik.1; omega)))) (fun i hi n hn => by
        by_cases e : i = k
        · rw [e, g2 n hn]
          have r := R0 n hn
          rw [show (89 : Nat) = 88 + 1 from rfl, show (93 : Nat) = 88 + 5 from rfl, r.1, r.2.2]; rfl
        · rw [e2.g (by omega), e1.g (fun h => by have := hsc _ h; omega)]; exact ht i (by omega) n hn) (fun n hn => by rw [e2.g (by omega), e1.g (fun h => by have := hsc _ h; omega)]; exact h142 n hn) (fun n hn => by rw [e2.g (by omega), e1.g (fun h => by have := hsc _ h; omega)]; exact h138 n hn) (fun n hn => by rw [e2.g (by omega), e1.g (fun h => by have := hsc _ h; omega)]; exact h140 n hn) (by omega) (by omega)
      refine ⟨w1, ?_, o2⟩
      show F_A_learn_132_B (F_A_learn_132 fu) _ _ _ _ u = _
      unfold F_A_learn_132_B
      simp (disch := omega) only [qL, ↓qM, t16 Tu, tSy Tu, t88 Tu, Iu.2.2.2.2.2.2.1.1, Is.1, q_le, q_inb, q_nat, q1, t16 T1, t88 T1, t136 T1, q2, nI_add, gd_true, beq_self_eq_true, bd_s, if_true, if_false, ↓reduceIte, ite_true, ite_false, Bool.and_self, Bool.and_true, Bool.true_and, Nat.reduceBEq, Bool.or_true, Bool.true_or, Bool.or_self]
      rw [if_neg (by omega), if_neg (by omega)]
      exact o1
  obtain ⟨w5, o1, o2, o3⟩ := loop (nS S) FUEL 0 w4 I4 fA (fun i hi => by omega) (fun n hn => by rw [g142 n hn, hk97 n hn]) (fun n hn => by rw [g138 n hn, hk95 n hn, d3.2 n hn]; rfl) (fun n hn => by rw [g140 n hn, hk95 n hn, d3.2 n hn]; unfold lrn; rw [tb15 a ha _ (hyr n)]) (by omega) (Nat.lt_of_le_of_lt h8 (by decide))
  refine ⟨w5, ?_, o2, o3⟩
  unfold F_A_learn
  simp (disch := omega) only [qL, ↓qM, t16 T, t88 T, t136 T, hS, hV, A_wi, q_int, le.1, e1, t16 T1, (tD T1 i134).1, p2, t16 T2, t17 T2, p3, t16 T3, t88 T3, t136 T3, p4, gd_true, beq_self_eq_true, bd_s, if_true, if_false, ↓reduceIte, ite_true, ite_false, Bool.and_self, Bool.and_true, Bool.true_and, Nat.reduceBEq, Bool.or_true, Bool.true_or, Bool.or_self]
  rw [if_neg (by omega), if_neg sa.2, if_neg (by omega), if_neg (by omega), if_pos (show S 0 40 < nI 12 by rw [Ile.1, q_lt (by omega) (by omega)]; exact hd)]
  exact o1
end
