/-! PURE: learn -/
section
variable {L : Nat} {xs : Nat → Int32} {S S' : Nat → Nat → Int32}
theorem same_rg (h0 : S' 0 0 = S 0 0) (hr : ∀ r, 1 ≤ r → r ≤ 16 → S' r = S r) : rgS S' = rgS S := by
  funext v s a z x y
  unfold rgS
  rw [same_tel h0 hr, same_tru (S := S) (S' := S') hr, same_lrn h0 hr]
theorem same_ch (h0 : S' 0 0 = S 0 0) (h29 : S' 0 29 = S 0 29) (hr : ∀ r, 1 ≤ r → r ≤ 16 → S' r = S r) : chF S' = chF S := by
  have e := same_rg h0 hr
  have en : nS S' = nS S := by unfold nS; rw [h29]
  have t : tr3 S' = tr3 S := by funext v s a z x y b; unfold tr3; rw [e]
  have c1 : ∀ v s a k, ch1 S' v s a k = ch1 S v s a k := by
    intro v s a k
    induction k with
    | zero => show (rgS S' v s a 0 0 0, 0, 0, 0) = (rgS S v s a 0 0 0, 0, 0, 0); rw [e]
    | succ k ih => show tr3 S' v s a 1 k 0 (ch1 S' v s a k) = tr3 S v s a 1 k 0 (ch1 S v s a k); rw [t, ih]
  have c2 : ∀ v s a k b j, ch2 S' v s a k b j = ch2 S v s a k b j := by
    intro v s a k b j
    induction j with
    | zero => rfl
    | succ j ih =>
      show (if j = k then ch2 S' v s a k b j else tr3 S' v s a 2 k j (ch2 S' v s a k b j)) = (if j = k then ch2 S v s a k b j else tr3 S v s a 2 k j (ch2 S v s a k b j))
      rw [t, ih]
  have c3 : ∀ v s a k, ch3 S' v s a k = ch3 S v s a k := by
    intro v s a k
    induction k with
    | zero => show ch1 S' v s a (nS S') = ch1 S v s a (nS S); rw [c1, en]
    | succ k ih => show ch2 S' v s a k (ch3 S' v s a k) (nS S') = ch2 S v s a k (ch3 S v s a k) (nS S); rw [c2, ih, en]
  funext v s a sz
  unfold chF
  rw [c1, c1, c3, en]
theorem same_wd (h0 : S' 0 0 = S 0 0) (hr : ∀ r, 1 ≤ r → r ≤ 16 → S' r = S r) : wd3 S' = wd3 S ∧ jd3 S' = jd3 S := by
  have t1 := same_tel h0 hr
  have t2 := same_tru (S := S) (S' := S') hr
  have t3 := same_lrn h0 hr
  have t4 : PG S' = PG S := by funext v s b z x y g n; unfold PG gi; rw [t1, t3]
  have t5 : wd3 S' = wd3 S := by funext v s a z x y g; unfold wd3; rw [t2, t4]
  exact ⟨t5, by funext v s a z x y g; unfold jd3; rw [t2, t4, t5]⟩
theorem chF_ok (S : Nat → Nat → Int32) (v s a : Nat) {sz : Nat} (h : sz ≤ 2) : bok (chF S v s a sz) ∧ bok2 S (chF S v s a sz) := by
  unfold chF
  have e : sz = 0 ∨ sz = 1 ∨ sz = 2 := by omega
  rcases e with e | e | e <;> subst e
  · exact ⟨ch1_ok S v s a 0, ch1_ok2 v s a 0 (by omega)⟩
  · exact ⟨ch1_ok S v s a _, ch1_ok2 v s a _ (Nat.le_refl _)⟩
  · exact ⟨ch3_ok S v s a _, ch3_ok2 v s a _ (Nat.le_refl _)⟩
/-- the class learns -/
theorem A_learn2 {w w1 : AW} (I1 : Inv L xs S w1) {v s a sz : Nat} (hsz : sz ≤ 2) (hL : LT S v s a w1) : ∃ w4, F_A_learn_201 16 (nI sz) w1 = some (nI (chF S v s a sz).1, w4) ∧ EF w1 w4 ∧ wi w4 136 0 = S 0 40 + nI 1 ∧ wi w4 136 1 = nI (chF S v s a sz).1 ∧ ∃ w2 w3, SL S w2 (chF S v s a sz).2.1 (chF S v s a sz).2.2.1 (chF S v s a sz).2.2.2 ∧ FN S v s a (chF S v s a sz).2.1 (chF S v s a sz).2.2.1 (chF S v s a sz).2.2.2 w2 w3 ∧ w4 = upI w3 136 0 (S 0 40 + nI 1) := by
  have T1 := I1.1
  have W1 := I1.2.2.2.2.2.2.2.2.2
  have Is := I1.2.2.1.2.2.2.2.1
  have h8 := Is.2.1
  obtain ⟨w2, p2, Q⟩ := A_choose T1 W1 h8 hsz hL
  have T2 := T1.sh Q.1.1
  have hsl := SL.of Q.2.2.1
  obtain ⟨w3, p3, F3⟩ := A_settle T2 (Q.1.2.2.2 W1) h8 Q.2.1 hsl
  have E3 := Q.1.trans F3.1
  have T3 := T1.sh E3.1
  have e40 : wi w3 136 0 = S 0 40 := by rw [F3.2.1 0 (.inl rfl), Q.2.2.2]; exact I1.2.2.2.2.2.2.2.1.1
  have e1 : wi w3 136 1 = nI (chF S v s a sz).1 := by rw [F3.2.1 1 (.inr (.inl rfl))]; exact Q.2.2.1.1
  have E4 := E3.trans (EF.upI w3 0 (S 0 40 + nI 1) (a := 136) (.inl rfl))
  have T4 := T1.sh E4.1
  refine ⟨upI w3 136 0 (S 0 40 + nI 1), ?_, E4, by rw [wi_upI, if_pos ⟨rfl, rfl⟩], by rw [wi_upI, if_neg (by omega)]; exact e1, w2, w3, hsl, F3, rfl⟩
  unfold F_A_learn_201
  simp only [qL, ↓qM, t16 T1, t136 T1, I1.2.2.2.2.2.2.1.1, Is.1, p2, gd_true, beq_self_eq_true, bd_s, if_true, if_false, ↓reduceIte, ite_true, ite_false, Bool.and_self, Bool.and_true, Bool.true_and, Nat.reduceBEq, Bool.or_true, Bool.true_or, Bool.or_self]
  have e99 : F_Le_choose_99 136 w2 = some (upI w3 136 0 (S 0 40 + nI 1)) := by
    unfold F_Le_choose_99
    simp only [qL, ↓qM, t136 T2, p3, t136 T3, e40, gd_true, beq_self_eq_true, bd_s, if_true, if_false, ↓reduceIte, ite_true, ite_false, Bool.and_self, Bool.and_true, Bool.true_and, Nat.reduceBEq, Bool.or_true, Bool.true_or, Bool.or_self]
  rw [e99, bd_s]
  simp only [t16 T4, t136 T4, gd_true, beq_self_eq_true, bd_s, if_true, if_false, ↓reduceIte, ite_true, ite_false, Bool.and_self, Bool.and_true, Bool.true_and, Nat.reduceBEq, Bool.or_true, Bool.true_or, Bool.or_self]
  rw [wi_upI, if_neg (by omega), e1]
/-- the reference learns -/
theorem M_learn2 {w : AW} (T : Top L xs w) (R : RA S w) (If : IMf S) (Ic : IMs S) (Is : IMsy S) {v s a sz : Nat} (hv : v < 3) (hs : s < nS S) (ha : a < 16) (hsz : sz ≤ 2) : ∃ w2 S3, F_M_learn_71 FUEL 271 (nI v) (nI s) (nI sz) (nI a) (nI 0) w = some (nI (chF S v s a sz).1, w2) ∧ AF w w2 ∧ RA S3 w2 ∧ (∀ r, r ≠ 0 → (r < 23 ∨ 26 < r) → S3 r = S r) ∧ (∀ i, i ≠ 41 → i ≠ 45 → S3 0 i = S 0 i) ∧ S3 0 41 = nI 1 ∧ S3 0 45 = nI (chF S v s a sz).2.1 ∧ S3 25 0 = nI 2 * o1 (chF S v s a sz).2.1 (chF S v s a sz).2.2.1 + nI (wd3 S v s a (chF S v s a sz).2.1 (chF S v s a sz).2.2.1 (chF S v s a sz).2.2.2 0).toNat ∧ S3 25 1 = nI 2 * o2 (chF S v s a sz).2.1 (chF S v s a sz).2.2.2 + nI (wd3 S v s a (chF S v s a sz).2.1 (chF S v s a sz).2.2.1 (chF S v s a sz).2.2.2 1).toNat ∧ S3 26 0 = nI (wd3 S v s a (chF S v s a sz).2.1 (chF S v s a sz).2.2.1 (chF S v s a sz).2.2.2 2).toNat ∧ S3 26 1 = nI (chF S v s a sz).2.1 ∧ S3 26 2 = nI (cnt (lrn S v s a) 1461) ∧ S3 26 3 = nI (chF S v s a sz).1 ∧ S3 26 4 = nI (cnt (lrn S v s (15 - a)) 1461) ∧ S3 26 5 = nI (jd3 S v s a (chF S v s a sz).2.1 (chF S v s a sz).2.2.1 (chF S v s a sz).2.2.2 0 + jd3 S v s a (chF S v s a sz).2.1 (chF S v s a sz).2.2.1 (chF S v s a sz).2.2.2 1 + jd3 S v s a (chF S v s a sz).2.1 (chF S v s a sz).2.2.1 (chF S v s a sz).2.2.2 2) := by
  obtain ⟨u, S2, fu', p1, A1, hF, R2, h24, h23⟩ := M_fill If Ic Is hv hs (nI sz) (nI a) 1461 FUEL 0 w S T (FS.refl S) R (fun i hi => by omega) (fun i hi => by omega) (by omega) (by decide)
  have Tu := T.sh A1.sh
  have hr : ∀ r, 1 ≤ r → r ≤ 16 → S2 r = S r := fun r h1 h2 => hF r (by omega) (by omega)
  have e0 := hF 0 (by omega) (by omega)
  have h0 : S2 0 0 = S 0 0 := by rw [e0]
  have h29 : S2 0 29 = S 0 29 := by rw [e0]
  have If2 := IMf_S h0 If
  have Is2 : IMsy S2 := IMsy_S h29 (hr 13 (by omega) (by omega)) (hr 14 (by omega) (by omega)) (hr 15 (by omega) (by omega)) (hr 16 (by omega) (by omega)) Is
  have N : NT S v s u := ⟨fun i hi => by rw [ra24 R2, h24 i hi], fun i hi => by rw [ra23 R2, h23 i hi]⟩
  have N2 := (same_cu (S := S) (S' := S2) h0 h29 hr (v := v) (s := s) (w := u)).1 N
  obtain ⟨w6, q1, f6, q2, -⟩ := M_try Tu R2 If2 Is2 N2 ha (z := 0) (x := 0) (y := 0) (by omega) (fun h => by omega) (fun h => by omega) (CF2.refl u)
  have T6 := Tu.sh f6.1.sh
  obtain ⟨w7, r1, f7⟩ := M_choose Tu R2 If2 Is2 N2 ha hsz f6
  have hok := chF_ok S2 v s a hsz
  obtain ⟨w2, S3, t1, t2, t3, t4, t5, t6, t7, t8, t9, t10, t11, t12, t13, t14, t15⟩ := M_final Tu R2 If2 Is2 N2 ha hok.1.2 hok.2.1 hok.2.2 f7 (nI (chF S2 v s a sz).1)
  have ec := same_ch h0 h29 hr
  have ew := same_wd h0 hr
  have el := same_lrn h0 hr
  rw [ec] at t1 t7 t8 t9 t10 t11 t13 t15 r1
  rw [ew.1] at t8 t9 t10
  rw [ew.2] at t15
  rw [el] at t12 t14
  refine ⟨w2, S3, ?_, A1.trans t2, t3, fun r h1 h2 => (t4 r h1 (by omega) (by omega)).trans (hF r (by omega) (by omega)), fun i h1 h2 => (t5 i h1 h2).trans (by rw [e0]), t6, t7, t8, t9, t10, t11, t12, t13, t14, t15⟩
  rw [p1]
  have e1 : (ch1 S2 v s a 0).1 = rgS S2 v s a 0 0 0 := rfl
  rw [e1] at r1
  unfold F_M_learn_71_B
  rw [if_pos (show (1461 : Int32) ≤ nI 1461 from Int32.le_refl _)]
  have q1' : F_M_countBy 271 (nI a) (mI 1) (mI 1) u = some w6 := q1
  simp only [qL, ↓qM, mK Tu, q1', mK T6, q2, gd_true, beq_self_eq_true, bd_s, if_true, if_false, ↓reduceIte, ite_true, ite_false, Bool.and_self, Bool.and_true, Bool.true_and, Nat.reduceBEq, Bool.or_true, Bool.true_or, Bool.or_self]
  exact r1.trans t1
end
