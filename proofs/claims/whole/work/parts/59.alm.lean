/-! PURE: draw, copy, foretell -/
/-- an almanac's word -/
def wok (x : Int32) : Prop := x = mI 1 ∨ x = nI 0 ∨ x = nI 1
theorem wvl_ok (t x : Bool) : wok (wvl t x) := by cases t <;> cases x <;> simp [wok, wvl]
theorem wok_lt {x : Int32} (h : wok x) : (x = mI 1 ∨ x = nI 0 ∨ x = nI 1) := h
theorem wvl_of {x : Int32} (h : wok x) : x = wvl (!decide (x = mI 1)) (decide (x = nI 1)) := by
  rcases h with e | e | e <;> subst e <;> decide +kernel
theorem D_has_nI {w : AW} {a n : Nat} (ha : TD w a) (hn : n < 1461) : F_Dy_has w a (nI n) = some (nI (gD w a n).toNat) := by
  rw [D_has ha hn]; cases gD w a n <;> rfl
theorem A_foretold {L : Nat} {xs : Nat → Int32} {w : AW} (T : Top L xs w) {S : Nat → Nat → Int32} (A : AlA S w) {a n : Nat} (ha : a < 6) (hn : n < 1461) : F_Al_foretoldFor w (241 + 5 * a) (nI n) = some (S 7 (1461 * a + n)) := by
  have ta := tA T ha
  unfold F_Al_foretoldFor
  simp only [qL, ↓qM, ta.1, ta.2.1, ta.2.2.1, ta.2.2.2.2.1.1, ta.2.2.2.2.2.1, D_has_nI ta.2.2.2.2.1 hn, D_has_nI ta.2.2.2.2.2 hn, q_b0, (A a ha).2 n hn, gd_true, beq_self_eq_true, bd_s, if_true, if_false, ↓reduceIte, ite_true, ite_false, Bool.and_self, Bool.and_true, Bool.true_and, Nat.reduceBEq, Bool.or_true, Bool.true_or, Bool.or_self]
  cases gD w (242 + 5 * a) n <;> cases gD w (244 + 5 * a) n <;> simp [wvl]
def alA (a : Nat) : Nat → Prop := fun x => x = 242 + 5 * a ∨ x = 244 + 5 * a
theorem A_put {L : Nat} {xs : Nat → Int32} {w : AW} (T : Top L xs w) (W : WFs w) {S : Nat → Nat → Int32} (A : AlA S w) {a n : Nat} {x : Int32} (ha : a < 6) (hn : n < 1461) (hx : wok x) : ∃ w', F_Al_put (241 + 5 * a) (nI n) x w = some w' ∧ DF (alA a) w w' ∧ AlA (uS S 7 (1461 * a + n) x) w' := by
  have ta := tA T ha
  have k1 := (Al_ok2 a ha).2.1
  have k2 := (Al_ok2 a ha).2.2
  generalize hw1 : setD w (242 + 5 * a) (fun m => gD w (242 + 5 * a) m && !decide (m = n)) = w1
  have d1 : DF (alA a) w w1 := by rw [← hw1]; exact DF.set _ _ (.inl rfl)
  have T1 := T.sh d1.sh
  have W1 := d1.wfs W
  have ta1 := tA T1 ha
  generalize hw2 : setD w1 (244 + 5 * a) (fun m => gD w1 (244 + 5 * a) m && !decide (m = n)) = w2
  have d2 : DF (alA a) w1 w2 := by rw [← hw2]; exact DF.set _ _ (.inr rfl)
  have T2 := T1.sh d2.sh
  have W2 := d2.wfs W1
  have ta2 := tA T2 ha
  generalize hw3 : (if x = mI 1 then w2 else setD w2 (242 + 5 * a) (fun m => gD w2 (242 + 5 * a) m || decide (m = n))) = w3
  have d3 : DF (alA a) w2 w3 := by
    rw [← hw3]; split
    · exact DF.refl _ _
    · exact DF.set _ _ (.inl rfl)
  have T3 := T2.sh d3.sh
  have W3 := d3.wfs W2
  have ta3 := tA T3 ha
  generalize hw4 : (if x = nI 1 then setD w3 (244 + 5 * a) (fun m => gD w3 (244 + 5 * a) m || decide (m = n)) else w3) = w4
  have d4 : DF (alA a) w3 w4 := by
    rw [← hw4]; split
    · exact DF.set _ _ (.inr rfl)
    · exact DF.refl _ _
  have d := ((d1.trans d2).trans d3).trans d4
  refine ⟨w4, ?_, d, ?_⟩
  · have e29 : F_Al_put_29 (241 + 5 * a) (nI n) x w3 = some w4 := by
      unfold F_Al_put_29
      simp only [qL, ↓qM, ta3.1, ta3.2.2.1, ta3.2.2.2.2.2.1, D_add ta3.2.2.2.2.2 (W3 _ k2) hn, gd_true, beq_self_eq_true, bd_s, if_true, if_false, ↓reduceIte, ite_true, ite_false, Bool.and_self, Bool.and_true, Bool.true_and, Nat.reduceBEq, Bool.or_true, Bool.true_or, Bool.or_self]
      rw [← hw4]
      split <;> rfl
    unfold F_Al_put
    simp only [qL, ↓qM, ta.1, ta.2.1, ta.2.2.2.2.1.1, D_remove ta.2.2.2.2.1 (W _ k1) hn, hw1, ta1.1, ta1.2.2.1, ta1.2.2.2.2.2.1, D_remove ta1.2.2.2.2.2 (W1 _ k2) hn, hw2, ta2.1, ta2.2.1, ta2.2.2.2.2.1.1, D_add ta2.2.2.2.2.1 (W2 _ k1) hn, gd_true, beq_self_eq_true, bd_s, if_true, if_false, ↓reduceIte, ite_true, ite_false, Bool.and_self, Bool.and_true, Bool.true_and, Nat.reduceBEq, Bool.or_true, Bool.true_or, Bool.or_self]
    by_cases h : x = mI 1
    · rw [if_pos h] at hw3 ⊢
      rw [hw3]; exact e29
    · rw [if_neg h] at hw3 ⊢
      rw [hw3]; exact e29
  · have g1 : ∀ m, m < 1461 → gD w4 (242 + 5 * a) m = (if m = n then !decide (x = mI 1) else gD w (242 + 5 * a) m) := by
      intro m hm
      have e4 : gD w4 (242 + 5 * a) m = gD w3 (242 + 5 * a) m := by
        rw [← hw4]; split
        · exact gD_ne _ _ _ (by omega) _
        · rfl
      have e2 : gD w2 (242 + 5 * a) m = gD w1 (242 + 5 * a) m := by rw [← hw2]; exact gD_ne _ _ _ (by omega) _
      have e1 : gD w1 (242 + 5 * a) m = (gD w (242 + 5 * a) m && !decide (m = n)) := by rw [← hw1]; exact gD_eq _ _ _ hm
      rw [e4, ← hw3]
      by_cases h : x = mI 1
      · rw [if_pos h, e2, e1, h]
        by_cases hmn : m = n <;> simp [hmn]
      · rw [if_neg h, gD_eq _ _ _ hm, e2, e1]
        by_cases hmn : m = n <;> simp [hmn, h]
    have g2 : ∀ m, m < 1461 → gD w4 (244 + 5 * a) m = (if m = n then decide (x = nI 1) else gD w (244 + 5 * a) m) := by
      intro m hm
      have e3 : gD w3 (244 + 5 * a) m = gD w2 (244 + 5 * a) m := by
        rw [← hw3]; split
        · rfl
        · exact gD_ne _ _ _ (by omega) _
      have e2 : gD w2 (244 + 5 * a) m = (gD w1 (244 + 5 * a) m && !decide (m = n)) := by rw [← hw2]; exact gD_eq _ _ _ hm
      have e1 : gD w1 (244 + 5 * a) m = gD w (244 + 5 * a) m := by rw [← hw1]; exact gD_ne _ _ _ (by omega) _
      rw [← hw4]
      by_cases h : x = nI 1
      · rw [if_pos h, gD_eq _ _ _ hm, e3, e2, e1]
        by_cases hmn : m = n <;> simp [hmn, h]
      · rw [if_neg h, e3, e2, e1]
        by_cases hmn : m = n <;> simp [hmn, h]
    intro b hb
    refine ⟨by rw [d.wi, uS_ne (by omega)]; exact (A b hb).1, fun m hm => ?_⟩
    by_cases hba : b = a
    · subst hba
      rw [g1 m hm, g2 m hm]
      by_cases hmn : m = n
      · subst hmn
        rw [uS_eq, if_pos rfl, if_pos rfl]
        exact wvl_of hx
      · rw [uS_nei (.inr (by omega)), if_neg hmn, if_neg hmn]
        exact (A b hb).2 m hm
    · rw [uS_nei (.inr (by omega)), d.g (by unfold alA; omega), d.g (by unfold alA; omega)]
      exact (A b hb).2 m hm
theorem RA.df {A : Nat → Prop} {S : Nat → Nat → Int32} {w v : AW} (R : RA S w) (h : DF A w v) : RA S v := by
  unfold RA
  rw [RS_eq (w := w) (fun a i _ => h.wi a i)]
  exact R
theorem S_foretell {L : Nat} {xs : Nat → Int32} {S : Nat → Nat → Int32} {w : AW} (I : Inv L xs S w) (x1 x2 x3 : Int32) : STEP L xs w (F_A_foretell 16 x1 x2 x3) (F_M_foretell 271 x1 x2 x3) := by
  have T := I.1
  have hV := A_almanacOf T x1
  by_cases h1 : 0 ≤ x1.toInt ∧ x1.toInt ≤ 5
  · obtain ⟨a, rfl, ha⟩ := q_of h1.1 (n := 5) h1.2 (by omega)
    rw [if_pos h1, nat_nI (by omega)] at hV
    have ha6 : a < 6 := by omega
    have ta := tA T ha6
    by_cases h2 : 0 ≤ x2.toInt ∧ x2.toInt ≤ 1460
    · obtain ⟨n, rfl, hn⟩ := q_of h2.1 (n := 1460) h2.2 (by omega)
      have hn1 : n < 1461 := by omega
      by_cases h3 : -1 ≤ x3.toInt ∧ x3.toInt ≤ 1
      · have hx : wok x3 := by
          unfold wok
          have : x3.toInt = -1 ∨ x3.toInt = 0 ∨ x3.toInt = 1 := by omega
          rcases this with e | e | e
          · exact .inl (Int32.toInt.inj e)
          · exact .inr (.inl (Int32.toInt.inj e))
          · exact .inr (.inr (Int32.toInt.inj e))
        obtain ⟨w1, p1, p2, p3⟩ := A_put T I.2.2.2.2.2.2.2.2.2 I.2.2.2.2.2.2.2.2.1 ha6 hn1 hx
        have T1 := T.sh p2.sh
        have R1 := I.2.1.df p2
        have hr : ∀ r, r ≠ 6 → r ≠ 7 → uS S 7 (1461 * a + n) x3 r = S r := fun r _ h => uS_ne h
        refine ⟨S 7 (1461 * a + n), w1, _, uS S 7 (1461 * a + n) x3, ?_, T1, ?_, Inv.mq T1 (IM_alm hr I.2.2.1) (IA_alm I (fun b i _ => p2.wi b i) p2.sh (p2.wfs I.2.2.2.2.2.2.2.2.2) p3 hr) (AF.upI (a := 278) _ (1461 * a + n) x3 (by omega)) (R1.up 7 (1461 * a + n) x3 (by decide))⟩
        · unfold F_A_foretell
          simp (disch := omega) only [qL, ↓qM, t16 T, hV, A_day, A_wi, q_int, mI_toInt, ta.1, A_foretold T I.2.2.2.2.2.2.2.2.1 ha6 hn1, p1, gd_true, beq_self_eq_true, bd_s, if_true, if_false, ↓reduceIte, ite_true, ite_false, Bool.and_self, Bool.and_true, Bool.true_and, Nat.reduceBEq, Bool.or_true, Bool.true_or, Bool.or_self]
          rw [if_neg (by omega), if_neg (by omega), if_neg (by omega)]
        · unfold F_M_foretell
          simp (disch := omega) only [qL, ↓qM, M_alm, M_day, M_wi, qLJ, q_int, mK T1, mAlm T1, pk_mul, nI_add, q_inb, q_nat, ra7 R1, gd_true, beq_self_eq_true, bd_s, if_true, if_false, ↓reduceIte, ite_true, ite_false, Bool.and_self, Bool.and_true, Bool.true_and, Nat.reduceBEq, Bool.or_true, Bool.true_or, Bool.or_self]
          rw [if_neg (by omega), if_neg (by omega), if_neg (by omega)]
      · refine STEP.pure I (r := mI 102) ?_ ?_
        · unfold F_A_foretell
          simp (disch := omega) only [qL, ↓qM, t16 T, hV, A_day, A_wi, q_int, mI_toInt, gd_true, beq_self_eq_true, bd_s, if_true, if_false, ↓reduceIte, ite_true, ite_false, Bool.and_self, Bool.and_true, Bool.true_and, Nat.reduceBEq, Bool.or_true, Bool.true_or, Bool.or_self]
          rw [if_neg (by omega), if_neg (by omega), if_pos (by omega)]
        · unfold F_M_foretell
          simp (disch := omega) only [qL, ↓qM, M_alm, M_day, M_wi, qLJ, q_int]
          rw [if_neg (by omega), if_neg (by omega), if_pos (by omega)]
    · refine STEP.pure I (r := mI 101) ?_ ?_
      · unfold F_A_foretell
        simp (disch := omega) only [qL, ↓qM, t16 T, hV, A_day, gd_true, beq_self_eq_true, bd_s, if_true, if_false, ↓reduceIte, ite_true, ite_false, Bool.and_self, Bool.and_true, Bool.true_and, Nat.reduceBEq, Bool.or_true, Bool.true_or, Bool.or_self]
        rw [if_neg (by omega), if_pos (by omega)]
      · unfold F_M_foretell
        simp (disch := omega) only [qL, ↓qM, M_alm, M_day]
        rw [if_neg (by omega), if_pos (by omega)]
  · rw [if_neg h1] at hV
    refine STEP.pure I (r := mI 101) ?_ ?_
    · unfold F_A_foretell
      simp only [qL, ↓qM, t16 T, hV, gd_true, beq_self_eq_true, bd_s, if_true, if_false, ↓reduceIte, ite_true, ite_false, Bool.and_self, Bool.and_true, Bool.true_and, Nat.reduceBEq, Bool.or_true, Bool.true_or, Bool.or_self]
    · unfold F_M_foretell
      simp only [qL, ↓qM, M_alm]
      rw [if_pos h1]
