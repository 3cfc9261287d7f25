/-! PURE: the learner's choice -/
def QS (S : Nat → Nat → Int32) (v s a : Nat) (w0 w : AW) (b : Nat × Nat × Nat × Nat) : Prop := EF w0 w ∧ LT S v s a w ∧ BS S w (nI b.1) b.2.1 b.2.2.1 b.2.2.2 ∧ wi w 136 0 = wi w0 136 0
def mst (tr P : Nat → Bool) : Bool := decide (cnt P 1461 < 2 * cnt (fun n => P n && tr n) 1461)
def ron (tr P : Nat → Bool) (b : Bool) : Nat := if b = true then cnt (fun n => P n && tr n) 1461 else cnt P 1461 - cnt (fun n => P n && tr n) 1461
theorem ron_le (tr P : Nat → Bool) (b : Bool) : ron tr P b ≤ 1461 := by
  have h1 := cnt_le P 1461
  have h2 := cnt_le (fun n => P n && tr n) 1461
  unfold ron
  split <;> omega
/-- right on the days judged, behind the first entries -/
def jrR (tr D J : Nat → Bool) (tl : Nat → Nat → Bool) (l : Nat → Nat) : Nat → Nat
  | 0 => 0
  | i + 1 => jrR tr D J tl l i + ron tr (tdS J tl l i) (mst tr (tdS D tl l i))
theorem jrR_le (tr D J : Nat → Bool) (tl : Nat → Nat → Bool) (l : Nat → Nat) : ∀ i, jrR tr D J tl l i ≤ 1461 * i
  | 0 => by unfold jrR; omega
  | i + 1 => by
    have := jrR_le tr D J tl l i
    have := ron_le tr (tdS J tl l i) (mst tr (tdS D tl l i))
    unfold jrR; omega
section
variable {L : Nat} {xs : Nat → Int32} {S : Nat → Nat → Int32}
theorem A_mst {w : AW} (T : Top L xs w) (W : WFs w) {a : Nat} (ha : a ∈ DTab) {P tr : Nat → Bool} (hP : ∀ n, n < 1461 → gD w a n = P n) (ht : ∀ n, n < 1461 → gD w 142 n = tr n) : F_Le_isMostlyTrue w 136 a = some (nI (mst tr P).toNat) := by
  have m := A_mx T W ha hP ht
  have h1 := cnt_le P 1461
  have h2 := cnt_and_le P tr 1461
  unfold F_Le_isMostlyTrue mst
  simp (disch := omega) only [qL, ↓qM, t136 T, (tD T ha).1, m, pk_mul, q_le, gd_true, beq_self_eq_true, bd_s, if_true, if_false, ↓reduceIte, ite_true, ite_false, Bool.and_self, Bool.and_true, Bool.true_and, Nat.reduceBEq, Bool.or_true, Bool.true_or, Bool.or_self]
  by_cases h : 2 * cnt (fun n => P n && tr n) 1461 ≤ cnt P 1461
  · rw [if_pos h, decide_eq_false (by omega)]; rfl
  · rw [if_neg h, decide_eq_true (by omega)]; rfl
theorem A_ron {w : AW} (T : Top L xs w) (W : WFs w) {a : Nat} (ha : a ∈ DTab) {P tr : Nat → Bool} (hP : ∀ n, n < 1461 → gD w a n = P n) (ht : ∀ n, n < 1461 → gD w 142 n = tr n) (b : Bool) : F_Le_rightOn w 136 a (nI b.toNat) = some (nI (ron tr P b)) := by
  have m := A_mx T W ha hP ht
  have h2 := cnt_and_le P tr 1461
  unfold F_Le_rightOn ron
  simp only [qL, ↓qM, t136 T, (tD T ha).1, m, gd_true, beq_self_eq_true, bd_s, if_true, if_false, ↓reduceIte, ite_true, ite_false, Bool.and_self, Bool.and_true, Bool.true_and, Nat.reduceBEq, Bool.or_true, Bool.true_or, Bool.or_self]
  cases b
  · rw [if_pos (show nI false.toNat = nI 0 from rfl), pk_sub h2]; rfl
  · rw [if_neg (show ¬ nI true.toNat = nI 0 by decide +kernel)]; rfl
theorem A_try3 {w0 w : AW} (T0 : Top L xs w0) (W0 : WFs w0) (h8 : nS S ≤ 8) {v s a z x y : Nat} {b : Nat × Nat × Nat × Nat} (hb : bok b) (Q : QS S v s a w0 w b) (hz : z ≤ 2) (hx : 1 ≤ z → wi w 148 0 = nI x ∧ x < nS S) (hy : 2 ≤ z → wi w 148 1 = nI y ∧ y < nS S) : ∃ w', F_Le_tryList 136 (nI z) w = some w' ∧ QS S v s a w0 w' (tr3 S v s a z x y b) := by
  obtain ⟨w', p1, p2, p3, p4, p5, p6⟩ := A_try (T0.sh Q.1.1) (Q.1.2.2.2 W0) h8 Q.2.1 hz hx hy Q.2.2.1
  have hr := rgS_le S v s a z x y hz
  have hb1 := hb.1
  refine ⟨w', p1, Q.1.trans p2, p3, ?_, (p5 0 (by omega) (by omega)).trans Q.2.2.2⟩
  unfold tr3
  by_cases h : rgS S v s a z x y ≤ b.1
  · rw [if_pos h]
    rw [if_pos (show nI (rgS S v s a z x y) ≤ nI b.1 by rw [q_le (by omega) (by omega)]; exact h)] at p6
    exact p6
  · rw [if_neg h]
    rw [if_neg (show ¬ nI (rgS S v s a z x y) ≤ nI b.1 by rw [q_le (by omega) (by omega)]; exact h)] at p6
    exact p6
/-- the first list, the empty one, is taken whatever stood there -/
theorem A_try0 {w : AW} (T : Top L xs w) (W : WFs w) (h8 : nS S ≤ 8) {v s a : Nat} (hL : LT S v s a w) (hc : wi w 136 1 = mI 1) : ∃ w', F_Le_tryList 136 (nI 0) w = some w' ∧ EF w w' ∧ LT S v s a w' ∧ (∀ i, wi w' 148 i = wi w 148 i) ∧ (∀ i, i ≠ 1 → i ≠ 11 → wi w' 136 i = wi w 136 i) ∧ BS S w' (nI (rgS S v s a 0 0 0)) 0 0 0 := by
  obtain ⟨i138, i140, i142, i144, i146⟩ := Ln_in
  obtain ⟨w0, p0, d0, g0⟩ := X_take (tD T i144) (tD T i138) (W _ i138)
  have T1 := T.sh d0.sh
  have W1 := d0.wfs W
  have hL1 : LT S v s a w0 := hL.same (fun q h1 h2 n => d0.g (by omega) n)
  have m := A_mx T1 W1 i144 (P := lrn S v s a) (tr := tru S v s) (fun n hn => by rw [g0 n hn, hL.2.2.1 n hn]) hL1.2.1
  have hr := rgS_le S v s a 0 0 0 (by omega)
  have er : rgS S v s a 0 0 0 = 0 + mxR (tru S v s) (lrn S v s a) := rfl
  have e77 : F_Le_tryList 136 (nI 0) w = some (cpI (upI (upI w0 136 1 (nI (rgS S v s a 0 0 0))) 136 11 (nI 0)) 148 149 0 0 2) := by
    unfold F_Le_tryList
    simp only [qL, ↓qM, t136 T, (tD T i144).1, p0, gd_true, beq_self_eq_true, bd_s, if_true, if_false, ↓reduceIte, ite_true, ite_false, Bool.and_self, Bool.and_true, Bool.true_and, Nat.reduceBEq, Bool.or_true, Bool.true_or, Bool.or_self]
    show F_Le_tryList_15_B (F_Le_tryList_15 999999) _ _ _ _ w0 = _
    unfold F_Le_tryList_15_B F_Le_tryList_77
    have ec : cpok (nI 0) (nI 0) (nI 2) 2 2 = true := by decide +kernel
    have hle : ¬ nI (rgS S v s a 0 0 0) ≤ mI 1 := by
      rw [Int32.le_iff_toInt_le, q_int (by omega), mI_toInt (by omega)]; omega
    rw [er] at hle ⊢
    simp (disch := omega) only [qL, ↓qM, q_le, t136 T1, (tD T1 i144).1, m, nI_add, d0.wi, hc, wk_upI, wn_upI, wr_upI, ec, q_nat, gd_true, beq_self_eq_true, bd_s, if_true, if_false, ↓reduceIte, ite_true, ite_false, Bool.and_self, Bool.and_true, Bool.true_and, Nat.reduceBEq, Bool.or_true, Bool.true_or, Bool.or_self]
    rw [if_pos (by omega), if_neg hle]
  have f1 := EF.upI w0 1 (nI (rgS S v s a 0 0 0)) (a := 136) (.inl rfl)
  have f2 := EF.upI (upI w0 136 1 (nI (rgS S v s a 0 0 0))) 11 (nI 0) (a := 136) (.inl rfl)
  have f3 := EF.cp (upI (upI w0 136 1 (nI (rgS S v s a 0 0 0))) 136 11 (nI 0))
  refine ⟨_, e77, (EF.df d0 (fun q h => by omega)).trans ((f1.trans f2).trans f3), hL1.same (fun q _ _ n => gD_j (fun _ _ => rfl) q n), fun j => ?_, fun j h1 h11 => ?_, ?_, ?_, by omega, fun h => by omega, fun h => by omega⟩
  · rw [wi_cpI, if_neg (by omega), wi_upI, if_neg (by omega), wi_upI, if_neg (by omega), d0.wi]
  · rw [wi_cpI, if_neg (by omega), wi_upI, if_neg (by omega), wi_upI, if_neg (by omega), d0.wi]
  · rw [wi_cpI, if_neg (by omega), wi_upI, if_neg (by omega), wi_upI, if_pos ⟨rfl, rfl⟩]
  · rw [wi_cpI, if_neg (by omega), wi_upI, if_pos ⟨rfl, rfl⟩]
theorem QS.up {v s a : Nat} {w0 w : AW} {b : Nat × Nat × Nat × Nat} (Q : QS S v s a w0 w b) (i : Nat) (x : Int32) : QS S v s a w0 (upI w 148 i x) b :=
  ⟨Q.1.trans (EF.upI w i x (.inr (by omega))), Q.2.1.same (fun q _ _ n => gD_j (fun _ _ => rfl) q n), by
    obtain ⟨b1, b2, b3, b4, b5⟩ := Q.2.2.1
    refine ⟨by rw [wi_upI, if_neg (by omega)]; exact b1, by rw [wi_upI, if_neg (by omega)]; exact b2, b3, fun h => ?_, fun h => ?_⟩
    · rw [wi_upI, if_neg (by omega)]; exact b4 h
    · rw [wi_upI, if_neg (by omega)]; exact b5 h, by rw [wi_upI, if_neg (by omega)]; exact Q.2.2.2⟩
theorem A_choose1 {w0 : AW} (T0 : Top L xs w0) (W0 : WFs w0) (h8 : nS S ≤ 8) {v s a sz : Nat} (h1 : 1 ≤ sz) (h2 : sz ≤ 2) : ∀ k fu i (w : AW), QS S v s a w0 w (ch1 S v s a i) → i + k = nS S → k < fu → ∃ w', F_Le_choose_12 fu 136 (nI (nS S)) (nI sz) (nI i) w = F_Le_choose_42 FUEL 136 (nI (nS S)) (nI sz) (nI 0) w' ∧ QS S v s a w0 w' (ch1 S v s a (nS S)) := by
  intro k
  induction k with
  | zero =>
    intro fu i w Q hi hf
    obtain ⟨fu, rfl⟩ : ∃ m, fu = m + 1 := ⟨fu - 1, by omega⟩
    obtain rfl : i = nS S := by omega
    refine ⟨w, ?_, Q⟩
    show F_Le_choose_12_B (F_Le_choose_12 fu) _ _ _ _ w = _
    unfold F_Le_choose_12_B
    simp (disch := omega) only [qL, ↓qM, q_lt, q_le]
    rw [if_neg (by omega), if_pos (Nat.le_refl _)]
  | succ k ih =>
    intro fu i w Q hi hf
    obtain ⟨fu, rfl⟩ : ∃ m, fu = m + 1 := ⟨fu - 1, by omega⟩
    have T := T0.sh Q.1.1
    obtain ⟨w1, p1, Q1⟩ := A_try3 T0 W0 h8 (ch1_ok S v s a i) (Q.up 0 (nI i)) (z := 1) (x := i) (y := 0) (by omega) (fun _ => ⟨by rw [wi_upI, if_pos ⟨rfl, rfl⟩], by omega⟩) (fun h => by omega)
    obtain ⟨w', q1, q2⟩ := ih fu (i + 1) w1 Q1 (by omega) (by omega)
    refine ⟨w', ?_, q2⟩
    show F_Le_choose_12_B (F_Le_choose_12 fu) _ _ _ _ w = _
    unfold F_Le_choose_12_B
    simp (disch := omega) only [qL, ↓qM, q_lt, q_le, t136 T, q_inb, q_nat, p1, nI_add, gd_true, beq_self_eq_true, bd_s, if_true, if_false, ↓reduceIte, ite_true, ite_false, Bool.and_self, Bool.and_true, Bool.true_and, Nat.reduceBEq, Bool.or_true, Bool.true_or, Bool.or_self]
    rw [if_neg (by omega), if_neg (by omega)]
    exact q1
theorem A_choose2 {w0 : AW} (T0 : Top L xs w0) (W0 : WFs w0) (h8 : nS S ≤ 8) {v s a x : Nat} (hx : x < nS S) (rec42 : Nat → Int32 → Int32 → Int32 → AW → Option AW) {b : Nat × Nat × Nat × Nat} (hb : bok b) : ∀ k fu j (w : AW), QS S v s a w0 w (ch2 S v s a x b j) → j + k = nS S → k < fu → ∃ w', F_Le_choose_55 rec42 fu 136 (nI (nS S)) (nI 2) (nI x) (nI j) w = rec42 136 (nI (nS S)) (nI 2) (nI (x + 1)) w' ∧ QS S v s a w0 w' (ch2 S v s a x b (nS S)) := by
  intro k
  induction k with
  | zero =>
    intro fu j w Q hi hf
    obtain ⟨fu, rfl⟩ : ∃ m, fu = m + 1 := ⟨fu - 1, by omega⟩
    obtain rfl : j = nS S := by omega
    refine ⟨w, ?_, Q⟩
    show F_Le_choose_55_B rec42 (F_Le_choose_55 rec42 fu) _ _ _ _ _ w = _
    unfold F_Le_choose_55_B
    simp (disch := omega) only [qL, ↓qM, q_le, nI_add]
    rw [if_pos (Nat.le_refl _)]
  | succ k ih =>
    intro fu j w Q hi hf
    obtain ⟨fu, rfl⟩ : ∃ m, fu = m + 1 := ⟨fu - 1, by omega⟩
    have T := T0.sh Q.1.1
    have Q0 := (Q.up 0 (nI x)).up 1 (nI j)
    show ∃ w', F_Le_choose_55_B rec42 (F_Le_choose_55 rec42 fu) 136 (nI (nS S)) (nI 2) (nI x) (nI j) w = _ ∧ _
    unfold F_Le_choose_55_B
    simp (disch := omega) only [qL, ↓qM, q_le, q_eq, t136 T, q_inb, q_nat, wk_upI, wn_upI, wr_upI, nI_add, gd_true, beq_self_eq_true, bd_s, if_true, if_false, ↓reduceIte, ite_true, ite_false, Bool.and_self, Bool.and_true, Bool.true_and, Nat.reduceBEq, Bool.or_true, Bool.true_or, Bool.or_self]
    rw [if_neg (by omega)]
    by_cases hjx : j = x
    · rw [if_pos hjx]
      have e : ch2 S v s a x b (j + 1) = ch2 S v s a x b j := by
        show ite _ _ _ = _
        rw [if_pos hjx]
      exact ih fu (j + 1) _ (by rw [e]; exact Q0) (by omega) (by omega)
    · rw [if_neg hjx]
      have e : ch2 S v s a x b (j + 1) = tr3 S v s a 2 x j (ch2 S v s a x b j) := by
        show ite _ _ _ = _
        rw [if_neg hjx]
      obtain ⟨w1, p1, Q1⟩ := A_try3 T0 W0 h8 (ch2_ok hb j) Q0 (z := 2) (x := x) (y := j) (by omega) (fun _ => ⟨by rw [wi_upI, if_neg (by omega), wi_upI, if_pos ⟨rfl, rfl⟩], hx⟩) (fun _ => ⟨by rw [wi_upI, if_pos ⟨rfl, rfl⟩], by omega⟩)
      rw [p1, bd_s]
      exact ih fu (j + 1) w1 (by rw [e]; exact Q1) (by omega) (by omega)
theorem A_choose3 {w0 : AW} (T0 : Top L xs w0) (W0 : WFs w0) (h8 : nS S ≤ 8) {v s a : Nat} : ∀ k fu i (w : AW), QS S v s a w0 w (ch3 S v s a i) → i + k = nS S → k < fu → ∃ w', F_Le_choose_42 fu 136 (nI (nS S)) (nI 2) (nI i) w = F_Le_choose_99 136 w' ∧ QS S v s a w0 w' (ch3 S v s a (nS S)) := by
  intro k
  induction k with
  | zero =>
    intro fu i w Q hi hf
    obtain ⟨fu, rfl⟩ : ∃ m, fu = m + 1 := ⟨fu - 1, by omega⟩
    obtain rfl : i = nS S := by omega
    refine ⟨w, ?_, Q⟩
    show F_Le_choose_42_B (F_Le_choose_42 fu) _ _ _ _ w = _
    unfold F_Le_choose_42_B
    simp (disch := omega) only [qL, ↓qM, q_lt, q_le]
    rw [if_neg (by omega), if_pos (Nat.le_refl _)]
  | succ k ih =>
    intro fu i w Q hi hf
    obtain ⟨fu, rfl⟩ : ∃ m, fu = m + 1 := ⟨fu - 1, by omega⟩
    obtain ⟨w1, p1, Q1⟩ := A_choose2 T0 W0 h8 (show i < nS S by omega) (F_Le_choose_42 fu) (ch3_ok S v s a i) (nS S) FUEL 0 w Q (by omega) (Nat.lt_of_le_of_lt h8 (by decide))
    obtain ⟨w', q1, q2⟩ := ih fu (i + 1) w1 Q1 (by omega) (by omega)
    refine ⟨w', ?_, q2⟩
    show F_Le_choose_42_B (F_Le_choose_42 fu) _ _ _ _ w = _
    unfold F_Le_choose_42_B
    simp (disch := omega) only [qL, ↓qM, q_lt, q_le]
    rw [if_neg (by omega), if_neg (by omega)]
    exact p1.trans q1
theorem A_choose {w0 : AW} (T0 : Top L xs w0) (W0 : WFs w0) (h8 : nS S ≤ 8) {v s a sz : Nat} (hsz : sz ≤ 2) (hL : LT S v s a w0) : ∃ w', F_Le_choose 136 (nI (nS S)) (nI sz) w0 = F_Le_choose_99 136 w' ∧ QS S v s a w0 w' (chF S v s a sz) := by
  have f1 : EF w0 (upI w0 136 1 (mI 1)) := EF.upI w0 1 (mI 1) (.inl rfl)
  have T1 := T0.sh f1.1
  have W1 := f1.2.2.2 W0
  -- the empty list
  have key : ∃ w1, F_Le_tryList 136 (nI 0) (upI w0 136 1 (mI 1)) = some w1 ∧ QS S v s a w0 w1 (ch1 S v s a 0) := by
    obtain ⟨w', p1, p2, p3, p4, p5, p6⟩ := A_try0 T1 W1 h8 (hL.same (fun q _ _ n => gD_j (fun _ _ => rfl) q n)) (by rw [wi_upI, if_pos ⟨rfl, rfl⟩])
    exact ⟨w', p1, f1.trans p2, p3, p6, (p5 0 (by omega) (by omega)).trans (by rw [wi_upI, if_neg (by omega)])⟩
  obtain ⟨w1, p1, Q1⟩ := key
  have hA : F_Le_choose 136 (nI (nS S)) (nI sz) w0 = F_Le_choose_12 FUEL 136 (nI (nS S)) (nI sz) (nI 0) w1 := by
    unfold F_Le_choose
    simp only [qL, ↓qM, t136 T0, p1, gd_true, beq_self_eq_true, bd_s, if_true, if_false, ↓reduceIte, ite_true, ite_false, Bool.and_self, Bool.and_true, Bool.true_and, Nat.reduceBEq, Bool.or_true, Bool.true_or, Bool.or_self]
  rw [hA]
  have e : sz = 0 ∨ sz = 1 ∨ sz = 2 := by omega
  rcases e with e | e | e <;> subst e
  · refine ⟨w1, ?_, Q1⟩
    show F_Le_choose_12_B (F_Le_choose_12 999999) _ _ _ _ w1 = _
    unfold F_Le_choose_12_B
    simp (disch := omega) only [qL, ↓qM, q_lt]
    rw [if_pos (by omega)]
    show F_Le_choose_42_B (F_Le_choose_42 999999) _ _ _ _ w1 = _
    unfold F_Le_choose_42_B
    simp (disch := omega) only [qL, ↓qM, q_lt]
    rw [if_pos (by omega)]
  · obtain ⟨w', q1, q2⟩ := A_choose1 T0 W0 h8 (sz := 1) (by omega) (by omega) (nS S) FUEL 0 w1 Q1 (by omega) (Nat.lt_of_le_of_lt h8 (by decide))
    refine ⟨w', q1.trans ?_, q2⟩
    show F_Le_choose_42_B (F_Le_choose_42 999999) _ _ _ _ w' = _
    unfold F_Le_choose_42_B
    simp (disch := omega) only [qL, ↓qM, q_lt]
    rw [if_pos (by omega)]
  · obtain ⟨w', q1, q2⟩ := A_choose1 T0 W0 h8 (sz := 2) (by omega) (by omega) (nS S) FUEL 0 w1 Q1 (by omega) (Nat.lt_of_le_of_lt h8 (by decide))
    obtain ⟨w2, r1, r2⟩ := A_choose3 T0 W0 h8 (nS S) FUEL 0 w' q2 (by omega) (Nat.lt_of_le_of_lt h8 (by decide))
    exact ⟨w2, q1.trans r1, r2⟩
end
