/-! PURE: copy -/
/-- the word that a day is given -/
def cpv (S : Nat → Nat → Int32) (c st t : Nat) : Int32 := if S 7 (c + t) = mI 1 then mI 1 else if (t + 1) % st = 0 then nI 1 - S 7 (c + t) else S 7 (c + t)
/-- how many are told -/
def cpn (S : Nat → Nat → Int32) (c st : Nat) : Nat → Int32
  | 0 => nI 0
  | t + 1 => if cpv S c st t = mI 1 then cpn S c st t else cpn S c st t + nI 1
theorem cpv_ok {S : Nat → Nat → Int32} {c st t : Nat} (h : wok (S 7 (c + t))) : wok (cpv S c st t) := by
  unfold cpv
  rcases h with e | e | e <;> rw [e]
  · exact .inl rfl
  · split
    · exact .inl rfl
    · split
      · exact .inr (.inr rfl)
      · exact .inr (.inl rfl)
  · split
    · exact .inl rfl
    · split
      · exact .inr (.inl rfl)
      · exact .inr (.inr rfl)
theorem AlA.ok {S : Nat → Nat → Int32} {w : AW} (A : AlA S w) {a n : Nat} (ha : a < 6) (hn : n < 1461) : wok (S 7 (1461 * a + n)) := by
  rw [(A a ha).2 n hn]; exact wvl_ok _ _
theorem mod_s {t st : Nat} (h : 0 < st) : ((t + 1) % st = 0 ↔ t % st + 1 = st) ∧ (t % st + 1 ≠ st → (t + 1) % st = t % st + 1) := by
  have h1 := Nat.mod_lt t h
  have h2 := Nat.mod_lt (t + 1) h
  have e1 := Nat.div_add_mod t st
  have key : (t + 1) % st = (t % st + 1) % st := by rw [Nat.mod_add_mod]
  by_cases h3 : t % st + 1 = st
  · refine ⟨⟨fun _ => h3, fun _ => by rw [key, h3, Nat.mod_self]⟩, fun q => absurd h3 q⟩
  · have e : (t + 1) % st = t % st + 1 := by rw [key, Nat.mod_eq_of_lt (by omega)]
    exact ⟨⟨fun q => by omega, fun q => absurd q h3⟩, fun _ => e⟩
theorem A_copy_52 {L : Nat} {xs : Nat → Int32} {u : AW} (T : Top L xs u) (rec9 : Nat → Nat → Int32 → Int32 → Int32 → Int32 → Int32 → AW → Option (Int32 × AW)) {a n : Nat} (a1 : Nat) (X3 X4 x5 x6 v : Int32) {w1 : AW} (ha : a < 6) (p1 : F_Al_put (241 + 5 * a) (nI n) v u = some w1) : F_Al_copyDays_52 rec9 (241 + 5 * a) a1 X3 X4 x5 x6 (nI n) v u = rec9 (241 + 5 * a) a1 X3 X4 (if v = mI 1 then x5 else x5 + nI 1) x6 (nI (n + 1)) w1 := by
  unfold F_Al_copyDays_52
  simp only [qL, ↓qM, (tA T ha).1, p1, nI_add, gd_true, beq_self_eq_true, bd_s, if_true, if_false, ↓reduceIte, ite_true, ite_false, Bool.and_self, Bool.and_true, Bool.true_and, Nat.reduceBEq, Bool.or_true, Bool.true_or, Bool.or_self]
  split <;> rfl
theorem A_copy_in {L : Nat} {xs : Nat → Int32} {w : AW} (T : Top L xs w) (W : WFs w) {S : Nat → Nat → Int32} (A : AlA S w) {a b from' till st : Nat} (ha : a < 6) (hb : b < 6) (hab : a ≠ b) (h1 : from' ≤ till) (h2 : till ≤ 1461) (hs : 1 ≤ st) (hs2 : st ≤ 400) : ∃ w', F_Al_copyDays (241 + 5 * a) (241 + 5 * b) (nI from') (nI till) (nI st) w = some (cpn S (1461 * b + from') st (till - from'), w') ∧ DF (alA a) w w' ∧ AlA (gS S (1461 * a + from') (cpv S (1461 * b + from') st) (till - from')) w' := by
  have loop : ∀ j fu t (u : AW), Top L xs u → WFs u → from' + t + j = till → j < fu → AlA (gS S (1461 * a + from') (cpv S (1461 * b + from') st) t) u → ∃ w', F_Al_copyDays_9 fu (241 + 5 * a) (241 + 5 * b) (nI till) (nI st) (cpn S (1461 * b + from') st t) (nI (t % st)) (nI (from' + t)) u = some (cpn S (1461 * b + from') st (till - from'), w') ∧ DF (alA a) u w' ∧ AlA (gS S (1461 * a + from') (cpv S (1461 * b + from') st) (till - from')) w' := by
    intro j
    induction j with
    | zero =>
      intro fu t u T W ht hf A
      obtain ⟨fu, rfl⟩ : ∃ m, fu = m + 1 := ⟨fu - 1, by omega⟩
      obtain rfl : t = till - from' := by omega
      refine ⟨u, ?_, DF.refl _ _, A⟩
      show F_Al_copyDays_9_B (F_Al_copyDays_9 fu) _ _ _ _ _ _ _ u = _
      unfold F_Al_copyDays_9_B
      simp (disch := omega) only [q_le]
      rw [if_pos (by omega)]
    | succ j ih =>
      intro fu t u T W ht hf A
      obtain ⟨fu, rfl⟩ : ∃ m, fu = m + 1 := ⟨fu - 1, by omega⟩
      have hc : gS S (1461 * a + from') (cpv S (1461 * b + from') st) t 7 (1461 * b + (from' + t)) = S 7 (1461 * b + from' + t) := by
        rw [gS_out (by omega), Nat.add_assoc]
      have hok : wok (S 7 (1461 * b + from' + t)) := by
        rw [← hc]; exact A.ok hb (by omega)
      obtain ⟨w1, p1, p2, p3⟩ := A_put T W A ha (show from' + t < 1461 by omega) (cpv_ok (st := st) hok)
      rw [show 1461 * a + (from' + t) = 1461 * a + from' + t by omega, ← gS_s] at p3
      obtain ⟨w2, q1, q2, q3⟩ := ih fu (t + 1) w1 (T.sh p2.sh) (p2.wfs W) (by omega) (by omega) p3
      refine ⟨w2, ?_, p2.trans q2, q3⟩
      have hl := Nat.mod_lt t (show 0 < st by omega)
      have hms := mod_s (t := t) (show 0 < st by omega)
      have e52 := fun x6 => A_copy_52 T (F_Al_copyDays_9 fu) (241 + 5 * b) (nI till) (nI st) (cpn S (1461 * b + from') st t) x6 (cpv S (1461 * b + from') st t) ha p1
      show F_Al_copyDays_9_B (F_Al_copyDays_9 fu) _ _ _ _ _ _ _ u = _
      unfold F_Al_copyDays_9_B
      simp (disch := omega) only [qL, ↓qM, q_le, q_eq, nI_add, (tA T hb).1, A_foretold T A hb (show from' + t < 1461 by omega), hc, gd_true, beq_self_eq_true, bd_s, if_true, if_false, ↓reduceIte, ite_true, ite_false, Bool.and_self, Bool.and_true, Bool.true_and, Nat.reduceBEq, Bool.or_true, Bool.true_or, Bool.or_self]
      rw [if_neg (by omega)]
      have q1' : F_Al_copyDays_9 fu (241 + 5 * a) (241 + 5 * b) (nI till) (nI st) (if cpv S (1461 * b + from') st t = mI 1 then cpn S (1461 * b + from') st t else cpn S (1461 * b + from') st t + nI 1) (nI ((t + 1) % st)) (nI (from' + t + 1)) w1 = some (cpn S (1461 * b + from') st (till - from'), w2) := q1
      by_cases hz : t % st + 1 = st
      · rw [if_pos hz]
        have h0 := hms.1.mpr hz
        rw [h0] at q1'
        by_cases hm : S 7 (1461 * b + from' + t) = mI 1
        · rw [if_pos hm]
          have ev : cpv S (1461 * b + from') st t = mI 1 := by unfold cpv; rw [if_pos hm]
          rw [ev] at e52 q1'
          rw [e52]; exact q1'
        · rw [if_neg hm]
          have ev : cpv S (1461 * b + from') st t = nI 1 - S 7 (1461 * b + from' + t) := by unfold cpv; rw [if_neg hm, if_pos h0]
          rw [ev] at e52 q1'
          rw [e52]; exact q1'
      · rw [if_neg hz]
        have h0 : ¬ (t + 1) % st = 0 := fun q => hz (hms.1.mp q)
        rw [hms.2 hz] at q1'
        have ev : cpv S (1461 * b + from') st t = S 7 (1461 * b + from' + t) := by
          unfold cpv
          rw [if_neg h0]
          split
          · rename_i h; exact h.symm
          · rfl
        rw [ev] at e52 q1'
        rw [e52]; exact q1'
  have := loop (till - from') FUEL 0 w T W (by omega) (Nat.lt_of_le_of_lt (by omega : till - from' ≤ 1461) (by decide)) (by rw [gS_0]; exact A)
  rw [Nat.add_zero, Nat.zero_mod] at this
  exact this
theorem M_copy_118 {L : Nat} {xs : Nat → Int32} {u : AW} (T : Top L xs u) (rec65 : Nat → Int32 → Int32 → Int32 → Int32 → Int32 → Int32 → Int32 → AW → Option (Int32 × AW)) {a n : Nat} (X2 X3 X4 x5 X6 v : Int32) (ha : a < 6) (hn : n < 1461) : F_M_copy_118 rec65 271 (nI a) X2 X3 X4 x5 X6 (nI n) v u = rec65 271 (nI a) X2 X3 X4 (if v = mI 1 then x5 else x5 + nI 1) X6 (nI (n + 1)) (upI u 278 (1461 * a + n) v) := by
  unfold F_M_copy_118
  simp (disch := omega) only [qL, ↓qM, mK T, mAlm T, pk_mul, nI_add, q_inb, q_nat, gd_true, beq_self_eq_true, bd_s, if_true, if_false, ↓reduceIte, ite_true, ite_false, Bool.and_self, Bool.and_true, Bool.true_and, Nat.reduceBEq, Bool.or_true, Bool.true_or, Bool.or_self]
  rw [show nI 0 = (0 : Int32) from rfl, Int32.add_zero]
  split <;> rfl
theorem M_copy_in {L : Nat} {xs : Nat → Int32} {w : AW} (T : Top L xs w) {S : Nat → Nat → Int32} (R : RA S w) (I : IMf S) {a b y st : Nat} (ha : a < 6) (hb : b < 6) (hab : a ≠ b) (hy : y < 4) (hs : 1 ≤ st) (hs2 : st ≤ 400) : ∃ w', F_M_copy 271 (nI a) (nI b) (nI y) (nI st) w = some (cpn S (1461 * b + yst (sF S) y) st (yst (sF S) (y + 1) - yst (sF S) y), w') ∧ AF w w' ∧ RA (gS S (1461 * a + yst (sF S) y) (cpv S (1461 * b + yst (sF S) y) st) (yst (sF S) (y + 1) - yst (sF S) y)) w' := by
  have hm := yst_mono (sF S) (show y ≤ y + 1 by omega)
  have hm2 := yst_mono (sF S) (show y + 1 ≤ 4 by omega)
  have hm3 := yst_4 _ I.2
  generalize hfrom : yst (sF S) y = from' at *
  generalize htill : yst (sF S) (y + 1) = till at *
  have loop : ∀ j fu t (u : AW), Top L xs u → from' + t + j = till → j < fu → RA (gS S (1461 * a + from') (cpv S (1461 * b + from') st) t) u → ∃ w', F_M_copy_65 fu 271 (nI a) (nI b) (nI y) (nI st) (cpn S (1461 * b + from') st t) (nI from') (nI (from' + t)) u = some (cpn S (1461 * b + from') st (till - from'), w') ∧ AF u w' ∧ RA (gS S (1461 * a + from') (cpv S (1461 * b + from') st) (till - from')) w' := by
    intro j
    induction j with
    | zero =>
      intro fu t u T ht hf R
      obtain ⟨fu, rfl⟩ : ∃ m, fu = m + 1 := ⟨fu - 1, by omega⟩
      obtain rfl : t = till - from' := by omega
      refine ⟨u, ?_, AF.refl _, R⟩
      show F_M_copy_65_B (F_M_copy_65 fu) _ _ _ _ _ _ _ _ u = _
      unfold F_M_copy_65_B
      rw [M_yearEnd T R (IMf_gS I) hy, sF_gS, htill]
      simp (disch := omega) only [mK T, q_le, gd_true, beq_self_eq_true, bd_s, if_true, if_false, ↓reduceIte, ite_true, ite_false, Bool.and_self, Bool.and_true, Bool.true_and, Nat.reduceBEq, Bool.or_true, Bool.true_or, Bool.or_self]
      rw [if_pos (by omega)]
    | succ j ih =>
      intro fu t u T ht hf R
      obtain ⟨fu, rfl⟩ : ∃ m, fu = m + 1 := ⟨fu - 1, by omega⟩
      have hc : gS S (1461 * a + from') (cpv S (1461 * b + from') st) t 7 (1461 * b + (from' + t)) = S 7 (1461 * b + from' + t) := by
        rw [gS_out (by omega), Nat.add_assoc]
      have R2 := R.up 7 (1461 * a + from' + t) (cpv S (1461 * b + from') st t) (by decide)
      rw [← gS_s] at R2
      have A1 : AF u (upI u (271 + 7) (1461 * a + from' + t) (cpv S (1461 * b + from') st t)) := AF.upI u _ _ (by omega)
      obtain ⟨w', q1, q2, q3⟩ := ih fu (t + 1) _ (T.sh A1.sh) (by omega) (by omega) R2
      refine ⟨w', ?_, A1.trans q2, q3⟩
      have q1' : F_M_copy_65 fu 271 (nI a) (nI b) (nI y) (nI st) (if cpv S (1461 * b + from') st t = mI 1 then cpn S (1461 * b + from') st t else cpn S (1461 * b + from') st t + nI 1) (nI from') (nI (from' + t + 1)) (upI u (271 + 7) (1461 * a + from' + t) (cpv S (1461 * b + from') st t)) = some (cpn S (1461 * b + from') st (till - from'), w') := q1
      have e118 := fun v => M_copy_118 T (F_M_copy_65 fu) (nI b) (nI y) (nI st) (cpn S (1461 * b + from') st t) (nI from') v ha (show from' + t < 1461 by omega)
      show F_M_copy_65_B (F_M_copy_65 fu) _ _ _ _ _ _ _ _ u = _
      unfold F_M_copy_65_B
      rw [M_yearEnd T R (IMf_gS I) hy, sF_gS, htill]
      have est : decide (¬ nI st = (0 : Int32)) = true := decide_eq_true (by show ¬ nI st = nI 0; rw [q_eq (by omega) (by omega)]; omega)
      have hml := Nat.mod_lt (t + 1) (show 0 < st by omega)
      rw [est]
      simp (disch := omega) only [qL, ↓qM, mK T, mAlm T, q_le, q_eq, pk_mul, pk_sub, nI_add, q_inb, q_nat, q_rem, ra7 R, hc, e118, gd_true, beq_self_eq_true, bd_s, if_true, if_false, ↓reduceIte, ite_true, ite_false, Bool.and_self, Bool.and_true, Bool.true_and, Nat.reduceBEq, Bool.or_true, Bool.true_or, Bool.or_self]
      rw [if_neg (by omega), show from' + t - from' + 1 = t + 1 by omega, ← Nat.add_assoc (1461 * a) from' t]
      by_cases hm : S 7 (1461 * b + from' + t) = mI 1
      · rw [if_pos hm, ← hm]
        have ev : cpv S (1461 * b + from') st t = mI 1 := by unfold cpv; rw [if_pos hm]
        rw [ev, ← hm] at q1'
        exact q1'
      · rw [if_neg hm]
        by_cases h0 : (t + 1) % st = 0
        · rw [if_pos (show nI ((t + 1) % st) = nI 0 by rw [h0])]
          have ev : cpv S (1461 * b + from') st t = nI 1 - S 7 (1461 * b + from' + t) := by unfold cpv; rw [if_neg hm, if_pos h0]
          rw [ev] at q1'
          exact q1'
        · rw [if_neg (show ¬ nI ((t + 1) % st) = nI 0 by rw [q_eq (by omega) (by omega)]; exact h0)]
          have ev : cpv S (1461 * b + from') st t = S 7 (1461 * b + from' + t) := by unfold cpv; rw [if_neg hm, if_neg h0]
          rw [ev] at q1'
          exact q1'
  obtain ⟨w', o1, o2, o3⟩ := loop (till - from') FUEL 0 w T (by omega) (Nat.lt_of_le_of_lt (by omega : till - from' ≤ 1461) (by decide)) (by rw [gS_0]; exact R)
  refine ⟨w', ?_, o2, o3⟩
  unfold F_M_copy
  simp (disch := omega) only [qL, ↓qM, M_alm, M_wi, qLJ, q_int, q_eq, mK T, M_begin T R I, bg_1, hfrom, gd_true, beq_self_eq_true, bd_s, if_true, if_false, ↓reduceIte, ite_true, ite_false, Bool.and_self, Bool.and_true, Bool.true_and, Nat.reduceBEq, Bool.or_true, Bool.true_or, Bool.or_self]
  rw [if_neg (by omega), if_neg (by omega), if_neg (by omega), if_neg (by omega), if_neg (by omega)]
  exact o1
theorem S_copy {L : Nat} {xs : Nat → Int32} {S : Nat → Nat → Int32} {w : AW} (I : Inv L xs S w) (x1 x2 x3 x4 : Int32) : STEP L xs w (F_A_copy 16 x1 x2 x3 x4) (F_M_copy 271 x1 x2 x3 x4) := by
  have T := I.1
  have C := I.2.2.2.1.cf I.2.2.1.1
  have hV := A_almanacOf T x1
  have hV2 := A_almanacOf T x2
  by_cases h1 : 0 ≤ x1.toInt ∧ x1.toInt ≤ 5
  · obtain ⟨a, rfl, ha⟩ := q_of h1.1 (n := 5) h1.2 (by omega)
    rw [if_pos h1, nat_nI (by omega)] at hV
    have ha6 : a < 6 := by omega
    have ta := tA T ha6
    by_cases h2 : 0 ≤ x2.toInt ∧ x2.toInt ≤ 5
    · obtain ⟨b, rfl, hb⟩ := q_of h2.1 (n := 5) h2.2 (by omega)
      rw [if_pos h2, nat_nI (by omega)] at hV2
      by_cases h3 : 0 ≤ x3.toInt ∧ x3.toInt ≤ 3
      · obtain ⟨y, rfl, hy⟩ := q_of h3.1 (n := 3) h3.2 (by omega)
        by_cases h4 : 1 ≤ x4.toInt ∧ x4.toInt ≤ 400
        · obtain ⟨st, rfl, hst⟩ := q_of (x := x4) (by omega) (n := 400) h4.2 (by omega)
          rw [q_int (by omega)] at h4
          by_cases hab : a = b
          · refine STEP.pure I (r := mI 102) ?_ ?_
            · unfold F_A_copy
              simp (disch := omega) only [qL, ↓qM, t16 T, hV, hV2, A_year, A_wi, q_int, q_eq, gd_true, beq_self_eq_true, bd_s, if_true, if_false, ↓reduceIte, ite_true, ite_false, Bool.and_self, Bool.and_true, Bool.true_and, Nat.reduceBEq, Bool.or_true, Bool.true_or, Bool.or_self]
              rw [if_neg (by omega), if_neg (by omega), if_neg (by omega), if_neg (by omega), if_pos hab]
            · unfold F_M_copy
              simp (disch := omega) only [qL, ↓qM, M_alm, M_wi, qLJ, q_int, q_eq]
              rw [if_neg (by omega), if_neg (by omega), if_neg (by omega), if_neg (by omega), if_pos hab]
          · have y1 := yst_mono (sF S) (show y ≤ y + 1 by omega)
            have y2 := yst_mono (sF S) (show y + 1 ≤ 4 by omega)
            rw [yst_4 _ I.2.2.1.1.2] at y2
            obtain ⟨w1, p1, p2, p3⟩ := A_copy_in T I.2.2.2.2.2.2.2.2.2 I.2.2.2.2.2.2.2.2.1 ha6 (show b < 6 by omega) hab y1 y2 (show 1 ≤ st by omega) hst
            have T1 := T.sh p2.sh
            obtain ⟨w2, m1, m2, m3⟩ := M_copy_in T1 (I.2.1.df p2) I.2.2.1.1 ha6 (show b < 6 by omega) hab (show y < 4 by omega) (show 1 ≤ st by omega) hst
            have hr : ∀ r, r ≠ 6 → r ≠ 7 → gS S (1461 * a + yst (sF S) y) (cpv S (1461 * b + yst (sF S) y) st) (yst (sF S) (y + 1) - yst (sF S) y) r = S r := fun r _ h => gS_ne h
            refine ⟨_, w1, w2, _, ?_, T1, m1, Inv.mq T1 (IM_alm hr I.2.2.1) (IA_alm I (fun b i _ => p2.wi b i) p2.sh (p2.wfs I.2.2.2.2.2.2.2.2.2) p3 hr) m2 m3⟩
            unfold F_A_copy
            simp (disch := omega) only [qL, ↓qM, t16 T, hV, hV2, A_year, A_wi, q_int, q_eq, t17 T, A_startOf T C, A_endOf T C, ta.1, p1, gd_true, beq_self_eq_true, bd_s, if_true, if_false, ↓reduceIte, ite_true, ite_false, Bool.and_self, Bool.and_true, Bool.true_and, Nat.reduceBEq, Bool.or_true, Bool.true_or, Bool.or_self]
            rw [if_neg (by omega), if_neg (by omega), if_neg (by omega), if_neg (by omega), if_neg hab]
        · refine STEP.pure I (r := mI 102) ?_ ?_
          · unfold F_A_copy
            simp (disch := omega) only [qL, ↓qM, t16 T, hV, hV2, A_year, A_wi, q_int, q_eq, gd_true, beq_self_eq_true, bd_s, if_true, if_false, ↓reduceIte, ite_true, ite_false, Bool.and_self, Bool.and_true, Bool.true_and, Nat.reduceBEq, Bool.or_true, Bool.true_or, Bool.or_self]
            rw [if_neg (by omega), if_neg (by omega), if_neg (by omega), if_pos (by omega)]
          · unfold F_M_copy
            simp (disch := omega) only [qL, ↓qM, M_alm, M_wi, qLJ, q_int, q_eq]
            rw [if_neg (by omega), if_neg (by omega), if_neg (by omega), if_pos (by omega)]
      · refine STEP.pure I (r := mI 101) ?_ ?_
        · unfold F_A_copy
          simp (disch := omega) only [qL, ↓qM, t16 T, hV, hV2, A_year, gd_true, beq_self_eq_true, bd_s, if_true, if_false, ↓reduceIte, ite_true, ite_false, Bool.and_self, Bool.and_true, Bool.true_and, Nat.reduceBEq, Bool.or_true, Bool.true_or, Bool.or_self]
          rw [if_neg (by omega), if_neg (by omega), if_pos (by omega)]
        · unfold F_M_copy
          simp (disch := omega) only [qL, ↓qM, M_alm, M_wi, qLJ, q_int]
          rw [if_neg (by omega), if_neg (by omega), if_pos (by omega)]
    · rw [if_neg h2] at hV2
      refine STEP.pure I (r := mI 101) ?_ ?_
      · unfold F_A_copy
        simp only [qL, ↓qM, t16 T, hV, hV2, gd_true, beq_self_eq_true, bd_s, if_true, if_false, ↓reduceIte, ite_true, ite_false, Bool.and_self, Bool.and_true, Bool.true_and, Nat.reduceBEq, Bool.or_true, Bool.true_or, Bool.or_self]
        rw [if_neg (by omega)]
      · unfold F_M_copy
        simp (disch := omega) only [qL, ↓qM, M_alm, q_int]
        rw [if_neg (by omega), if_pos (by omega)]
  · rw [if_neg h1] at hV
    refine STEP.pure I (r := mI 101) ?_ ?_
    · unfold F_A_copy
      rw [hV, hV2]
      simp only [qL, ↓qM, t16 T, gd_true, beq_self_eq_true, bd_s, if_true, if_false, ↓reduceIte, ite_true, ite_false, Bool.and_self, Bool.and_true, Bool.true_and, Nat.reduceBEq, Bool.or_true, Bool.true_or, Bool.or_self]
    · unfold F_M_copy
      simp only [qL, ↓qM, M_alm]
      rw [if_pos h1]
