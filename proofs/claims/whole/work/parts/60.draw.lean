/-! PURE: draw, copy -/
/-- a stretch of the almanacs' row anew -/
def gS (S : Nat → Nat → Int32) (b : Nat) (val : Nat → Int32) (k : Nat) : Nat → Nat → Int32 := fun r i => if r = 7 ∧ b ≤ i ∧ i < b + k then val (i - b) else S r i
theorem gS_0 (S : Nat → Nat → Int32) (b : Nat) (val : Nat → Int32) : gS S b val 0 = S := by
  funext r i; unfold gS; rw [if_neg (by omega)]
theorem gS_s (S : Nat → Nat → Int32) (b : Nat) (val : Nat → Int32) (k : Nat) : gS S b val (k + 1) = uS (gS S b val k) 7 (b + k) (val k) := by
  funext r i
  unfold uS gS
  by_cases h : r = 7 ∧ i = b + k
  · rw [if_pos h, if_pos (by omega), h.2, show b + k - b = k by omega]
  · rw [if_neg h]
    by_cases h2 : r = 7 ∧ b ≤ i ∧ i < b + k
    · rw [if_pos h2, if_pos (by omega)]
    · rw [if_neg h2, if_neg (by omega)]
theorem gS_ne {S : Nat → Nat → Int32} {b : Nat} {val : Nat → Int32} {k r : Nat} (h : r ≠ 7) : gS S b val k r = S r := by
  funext i; unfold gS; rw [if_neg (fun e => h e.1)]
theorem gS_out {S : Nat → Nat → Int32} {b : Nat} {val : Nat → Int32} {k i : Nat} (h : i < b ∨ b + k ≤ i) (r : Nat) : gS S b val k r i = S r i := by
  unfold gS; rw [if_neg (by omega)]
theorem IMf_gS {S : Nat → Nat → Int32} {b : Nat} {val : Nat → Int32} {k : Nat} (I : IMf S) : IMf (gS S b val k) := IMf_S (by rw [gS_ne (by omega)]) I
theorem sF_gS (S : Nat → Nat → Int32) (b : Nat) (val : Nat → Int32) (k : Nat) : sF (gS S b val k) = sF S := by unfold sF; rw [gS_ne (by omega)]
/-- the sum of the words -/
def sumW (val : Nat → Int32) : Nat → Int32
  | 0 => nI 0
  | k + 1 => sumW val k + val k
def drv (x : Int32) (t : Nat) : Int32 := irem (sd x (t + 1) / nI 65536) (nI 2)
theorem drv_ok (x : Int32) (t : Nat) : wok (drv x t) := by
  unfold drv
  obtain ⟨k, e, hk⟩ := sd_nI x t
  rw [e, q_div hk (by omega) (by omega), q_rem (by omega) (by omega) (by omega)]
  have : k / 65536 % 2 = 0 ∨ k / 65536 % 2 = 1 := by omega
  rcases this with h | h <;> rw [h] <;> simp [wok]
theorem A_draw_in {L : Nat} {xs : Nat → Int32} {w : AW} (T : Top L xs w) (W : WFs w) {S : Nat → Nat → Int32} (A : AlA S w) {a from' till : Nat} (x : Int32) (ha : a < 6) (h1 : from' ≤ till) (h2 : till ≤ 1461) : ∃ w', F_Al_drawDays (241 + 5 * a) (nI from') (nI till) x w = some (sumW (drv x) (till - from'), w') ∧ DF (alA a) w w' ∧ AlA (gS S (1461 * a + from') (drv x) (till - from')) w' := by
  have loop : ∀ j fu t (u : AW), Top L xs u → WFs u → from' + t + j = till → j < fu → AlA (gS S (1461 * a + from') (drv x) t) u → ∃ w', F_Al_drawDays_9 fu (241 + 5 * a) (nI till) (sd x t) (sumW (drv x) t) (nI (from' + t)) u = some (sumW (drv x) (till - from'), w') ∧ DF (alA a) u w' ∧ AlA (gS S (1461 * a + from') (drv x) (till - from')) w' := by
    intro j
    induction j with
    | zero =>
      intro fu t u T W ht hf A
      obtain ⟨fu, rfl⟩ : ∃ m, fu = m + 1 := ⟨fu - 1, by omega⟩
      obtain rfl : t = till - from' := by omega
      refine ⟨u, ?_, DF.refl _ _, A⟩
      show F_Al_drawDays_9_B (F_Al_drawDays_9 fu) _ _ _ _ _ u = _
      unfold F_Al_drawDays_9_B
      simp (disch := omega) only [q_le]
      rw [if_pos (by omega)]
    | succ j ih =>
      intro fu t u T W ht hf A
      obtain ⟨fu, rfl⟩ : ∃ m, fu = m + 1 := ⟨fu - 1, by omega⟩
      obtain ⟨w1, p1, p2, p3⟩ := A_put T W A ha (show from' + t < 1461 by omega) (drv_ok x t)
      rw [show 1461 * a + (from' + t) = 1461 * a + from' + t by omega, ← gS_s] at p3
      obtain ⟨w2, q1, q2, q3⟩ := ih fu (t + 1) w1 (T.sh p2.sh) (p2.wfs W) (by omega) (by omega) p3
      refine ⟨w2, ?_, p2.trans q2, q3⟩
      show F_Al_drawDays_9_B (F_Al_drawDays_9 fu) _ _ _ _ _ u = _
      unfold F_Al_drawDays_9_B
      rw [show F_A_nextSeed (sd x t) = sd x (t + 1) from rfl]
      unfold drv at p1
      simp (disch := omega) only [qL, ↓qM, q_le, (tA T ha).1, p1, nI_add, gd_true, beq_self_eq_true, bd_s, if_true, if_false, ↓reduceIte, ite_true, ite_false, Bool.and_self, Bool.and_true, Bool.true_and, Nat.reduceBEq, Bool.or_true, Bool.true_or, Bool.or_self]
      rw [if_neg (by omega)]
      exact q1
  have := loop (till - from') FUEL 0 w T W (by omega) (Nat.lt_of_le_of_lt (by omega : till - from' ≤ 1461) (by decide)) (by rw [gS_0]; exact A)
  rw [Nat.add_zero] at this
  exact this
theorem M_draw_in {L : Nat} {xs : Nat → Int32} {w : AW} (T : Top L xs w) {S : Nat → Nat → Int32} (R : RA S w) (I : IMf S) {a y : Nat} (x : Int32) (ha : a < 6) (hy : y < 4) (hx : 0 ≤ x.toInt) : ∃ w', F_M_draw 271 (nI a) (nI y) x w = some (sumW (drv x) (yst (sF S) (y + 1) - yst (sF S) y), w') ∧ AF w w' ∧ RA (gS S (1461 * a + yst (sF S) y) (drv x) (yst (sF S) (y + 1) - yst (sF S) y)) w' := by
  have hm := yst_mono (sF S) (show y ≤ y + 1 by omega)
  have hm2 := yst_mono (sF S) (show y + 1 ≤ 4 by omega)
  have hm3 := yst_4 _ I.2
  generalize hfrom : yst (sF S) y = from' at *
  generalize htill : yst (sF S) (y + 1) = till at *
  have loop : ∀ j fu t (u : AW), Top L xs u → from' + t + j = till → j < fu → RA (gS S (1461 * a + from') (drv x) t) u → ∃ w', F_M_draw_43 fu 271 (nI a) (nI y) (sumW (drv x) t) (sd x t) (nI (from' + t)) u = some (sumW (drv x) (till - from'), w') ∧ AF u w' ∧ RA (gS S (1461 * a + from') (drv x) (till - from')) w' := by
    intro j
    induction j with
    | zero =>
      intro fu t u T ht hf R
      obtain ⟨fu, rfl⟩ : ∃ m, fu = m + 1 := ⟨fu - 1, by omega⟩
      obtain rfl : t = till - from' := by omega
      refine ⟨u, ?_, AF.refl _, R⟩
      show F_M_draw_43_B (F_M_draw_43 fu) _ _ _ _ _ _ u = _
      unfold F_M_draw_43_B
      rw [M_yearEnd T R (IMf_gS I) hy, sF_gS, htill]
      simp (disch := omega) only [mK T, q_le, gd_true, beq_self_eq_true, bd_s, if_true, if_false, ↓reduceIte, ite_true, ite_false, Bool.and_self, Bool.and_true, Bool.true_and, Nat.reduceBEq, Bool.or_true, Bool.true_or, Bool.or_self]
      rw [if_pos (by omega)]
    | succ j ih =>
      intro fu t u T ht hf R
      obtain ⟨fu, rfl⟩ : ∃ m, fu = m + 1 := ⟨fu - 1, by omega⟩
      have R2 := R.up 7 (1461 * a + from' + t) (drv x t) (by decide)
      rw [← gS_s] at R2
      have A1 : AF u (upI u (271 + 7) (1461 * a + from' + t) (drv x t)) := AF.upI u _ _ (by omega)
      obtain ⟨w', q1, q2, q3⟩ := ih fu (t + 1) _ (T.sh A1.sh) (by omega) (by omega) R2
      refine ⟨w', ?_, A1.trans q2, q3⟩
      show F_M_draw_43_B (F_M_draw_43 fu) _ _ _ _ _ _ u = _
      unfold F_M_draw_43_B
      rw [M_yearEnd T R (IMf_gS I) hy, sF_gS, htill, show F_M_next (sd x t) = sd x (t + 1) from rfl]
      simp (disch := omega) only [qL, ↓qM, mK T, mAlm T, q_le, pk_mul, nI_add, q_inb, q_nat, gd_true, beq_self_eq_true, bd_s, if_true, if_false, ↓reduceIte, ite_true, ite_false, Bool.and_self, Bool.and_true, Bool.true_and, Nat.reduceBEq, Bool.or_true, Bool.true_or, Bool.or_self]
      rw [if_neg (by omega)]
      rw [← Nat.add_assoc (1461 * a) from' t]
      exact q1
  obtain ⟨w', o1, o2, o3⟩ := loop (till - from') FUEL 0 w T (by omega) (Nat.lt_of_le_of_lt (by omega : till - from' ≤ 1461) (by decide)) (by rw [gS_0]; exact R)
  refine ⟨w', ?_, o2, o3⟩
  unfold F_M_draw
  have hx0 : nI 0 ≤ x := by rw [Int32.le_iff_toInt_le]; show 0 ≤ x.toInt; omega
  simp (disch := omega) only [qL, ↓qM, M_alm, M_wi, qLJ, q_int, mK T, M_begin T R I, bg_1, hfrom, hx0, gd_true, beq_self_eq_true, bd_s, if_true, if_false, ↓reduceIte, ite_true, ite_false, Bool.and_self, Bool.and_true, Bool.true_and, Nat.reduceBEq, Bool.or_true, Bool.true_or, Bool.or_self]
  rw [if_neg (by omega), if_neg (by omega)]
  exact o1
theorem S_draw {L : Nat} {xs : Nat → Int32} {S : Nat → Nat → Int32} {w : AW} (I : Inv L xs S w) (x1 x2 x3 : Int32) : STEP L xs w (F_A_draw 16 x1 x2 x3) (F_M_draw 271 x1 x2 x3) := by
  have T := I.1
  have C := I.2.2.2.1.cf I.2.2.1.1
  have hV := A_almanacOf T x1
  by_cases h1 : 0 ≤ x1.toInt ∧ x1.toInt ≤ 5
  · obtain ⟨a, rfl, ha⟩ := q_of h1.1 (n := 5) h1.2 (by omega)
    rw [if_pos h1, nat_nI (by omega)] at hV
    have ha6 : a < 6 := by omega
    have ta := tA T ha6
    by_cases h2 : 0 ≤ x2.toInt ∧ x2.toInt ≤ 3
    · obtain ⟨y, rfl, hy⟩ := q_of h2.1 (n := 3) h2.2 (by omega)
      by_cases h3 : 0 ≤ x3.toInt
      · have hx0 : nI 0 ≤ x3 := by rw [Int32.le_iff_toInt_le]; show 0 ≤ x3.toInt; omega
        have y1 := yst_mono (sF S) (show y ≤ y + 1 by omega)
        have y2 := yst_mono (sF S) (show y + 1 ≤ 4 by omega)
        rw [yst_4 _ I.2.2.1.1.2] at y2
        obtain ⟨w1, p1, p2, p3⟩ := A_draw_in T I.2.2.2.2.2.2.2.2.2 I.2.2.2.2.2.2.2.2.1 x3 ha6 y1 y2
        have T1 := T.sh p2.sh
        obtain ⟨w2, m1, m2, m3⟩ := M_draw_in T1 (I.2.1.df p2) I.2.2.1.1 x3 ha6 (show y < 4 by omega) h3
        have hr : ∀ r, r ≠ 6 → r ≠ 7 → gS S (1461 * a + yst (sF S) y) (drv x3) (yst (sF S) (y + 1) - yst (sF S) y) r = S r := fun r _ h => gS_ne h
        refine ⟨_, w1, w2, _, ?_, T1, m1, Inv.mq T1 (IM_alm hr I.2.2.1) (IA_alm I (fun b i _ => p2.wi b i) p2.sh (p2.wfs I.2.2.2.2.2.2.2.2.2) p3 hr) m2 m3⟩
        unfold F_A_draw
        simp (disch := omega) only [qL, ↓qM, t16 T, hV, A_year, q_int, hx0, t17 T, A_startOf T C, A_endOf T C, ta.1, p1, gd_true, beq_self_eq_true, bd_s, if_true, if_false, ↓reduceIte, ite_true, ite_false, Bool.and_self, Bool.and_true, Bool.true_and, Nat.reduceBEq, Bool.or_true, Bool.true_or, Bool.or_self]
        rw [if_neg (by omega), if_neg (by omega)]
      · have hx0 : ¬ nI 0 ≤ x3 := by rw [Int32.le_iff_toInt_le]; show ¬ 0 ≤ x3.toInt; omega
        refine STEP.pure I (r := mI 102) ?_ ?_
        · unfold F_A_draw
          simp (disch := omega) only [qL, ↓qM, t16 T, hV, A_year, q_int, hx0, gd_true, beq_self_eq_true, bd_s, if_true, if_false, ↓reduceIte, ite_true, ite_false, Bool.and_self, Bool.and_true, Bool.true_and, Nat.reduceBEq, Bool.or_true, Bool.true_or, Bool.or_self]
          rw [if_neg (by omega), if_neg (by omega)]
        · unfold F_M_draw
          simp (disch := omega) only [qL, ↓qM, M_alm, M_wi, qLJ, q_int, hx0, gd_true, beq_self_eq_true, bd_s, if_true, if_false, ↓reduceIte, ite_true, ite_false, Bool.and_self, Bool.and_true, Bool.true_and, Nat.reduceBEq, Bool.or_true, Bool.true_or, Bool.or_self]
          rw [if_neg (by omega), if_neg (by omega)]
    · refine STEP.pure I (r := mI 101) ?_ ?_
      · unfold F_A_draw
        simp (disch := omega) only [qL, ↓qM, t16 T, hV, A_year, gd_true, beq_self_eq_true, bd_s, if_true, if_false, ↓reduceIte, ite_true, ite_false, Bool.and_self, Bool.and_true, Bool.true_and, Nat.reduceBEq, Bool.or_true, Bool.true_or, Bool.or_self]
        rw [if_neg (by omega), if_pos (by omega)]
      · unfold F_M_draw
        simp (disch := omega) only [qL, ↓qM, M_alm, M_wi, qLJ, q_int]
        rw [if_neg (by omega), if_pos (by omega)]
  · rw [if_neg h1] at hV
    refine STEP.pure I (r := mI 101) ?_ ?_
    · unfold F_A_draw
      simp only [qL, ↓qM, t16 T, hV, gd_true, beq_self_eq_true, bd_s, if_true, if_false, ↓reduceIte, ite_true, ite_false, Bool.and_self, Bool.and_true, Bool.true_and, Nat.reduceBEq, Bool.or_true, Bool.true_or, Bool.or_self]
    · unfold F_M_draw
      simp only [qL, ↓qM, M_alm]
      rw [if_pos h1]
