/-! PURE: the class's counts out of a reading -/
theorem cnt_or {P Q : Nat → Bool} (h : ∀ i, ¬ (P i = true ∧ Q i = true)) : ∀ n, cnt (fun i => P i || Q i) n = cnt P n + cnt Q n
  | 0 => rfl
  | n + 1 => by
    rw [cnt_s, cnt_s, cnt_s, cnt_or h n]
    have := h n
    cases hp : P n <;> cases hq : Q n <;> simp_all <;> omega
/-- days between two bounds -/
theorem cnt_rng (P : Nat → Bool) {a b : Nat} (hab : a ≤ b) : ∀ n, b ≤ n → cnt (fun i => P i && (decide (a ≤ i) && decide (i < b))) n = ct P a b := by
  intro n hn
  obtain ⟨c, rfl⟩ : ∃ c, n = b + c := ⟨n - b, by omega⟩
  rw [cnt_add, cnt_false (P := fun j => _) c (fun j hj => by rw [decide_eq_false (by omega : ¬ b + j < b)]; simp), Nat.add_zero]
  obtain ⟨d, rfl⟩ : ∃ d, b = a + d := ⟨b - a, by omega⟩
  rw [cnt_add, cnt_false (P := fun i => _) a (fun i hi => by rw [decide_eq_false (by omega : ¬ a ≤ i)]; simp), Nat.zero_add]
  unfold ct
  rw [show a + d - a = d by omega]
  exact cnt_congr d (fun j hj => by rw [decide_eq_true (by omega : a ≤ a + j), decide_eq_true (by omega : a + j < a + d)]; simp)
/-- a month's days, year by year -/
theorem cnt_month {f : Nat} (hf : f < 4) (P : Nat → Bool) {m : Nat} (h1 : 1 ≤ m) (h2 : m ≤ 12) : ∀ y, y ≤ 4 → cnt (fun n => P n && (decide (mo f n = m) && decide (yr f n < y))) 1461 = Nat.rec 0 (fun y r => r + ct P (bg f y m) (bg f y m + mln f y m)) y
  | 0, _ => cnt_false 1461 (fun i hi => by rw [decide_eq_false (by omega : ¬ yr f i < 0)]; simp)
  | y + 1, hy => by
    show _ = Nat.rec 0 (fun y r => r + ct P (bg f y m) (bg f y m + mln f y m)) y + ct P (bg f y m) (bg f y m + mln f y m)
    rw [← cnt_month hf P h1 h2 y (by omega), ← cnt_rng P (by omega) 1461 (mbound hf (by omega) h1 h2), ← cnt_or]
    · refine cnt_congr 1461 (fun n hn => ?_)
      have hi := mo_iff hf hn (show y < 4 by omega) h1 h2
      rw [← Bool.decide_and, ← Bool.decide_and, ← Bool.decide_and, ← Bool.and_or_distrib_left, ← Bool.decide_or]
      congr 1
      exact decide_eq_decide.mpr (by omega)
    · intro i hh
      have h3 := hh.1
      have h4 := hh.2
      simp only [Bool.and_eq_true, decide_eq_true_eq] at h3 h4
      have hn : i < 1461 := by have := mbound hf (show y < 4 by omega) h1 h2; omega
      have hi := (mo_iff hf hn (show y < 4 by omega) h1 h2).mp h4.2
      omega
theorem mcS_rec (S : Nat → Nat → Int32) (k v m what : Nat) : ∀ y, mcS S k v m what y = Nat.rec 0 (fun y r => r + ct (ofW S k v what) (bg (sF S) y m) (bg (sF S) y m + mln (sF S) y m)) y
  | 0 => rfl
  | y + 1 => by
    show mcS S k v m what y + _ = _ + _
    rw [mcS_rec S k v m what y]
theorem cnt_inMon {S : Nat → Nat → Int32} (If : IMf S) {k v m what : Nat} (h1 : 1 ≤ m) (h2 : m ≤ 12) : cnt (fun n => ofW S k v what n && inMon m m (mo (sF S) n)) 1461 = mcS S k v m what 4 := by
  rw [mcS_rec, ← cnt_month If.2 (ofW S k v what) h1 h2 4 (Nat.le_refl _)]
  refine cnt_congr 1461 (fun n hn => ?_)
  have hy := yr_le (sF S) n
  unfold inMon
  rw [if_pos (Nat.le_refl _), ← Bool.decide_and, ← Bool.decide_and]
  congr 1
  exact decide_eq_decide.mpr (by omega)
/-- the address of a count's days -/
def pa (what : Nat) : Nat := if what = 0 then 99 else if what = 1 then 101 else if what = 2 then 103 else 105
theorem pa_in : ∀ what, what < 4 → pa what ∈ DTab ∧ pa what < 134 := by decide +kernel
theorem RD2.of {S : Nat → Nat → Int32} {w : AW} {k v : Nat} (R2 : RD2 S w 88 k v) {what : Nat} (hw : what < 4) {n : Nat} (hn : n < 1461) : gD w (pa what) n = ofW S k v what n := by
  obtain ⟨a, b, c, d⟩ := R2 n hn
  have : what = 0 ∨ what = 1 ∨ what = 2 ∨ what = 3 := by omega
  unfold ofW pa
  rcases this with h | h | h | h <;> subst h
  · simp only [if_true]; rw [show (99 : Nat) = 88 + 11 from rfl, a]; simp
  · rw [if_neg (by omega), if_pos rfl, if_neg (by omega), if_pos rfl, show (101 : Nat) = 88 + 13 from rfl, b]
  · rw [if_neg (by omega), if_neg (by omega), if_pos rfl, if_neg (by omega), if_neg (by omega), if_pos rfl, show (103 : Nat) = 88 + 15 from rfl, c, Bool.and_assoc]
  · rw [if_neg (by omega), if_neg (by omega), if_neg (by omega), if_neg (by omega), if_neg (by omega), if_neg (by omega), show (105 : Nat) = 88 + 17 from rfl, d]
theorem in134 : 134 ∈ DTab := by decide
theorem A_expR {L : Nat} {xs : Nat → Int32} {w : AW} (T : Top L xs w) (W : WFs w) {S : Nat → Nat → Int32} (C : CalA S w) (If : IMf S) {k v : Nat} (R2 : RD2 S w 88 k v) : ∃ w', F_A_expectedOfReading 16 w = some (nI (exS S k v 12), w') ∧ DF (fun x => x = 134) w w' := by
  have loop : ∀ j fu c (u : AW), c + j = 12 → j < fu → DF (fun x => x = 134) w u → ∃ w', F_A_expectedOfReading_4 fu 16 (nI (exS S k v c)) (nI (c + 1)) u = some (nI (exS S k v 12), w') ∧ DF (fun x => x = 134) w w' := by
    intro j
    induction j with
    | zero =>
      intro fu c u hj hf hu
      obtain ⟨fu, rfl⟩ : ∃ m, fu = m + 1 := ⟨fu - 1, by omega⟩
      obtain rfl : c = 12 := by omega
      refine ⟨u, ?_, hu⟩
      show F_A_expectedOfReading_4_B (F_A_expectedOfReading_4 fu) _ _ _ u = _
      unfold F_A_expectedOfReading_4_B
      simp (disch := omega) only [qL, ↓qM, q_lt]
      rw [if_pos (by omega)]
    | succ j ih =>
      intro fu c u hj hf hu
      obtain ⟨fu, rfl⟩ : ∃ m, fu = m + 1 := ⟨fu - 1, by omega⟩
      have T1 := T.sh hu.sh
      have d := tD T1 in134
      have e1 := A_addMonths (T1.sh (Sh.setD u 134 (fun _ => false))) (show CF (setD u 134 (fun _ => false)) (sF S) from (hu.cal C).cf If) (show c + 1 < 13 by omega) (show c + 1 < 13 by omega) (TD_setD 134 _ d) (WF_setD 134 (fun _ => false) (.inl rfl))
      rw [setD_setD] at e1
      have U2 : DF (fun x => x = 134) w (setD u 134 (fun n => gD (setD u 134 (fun _ => false)) 134 n || inMon (c + 1) (c + 1) (mo (sF S) n))) := hu.trans (DF.set _ _ rfl)
      have hg : ∀ n, n < 1461 → gD (setD u 134 (fun n => gD (setD u 134 (fun _ => false)) 134 n || inMon (c + 1) (c + 1) (mo (sF S) n))) 134 n = inMon (c + 1) (c + 1) (mo (sF S) n) := fun n hn => by
        rw [gD_eq _ _ _ hn, gD_eq _ _ _ hn, Bool.false_or]
      generalize hu2 : setD u 134 (fun n => gD (setD u 134 (fun _ => false)) 134 n || inMon (c + 1) (c + 1) (mo (sF S) n)) = u2 at e1 U2 hg
      have T2 := T.sh U2.sh
      have W2 := U2.wfs W
      have sz : ∀ what, what < 4 → F_Dy_sizeWith u2 (pa what) 134 = some (nI (mcS S k v (c + 1) what 4)) := fun what hw => by
        rw [D_sizeWith (tD T2 (pa_in what hw).1) (tD T2 in134) (W2 _ (pa_in what hw).1), ← cnt_inMon If (by omega) (by omega)]
        refine congrArg (fun x => some (nI x)) (cnt_congr 1461 (fun n hn => ?_))
        have hp := (pa_in what hw).2
        rw [hg n hn, U2.g (by omega), R2.of hw hn]
      have sz0 : F_Dy_sizeWith u2 99 134 = some (nI (mcS S k v (c + 1) 0 4)) := sz 0 (by omega)
      have sz1 : F_Dy_sizeWith u2 101 134 = some (nI (mcS S k v (c + 1) 1 4)) := sz 1 (by omega)
      have sz3 : F_Dy_sizeWith u2 105 134 = some (nI (mcS S k v (c + 1) 3 4)) := sz 3 (by omega)
      have b1 := mcS_le S k v (c + 1) 1 4
      have b3 := mcS_le S k v (c + 1) 3 4
      have b0 := mcS_le S k v (c + 1) 0 4
      have mm := mcS_mono S k v (c + 1) 1 4
      show ∃ w', F_A_expectedOfReading_4_B (F_A_expectedOfReading_4 fu) _ _ _ u = _ ∧ _
      unfold F_A_expectedOfReading_4_B
      simp (disch := omega) only [qL, ↓qM, q_lt, t16 T1, d.1, D_clear d, wk_setD, wr_setD, t17 T1, e1, t16 T2, t88 T2, (tD T2 (show 99 ∈ DTab by decide)).1, (tD T2 (show 101 ∈ DTab by decide)).1, (tD T2 (show 105 ∈ DTab by decide)).1, sz0, sz1, sz3, q_le, q_eq, pk_mul, nI_add, gd_true, beq_self_eq_true, bd_s, if_true, if_false, ↓reduceIte, ite_true, ite_false, Bool.and_self, Bool.and_true, Bool.true_and, Nat.reduceBEq, Bool.or_true, Bool.true_or, Bool.or_self]
      rw [if_neg (by omega)]
      by_cases h0 : mcS S k v (c + 1) 0 4 ≤ 0
      · rw [if_pos h0]
        obtain ⟨w', r1, r2⟩ := ih fu (c + 1) u2 (by omega) (by omega) U2
        have e : exS S k v (c + 1) = exS S k v c := by
          show exS S k v c + exM S k v (c + 1) = _
          unfold exM; rw [if_pos (by omega)]; rfl
        rw [e] at r1
        exact ⟨w', r1, r2⟩
      · rw [if_neg h0, gd_t (by simp; omega), q_div (mulb b1 b3) (by omega) (by omega), nI_add]
        obtain ⟨w', r1, r2⟩ := ih fu (c + 1) u2 (by omega) (by omega) U2
        have e : exS S k v (c + 1) = exS S k v c + mcS S k v (c + 1) 1 4 * 1000 * mcS S k v (c + 1) 3 4 / mcS S k v (c + 1) 0 4 := by
          show exS S k v c + exM S k v (c + 1) = _
          unfold exM
          by_cases h1 : mcS S k v (c + 1) 1 4 ≤ 0
          · rw [if_pos h1, show mcS S k v (c + 1) 1 4 = 0 by omega]; simp
          · rw [if_neg h1]
        rw [e] at r1
        exact ⟨w', r1, r2⟩
  unfold F_A_expectedOfReading
  rw [l_0, l_1]
  exact loop 12 FUEL 0 w (by omega) (by decide) (DF.refl _ _)
theorem A_woR {L : Nat} {xs : Nat → Int32} {w : AW} (T : Top L xs w) (W : WFs w) {S : Nat → Nat → Int32} (C : CalA S w) (If : IMf S) {k v : Nat} (R2 : RD2 S w 88 k v) : ∃ w', F_A_worthOfReading 16 w = some (woI S k v, w') ∧ DF (fun x => x = 134) w w' := by
  obtain ⟨w', e1, f1⟩ := A_expR T W C If R2
  refine ⟨w', ?_, f1⟩
  have d := tD T (show 103 ∈ DTab by decide)
  unfold F_A_worthOfReading woI
  simp only [qL, ↓qM, t16 T, t88 T, d.1, D_size d (W _ (show 103 ∈ DTab by decide)), e1, pk_mul, gd_true, beq_self_eq_true, bd_s, if_true, if_false, ↓reduceIte, ite_true, ite_false, Bool.and_self, Bool.and_true, Bool.true_and, Nat.reduceBEq, Bool.or_true, Bool.true_or, Bool.or_self]
  have e : cnt (gD w 103) 1461 = ct (ofW S k v 2) 0 1461 := by
    unfold ct
    exact cnt_congr 1461 (fun n hn => by rw [Nat.zero_add]; exact R2.of (what := 2) (by omega) hn)
  rw [e]
