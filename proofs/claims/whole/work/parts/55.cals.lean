/-! PURE: the invariant piece by piece; calls of the calendar -/
theorem IMs_S {S S' : Nat → Nat → Int32} (h1 : S' 1 = S 1) (h2 : S' 2 = S 2) (h3 : S' 3 = S 3) (h4 : S' 4 = S 4) (I : IMs S) : IMs S' := by unfold IMs at *; simp only [h1, h2, h3, h4]; exact I
theorem IMd_S {S S' : Nat → Nat → Int32} (h : S' 5 = S 5) (I : IMd S) : IMd S' := by unfold IMd at *; simp only [h]; exact I
theorem IMf_S {S S' : Nat → Nat → Int32} (h : S' 0 0 = S 0 0) (I : IMf S) : IMf S' := by unfold IMf sF at *; simp only [h]; exact I
theorem IMpg_S {S S' : Nat → Nat → Int32} (h0 : S' 0 9 = S 0 9) (h : S' 8 = S 8) (I : IMpg S) : IMpg S' := by unfold IMpg nP at *; simp only [h0, h]; exact I
theorem IMle_S {S S' : Nat → Nat → Int32} (h0 : S' 0 40 = S 0 40) (h1 : S' 0 41 = S 0 41) (h2 : S' 0 45 = S 0 45) (h : S' 26 = S 26) (I : IMle S) : IMle S' := by unfold IMle at *; simp only [h0, h1, h2, h]; exact I
theorem IMk_S {S S' : Nat → Nat → Int32} (h13 : S' 13 = S 13) (h14 : S' 14 = S 14) (h15 : S' 15 = S 15) (h16 : S' 16 = S 16) {k : Nat} (I : IMk S k) : IMk S' k := by
  unfold IMk IMp prog mkS spA spB at *; simp only [h13, h14, h15, h16]; exact I
theorem IMsy_S {S S' : Nat → Nat → Int32} (h0 : S' 0 29 = S 0 29) (h13 : S' 13 = S 13) (h14 : S' 14 = S 14) (h15 : S' 15 = S 15) (h16 : S' 16 = S 16) (I : IMsy S) : IMsy S' := by
  have e : nS S' = nS S := by unfold nS; rw [h0]
  unfold IMsy at *
  rw [e, h0]
  exact ⟨I.1, I.2.1, fun k hk => IMk_S h13 h14 h15 h16 (I.2.2 k hk)⟩
theorem SyK_S {S S' : Nat → Nat → Int32} (h13 : S' 13 = S 13) (h14 : S' 14 = S 14) (h15 : S' 15 = S 15) (h16 : S' 16 = S 16) {w : AW} {k s : Nat} (K : SyK S w k s) : SyK S' w k s := by
  unfold SyK CQ prog mkS at *; simp only [h13, h14, h15, h16]; exact K
theorem SyA_S {S S' : Nat → Nat → Int32} {w : AW} (h0 : S' 0 29 = S 0 29) (h13 : S' 13 = S 13) (h14 : S' 14 = S 14) (h15 : S' 15 = S 15) (h16 : S' 16 = S 16) (A : SyA S w) : SyA S' w := by
  have e : nS S' = nS S := by unfold nS; rw [h0]
  unfold SyA at *
  rw [e, h0]
  exact ⟨A.1, fun k hk => SyK_S h13 h14 h15 h16 (A.2 k hk)⟩
theorem CalA_S {S S' : Nat → Nat → Int32} {w : AW} (h0 : S' 0 0 = S 0 0) (h1 : S' 1 = S 1) (h2 : S' 2 = S 2) (h3 : S' 3 = S 3) (h4 : S' 4 = S 4) (A : CalA S w) : CalA S' w := by unfold CalA at *; simp only [h0, h1, h2, h3, h4]; exact A
theorem DiaA_S {S S' : Nat → Nat → Int32} {w : AW} (h : S' 5 = S 5) (A : DiaA S w) : DiaA S' w := by unfold DiaA at *; simp only [h]; exact A
theorem PgA_S {S S' : Nat → Nat → Int32} {w : AW} (h0 : S' 0 9 = S 0 9) (h : S' 8 = S 8) (A : PgA S w) : PgA S' w := by unfold PgA nP at *; simp only [h0, h]; exact A
theorem LeA_S {S S' : Nat → Nat → Int32} {w : AW} (h0 : S' 0 40 = S 0 40) (h2 : S' 0 45 = S 0 45) (h5 : S' 25 = S 25) (h : S' 26 = S 26) (A : LeA S w) : LeA S' w := by unfold LeA at *; simp only [h0, h2, h5, h]; exact A
theorem AlA_S {S S' : Nat → Nat → Int32} {w : AW} (h6 : S' 6 = S 6) (h7 : S' 7 = S 7) (A : AlA S w) : AlA S' w := by unfold AlA at *; simp only [h6, h7]; exact A
theorem CalA_w {S : Nat → Nat → Int32} {w v : AW} (h : ∀ a i, 17 ≤ a → a ≤ 21 → wi v a i = wi w a i) (A : CalA S w) : CalA S v := by
  unfold CalA at *
  simp only [h 17 _ (by decide) (by decide), h 18 _ (by decide) (by decide), h 19 _ (by decide) (by decide), h 20 _ (by decide) (by decide), h 21 _ (by decide) (by decide)]
  exact A
theorem DiaA_w {S : Nat → Nat → Int32} {w v : AW} (h : ∀ a i, 180 ≤ a → a ≤ 184 → wi v a i = wi w a i) (A : DiaA S w) : DiaA S v := fun u hu n hn f hf => by rw [h _ _ (by omega) (by omega)]; exact A u hu n hn f hf
theorem PgA_w {S : Nat → Nat → Int32} {w v : AW} (h : wi v 23 0 = wi w 23 0) (h2 : ∀ i, wi v 24 i = wi w 24 i) (A : PgA S w) : PgA S v := by unfold PgA at *; simp only [h, h2]; exact A
theorem SyK_w {S : Nat → Nat → Int32} {w v : AW} {k s : Nat} (h : ∀ a i, s ≤ a → a ≤ s + 6 → wi v a i = wi w a i) (K : SyK S w k s) : SyK S v k s := by
  obtain ⟨⟨P, p1, p2⟩, ⟨Q, q1, q2⟩, k3⟩ := K
  refine ⟨⟨P, ?_, p2⟩, ⟨Q, ?_, q2⟩, ?_⟩
  · unfold CP at *; simp only [h (s + 1) _ (by omega) (by omega), h (s + 1 + 1) _ (by omega) (by omega), h (s + 1 + 2) _ (by omega) (by omega)]; exact p1
  · unfold CP at *; simp only [h (s + 4) _ (by omega) (by omega), h (s + 4 + 1) _ (by omega) (by omega), h (s + 4 + 2) _ (by omega) (by omega)]; exact q1
  · simp only [h (s + 1) _ (by omega) (by omega), h (s + 4) _ (by omega) (by omega), h s _ (by omega) (by omega)]; exact k3
theorem SyA_w {S : Nat → Nat → Int32} {w v : AW} (h : wi v 16 4 = wi w 16 4) (h2 : ∀ k, k < nS S → wr v 37 k = wr w 37 k) (h3 : ∀ k, k < nS S → ∀ a i, wr w 37 k ≤ a → a ≤ wr w 37 k + 6 → wi v a i = wi w a i) (A : SyA S w) : SyA S v := by
  refine ⟨by rw [h]; exact A.1, fun k hk => ?_⟩
  rw [h2 k hk]
  exact SyK_w (h3 k hk) (A.2 k hk)
theorem LeA_w {S : Nat → Nat → Int32} {w v : AW} (h : ∀ a i, (a = 136 ∨ a = 149 ∨ a = 150) → wi v a i = wi w a i) (A : LeA S w) : LeA S v := by
  unfold LeA at *
  simp only [h 136 _ (.inl rfl), h 149 _ (.inr (.inl rfl)), h 150 _ (.inr (.inr rfl))]
  exact A
theorem AlA_w {S : Nat → Nat → Int32} {w v : AW} (h : ∀ a i, 241 ≤ a → a ≤ 270 → wi v a i = wi w a i) (h2 : ∀ a n, 242 ≤ a → a ≤ 269 → gD v a n = gD w a n) (A : AlA S w) : AlA S v := by
  intro a ha
  rw [h (241 + 5 * a) 0 (by omega) (by omega)]
  refine ⟨(A a ha).1, fun n hn => ?_⟩
  rw [h2 (242 + 5 * a) n (by omega) (by omega), h2 (244 + 5 * a) n (by omega) (by omega)]
  exact (A a ha).2 n hn
/-- the same longs -/
theorem gD_j {w v : AW} (h : ∀ a i, wj v a i = wj w a i) (a n : Nat) : gD v a n = gD w a n := by unfold gD; rw [h]
theorem WFs_j {w v : AW} (h : ∀ a i, wj v a i = wj w a i) (W : WFs w) : WFs v := fun a ha j hj => by rw [h]; exact W a ha j hj
/-- the sayings' cells are where no other state is -/
theorem Inv.sr {L : Nat} {xs : Nat → Int32} {S : Nat → Nat → Int32} {w : AW} (I : Inv L xs S w) {k : Nat} (hk : k < nS S) : wr w 37 k = 25 ∨ (185 ≤ wr w 37 k ∧ wr w 37 k ≤ 234) := STab_rng _ (I.say hk).1
theorem S_day {L : Nat} {xs : Nat → Int32} {S : Nat → Nat → Int32} {w : AW} (I : Inv L xs S w) (x1 x2 x3 : Int32) : ∃ r, F_A_day w 16 x1 x2 x3 = some r ∧ F_M_day w 271 x1 x2 x3 = some r := by
  have T := I.1
  have C := I.2.2.2.1.cf I.2.2.1.1
  unfold F_A_day F_M_day
  simp only [qL, ↓qM, A_year, A_month, A_date, M_wi, qLJ]
  by_cases h1 : 0 ≤ x1.toInt ∧ x1.toInt ≤ 3
  · obtain ⟨y, rfl, hy⟩ := q_of h1.1 (n := 3) h1.2 (by omega)
    by_cases h2 : 1 ≤ x2.toInt ∧ x2.toInt ≤ 12
    · obtain ⟨m, rfl, hm⟩ := q_of (x := x2) (by omega) (n := 12) h2.2 (by omega)
      rw [nI_toInt (by omega)] at h2
      by_cases h3 : 1 ≤ x3.toInt ∧ x3.toInt ≤ 31
      · obtain ⟨d, rfl, hd⟩ := q_of (x := x3) (by omega) (n := 31) h3.2 (by omega)
        rw [nI_toInt (by omega)] at h3
        refine ⟨if d ≤ mln (sF S) y m then nI (bg (sF S) y m + (d - 1)) else mI 1, ?_, ?_⟩
        · simp (disch := omega) only [q_int, t16 T, t17 T, A_dayOf T C, gd_true, beq_self_eq_true, bd_s, if_true, if_false, ↓reduceIte, ite_true, ite_false, Bool.and_self, Bool.and_true, Bool.true_and, Nat.reduceBEq, Bool.or_true, Bool.true_or, Bool.or_self]
          rw [if_neg (by omega), if_neg (by omega), if_neg (by omega)]
        · simp (disch := omega) only [q_int, mK T, M_dayOf T I.2.1 I.2.2.1.1, gd_true, beq_self_eq_true, bd_s, if_true, if_false, ↓reduceIte, ite_true, ite_false, Bool.and_self, Bool.and_true, Bool.true_and, Nat.reduceBEq, Bool.or_true, Bool.true_or, Bool.or_self]
          rw [if_neg (by omega), if_neg (by omega), if_neg (by omega)]
      · refine ⟨mI 102, ?_, ?_⟩ <;> rw [if_neg (not_not_intro (by assumption)), if_neg (not_not_intro (by rw [nI_toInt (by omega)]; omega)), if_pos h3]
    · refine ⟨mI 102, ?_, ?_⟩ <;> rw [if_neg (not_not_intro (by assumption)), if_pos h2]
  · exact ⟨mI 102, if_pos h1, if_pos h1⟩
theorem S_date {L : Nat} {xs : Nat → Int32} {S : Nat → Nat → Int32} {w : AW} (I : Inv L xs S w) (x1 x2 : Int32) : ∃ r, F_A_date w 16 x1 x2 = some r ∧ F_M_date w 271 x1 x2 = some r := by
  have T := I.1
  have C := I.2.2.2.1.cf I.2.2.1.1
  unfold F_A_date F_M_date
  simp only [qL, ↓qM, A_day, M_day]
  by_cases h1 : 0 ≤ x1.toInt ∧ x1.toInt ≤ 1460
  · obtain ⟨n, rfl, hn⟩ := q_of h1.1 (n := 1460) h1.2 (by omega)
    rw [if_neg (not_not_intro h1), if_neg (not_not_intro h1)]
    simp (disch := omega) only [t16 T, t17 T, mK T, A_yearOf T C (show n < 1461 by omega), A_monthOf T C (show n < 1461 by omega), A_dateOf T C (show n < 1461 by omega), M_yearOf T I.2.1 I.2.2.1.1 (show n < 1461 by omega), M_monthOf T I.2.1 I.2.2.1.1 (show n < 1461 by omega), M_dateOf T I.2.1 I.2.2.1.1 (show n < 1461 by omega), gd_true, beq_self_eq_true, bd_s, if_true, if_false, ↓reduceIte, ite_true, ite_false, Bool.and_self, Bool.and_true, Bool.true_and, Nat.reduceBEq, Bool.or_true, Bool.true_or, Bool.or_self]
    by_cases h2 : 0 ≤ x2.toInt ∧ x2.toInt ≤ 2
    · obtain ⟨d, rfl, hd⟩ := q_of h2.1 (n := 2) h2.2 (by omega)
      have : d = 0 ∨ d = 1 ∨ d = 2 := by omega
      rcases this with h | h | h <;> subst h
      · exact ⟨nI (yr (sF S) n), by simp (disch := omega) only [q_int, q_eq]; simp, by simp (disch := omega) only [q_eq]; simp⟩
      · exact ⟨nI (mo (sF S) n), by simp (disch := omega) only [q_int, q_eq]; simp, by simp (disch := omega) only [q_eq]; simp⟩
      · exact ⟨nI (n - bg (sF S) (yr (sF S) n) (mo (sF S) n) + 1), by simp (disch := omega) only [q_int, q_eq]; simp, by simp (disch := omega) only [q_eq]; simp⟩
    · have e : ∀ d, d ≤ 2 → (x2 = nI d) = False := fun d hd => by
        apply propext
        refine ⟨fun q => h2 ?_, False.elim⟩
        rw [q, nI_toInt (by omega)]; omega
      refine ⟨mI 102, ?_, ?_⟩
      · rw [if_pos (by omega)]
      · simp only [e 0 (by omega), e 1 (by omega), e 2 (by omega), if_false]
  · rw [if_pos h1, if_pos h1]; exact ⟨_, rfl, rfl⟩
theorem S_feast {L : Nat} {xs : Nat → Int32} {S : Nat → Nat → Int32} {w : AW} (I : Inv L xs S w) (x1 x2 : Int32) : ∃ r, F_A_feast w 16 x1 x2 = some r ∧ F_M_feast w 271 x1 x2 = some r := by
  have T := I.1
  unfold F_A_feast F_M_feast
  simp only [qL, ↓qM, A_wi, A_year, M_wi, qLJ]
  by_cases h1 : 0 ≤ x1.toInt ∧ x1.toInt ≤ 7
  · obtain ⟨s, rfl, hs⟩ := q_of h1.1 (n := 7) h1.2 (by omega)
    by_cases h2 : 0 ≤ x2.toInt ∧ x2.toInt ≤ 3
    · obtain ⟨y, rfl, hy⟩ := q_of h2.1 (n := 3) h2.2 (by omega)
      refine ⟨fv (feS S s y), ?_, ?_⟩
      · simp (disch := omega) only [q_int, t16 T, t17 T, A_feastDay T I.2.2.2.1 I.2.2.1.1 I.2.2.1.2.1 (show s < 8 by omega) (show y < 4 by omega), gd_true, beq_self_eq_true, bd_s, if_true, if_false, ↓reduceIte, ite_true, ite_false, Bool.and_self, Bool.and_true, Bool.true_and, Nat.reduceBEq, Bool.or_true, Bool.true_or, Bool.or_self]
        rw [if_neg (by omega), if_neg (by omega)]
      · simp (disch := omega) only [q_int, mK T, M_feastOf T I.2.1 I.2.2.1.1 I.2.2.1.2.1 (show s < 8 by omega) (show y < 4 by omega), gd_true, beq_self_eq_true, bd_s, if_true, if_false, ↓reduceIte, ite_true, ite_false, Bool.and_self, Bool.and_true, Bool.true_and, Nat.reduceBEq, Bool.or_true, Bool.true_or, Bool.or_self]
        rw [if_neg (by omega), if_neg (by omega)]
    · refine ⟨mI 102, ?_, ?_⟩
      · simp (disch := omega) only [q_int]
        rw [if_neg (by omega), if_pos h2]
      · rw [if_neg (not_not_intro h1), if_pos h2]
  · refine ⟨mI 101, ?_, ?_⟩
    · simp (disch := omega) only [q_int]
      rw [if_pos (by omega)]
    · rw [if_pos h1]
