/-! PURE: saint, almanacs -/
/-- the four rows of a saint -/
def saS (S : Nat → Nat → Int32) (s : Nat) (x2 x3 x4 x5 : Int32) : Nat → Nat → Int32 := uS (uS (uS (uS S 1 s x2) 2 s x3) 3 s x4) 4 s x5
theorem saS_ne {S : Nat → Nat → Int32} {s : Nat} {x2 x3 x4 x5 : Int32} {r : Nat} (h : r = 0 ∨ 5 ≤ r) : saS S s x2 x3 x4 x5 r = S r := by
  unfold saS; rw [uS_ne (by omega), uS_ne (by omega), uS_ne (by omega), uS_ne (by omega)]
theorem saS_in {S : Nat → Nat → Int32} {s : Nat} {x2 x3 x4 x5 : Int32} : saS S s x2 x3 x4 x5 1 s = x2 ∧ saS S s x2 x3 x4 x5 2 s = x3 ∧ saS S s x2 x3 x4 x5 3 s = x4 ∧ saS S s x2 x3 x4 x5 4 s = x5 := by
  unfold saS uS; simp
theorem saS_out {S : Nat → Nat → Int32} {s t : Nat} {x2 x3 x4 x5 : Int32} (h : t ≠ s) (r : Nat) : saS S s x2 x3 x4 x5 r t = S r t := by
  unfold saS uS; simp [h]
theorem S_saint {L : Nat} {xs : Nat → Int32} {S : Nat → Nat → Int32} {w : AW} (I : Inv L xs S w) (x1 x2 x3 x4 x5 : Int32) : STEP L xs w (F_A_saint 16 x1 x2 x3 x4 x5) (F_M_saint 271 x1 x2 x3 x4 x5) := by
  have T := I.1
  by_cases h1 : 0 ≤ x1.toInt ∧ x1.toInt ≤ 7
  · obtain ⟨s, rfl, hs⟩ := q_of h1.1 (n := 7) h1.2 (by omega)
    by_cases h2 : 1 ≤ x2.toInt ∧ x2.toInt ≤ 12
    · obtain ⟨m, rfl, hm⟩ := q_of (x := x2) (by omega) (n := 12) h2.2 (by omega)
      rw [q_int (by omega)] at h2
      by_cases h3 : 1 ≤ x3.toInt ∧ x3.toInt ≤ 31
      · obtain ⟨d, rfl, hd⟩ := q_of (x := x3) (by omega) (n := 31) h3.2 (by omega)
        rw [q_int (by omega)] at h3
        by_cases h4 : 0 ≤ x4.toInt ∧ x4.toInt ≤ 3
        · obtain ⟨y, rfl, hy⟩ := q_of h4.1 (n := 3) h4.2 (by omega)
          by_cases h5 : -30 ≤ x5.toInt ∧ x5.toInt ≤ 30
          · have s1 : Sh w (upI (upI (upI (upI w 18 s (nI m)) 19 s (nI d)) 20 s (nI y)) 21 s x5) := (((Sh.upI w _ _ (by omega)).trans (Sh.upI _ _ _ (by omega))).trans (Sh.upI _ _ _ (by omega))).trans (Sh.upI _ _ _ (by omega))
            have T1 := T.sh s1
            have ne : ∀ a i, ¬ (18 ≤ a ∧ a ≤ 21) → wi (upI (upI (upI (upI w 18 s (nI m)) 19 s (nI d)) 20 s (nI y)) 21 s x5) a i = wi w a i := fun a i h => by
              simp only [wi_upI]; rw [if_neg (by omega), if_neg (by omega), if_neg (by omega), if_neg (by omega)]
            have hin := saS_in (S := S) (s := s) (x2 := nI m) (x3 := nI d) (x4 := nI y) (x5 := x5)
            have hM : IM (saS S s (nI m) (nI d) (nI y) x5) := by
              have e := saS_ne (S := S) (s := s) (x2 := nI m) (x3 := nI d) (x4 := nI y) (x5 := x5) (r := 0) (by omega)
              refine IM_S (by rw [e]) (by rw [e]) (by rw [e]) (by rw [e]) (by rw [e]) (by rw [e]) (fun r hr => saS_ne (by omega)) (fun t ht => ?_) (IMd_S (saS_ne (by omega)) I.2.2.1.2.2.1) I.2.2.1
              by_cases hts : t = s
              · subst hts
                rw [hin.1, hin.2.1, hin.2.2.1, hin.2.2.2, nat_nI (by omega), nat_nI (by omega), nat_nI (by omega)]
                exact ⟨⟨rfl, by omega, by omega⟩, ⟨rfl, by omega, by omega⟩, ⟨rfl, by omega⟩, h5⟩
              · simp only [saS_out hts]; exact I.2.2.1.2.1 t ht
            have hA : IA (saS S s (nI m) (nI d) (nI y) x5) (upI (upI (upI (upI w 18 s (nI m)) 19 s (nI d)) 20 s (nI y)) 21 s x5) := by
              obtain ⟨a1, a2, a3, a4, a5, a6, a7⟩ := I.2.2.2
              have e := saS_ne (S := S) (s := s) (x2 := nI m) (x3 := nI d) (x4 := nI y) (x5 := x5) (r := 0) (by omega)
              refine ⟨⟨?_, fun t ht => ?_⟩, DiaA_S (saS_ne (by omega)) (DiaA_w (fun a i h1 h2 => ne a i (by omega)) a2), PgA_S (by rw [e]) (saS_ne (by omega)) (PgA_w (ne 23 0 (by omega)) (fun i => ne 24 i (by omega)) a3), SyA_S (by rw [e]) (saS_ne (by omega)) (saS_ne (by omega)) (saS_ne (by omega)) (saS_ne (by omega)) (SyA_w (ne 16 4 (by omega)) (fun _ _ => rfl) (fun k hk a i h1 h2 => ne a i (by have := I.sr hk; omega)) a4), LeA_S (by rw [e]) (by rw [e]) (saS_ne (by omega)) (saS_ne (by omega)) (LeA_w (fun a i h => ne a i (by omega)) a5), AlA_S (saS_ne (by omega)) (saS_ne (by omega)) (AlA_w (fun a i h1 h2 => ne a i (by omega)) (fun a n h1 h2 => gD_j (fun _ _ => rfl) a n) a6), WFs_j (w := w) (fun _ _ => rfl) a7⟩
              · rw [ne 17 0 (by omega), e]; exact a1.1
              · by_cases hts : t = s
                · subst hts
                  rw [hin.1, hin.2.1, hin.2.2.1, hin.2.2.2]
                  simp [wi_upI]
                · simp only [saS_out hts, wi_upI, hts, and_false, if_false]; exact a1.2 t ht
            have R1 : RA S (upI (upI (upI (upI w 18 s (nI m)) 19 s (nI d)) 20 s (nI y)) 21 s x5) := by
              unfold RA
              rw [RS_eq (w := w) (fun a i h => ne a i (by omega))]
              exact I.2.1
            have R2 := (((R1.up 1 s (nI m) (by decide)).up 2 s (nI d) (by decide)).up 3 s (nI y) (by decide)).up 4 s x5 (by decide)
            refine ⟨nI 1, _, _, saS S s (nI m) (nI d) (nI y) x5, ?_, T1, ?_, Inv.mq T1 hM hA (((AF.upI (a := 272) _ s (nI m) (by omega)).trans (AF.upI (a := 273) _ s (nI d) (by omega))).trans ((AF.upI (a := 274) _ s (nI y) (by omega)).trans (AF.upI (a := 275) _ s x5 (by omega)))) R2⟩
            · unfold F_A_saint
              simp (disch := omega) only [qL, ↓qM, A_wi, A_month, A_date, A_year, q_int, mI_toInt, t16 T, t17 T, q_inb, q_nat, wk_upI, wn_upI, wr_upI, gd_true, beq_self_eq_true, bd_s, if_true, if_false, ↓reduceIte, ite_true, ite_false, Bool.and_self, Bool.and_true, Bool.true_and, Nat.reduceBEq, Bool.or_true, Bool.true_or, Bool.or_self]
              rw [if_neg (by omega), if_neg (by omega), if_neg (by omega), if_neg (by omega), if_neg (by omega)]
            · unfold F_M_saint
              simp (disch := omega) only [qL, ↓qM, M_wi, qLJ, q_int, mK T1, mCal T1, q_inb, q_nat, wk_upI, wn_upI, wr_upI, gd_true, beq_self_eq_true, bd_s, if_true, if_false, ↓reduceIte, ite_true, ite_false, Bool.and_self, Bool.and_true, Bool.true_and, Nat.reduceBEq, Bool.or_true, Bool.true_or, Bool.or_self]
              rw [if_neg (by omega), if_neg (by omega), if_neg (by omega), if_neg (by omega), if_neg (by omega)]
          · refine STEP.pure I (r := mI 102) ?_ ?_
            · unfold F_A_saint
              simp (disch := omega) only [qL, ↓qM, A_wi, A_month, A_date, A_year, q_int, mI_toInt]
              rw [if_neg (by omega), if_neg (by omega), if_neg (by omega), if_neg (by omega), if_pos (by omega)]
            · unfold F_M_saint
              simp (disch := omega) only [qL, ↓qM, M_wi, qLJ, q_int]
              rw [if_neg (by omega), if_neg (by omega), if_neg (by omega), if_neg (by omega), if_pos (by omega)]
        · refine STEP.pure I (r := mI 102) ?_ ?_
          · unfold F_A_saint
            simp (disch := omega) only [qL, ↓qM, A_wi, A_month, A_date, A_year, q_int]
            rw [if_neg (by omega), if_neg (by omega), if_neg (by omega), if_pos (by omega)]
          · unfold F_M_saint
            simp (disch := omega) only [qL, ↓qM, M_wi, qLJ, q_int]
            rw [if_neg (by omega), if_neg (by omega), if_neg (by omega), if_pos (by omega)]
      · refine STEP.pure I (r := mI 102) ?_ ?_
        · unfold F_A_saint
          simp (disch := omega) only [qL, ↓qM, A_wi, A_month, A_date, q_int]
          rw [if_neg (by omega), if_neg (by omega), if_pos (by omega)]
        · unfold F_M_saint
          simp (disch := omega) only [qL, ↓qM, M_wi, qLJ, q_int]
          rw [if_neg (by omega), if_neg (by omega), if_pos (by omega)]
    · refine STEP.pure I (r := mI 102) ?_ ?_
      · unfold F_A_saint
        simp (disch := omega) only [qL, ↓qM, A_wi, A_month, q_int]
        rw [if_neg (by omega), if_pos (by omega)]
      · unfold F_M_saint
        simp (disch := omega) only [qL, ↓qM, M_wi, qLJ, q_int]
        rw [if_neg (by omega), if_pos (by omega)]
  · refine STEP.pure I (r := mI 101) ?_ ?_
    · unfold F_A_saint
      simp (disch := omega) only [qL, ↓qM, A_wi, q_int]
      rw [if_pos (by omega)]
    · unfold F_M_saint
      simp only [qL, ↓qM, M_wi, qLJ]
      rw [if_pos (by omega)]
/-- an almanac's object, or none -/
theorem A_almanacOf {L : Nat} {xs : Nat → Int32} {w : AW} (T : Top L xs w) (x : Int32) : F_A_almanacOf w 16 x = some (if 0 ≤ x.toInt ∧ x.toInt ≤ 5 then 241 + 5 * nat x else 0) := by
  unfold F_A_almanacOf
  simp (disch := omega) only [qL, ↓qM, A_wi, q_int]
  by_cases h : 0 ≤ x.toInt ∧ x.toInt ≤ 5
  · rw [if_neg (by omega), if_pos h]
    obtain ⟨a, rfl, ha⟩ := q_of h.1 (n := 5) h.2 (by omega)
    rw [nat_nI (by omega)]
    have ta := tA T (show a < 6 by omega)
    simp (disch := omega) only [t16 T, tAl T, q_inb, q_nat, ta.2.2.2.1, gd_true, beq_self_eq_true, bd_s, if_true, if_false, ↓reduceIte, ite_true, ite_false, Bool.and_self, Bool.and_true, Bool.true_and, Nat.reduceBEq, Bool.or_true, Bool.true_or, Bool.or_self]
  · rw [if_pos (by omega), if_neg h]
theorem M_alm (x : Int32) : (F_M_isAlmanac x = nI 0) = ¬ (0 ≤ x.toInt ∧ x.toInt ≤ 5) := by
  unfold F_M_isAlmanac; rw [M_wi]; simp only [qLJ]
/-- the class with its almanacs anew -/
theorem IA_alm {L : Nat} {xs : Nat → Int32} {S S' : Nat → Nat → Int32} {w v : AW} (I : Inv L xs S w) (hi : ∀ a i, a < 241 → wi v a i = wi w a i) (hs : Sh w v) (hW : WFs v) (A : AlA S' v) (hr : ∀ r, r ≠ 6 → r ≠ 7 → S' r = S r) : IA S' v := by
  obtain ⟨a1, a2, a3, a4, a5, a6, a7⟩ := I.2.2.2
  have h0 := hr 0 (by omega) (by omega)
  refine ⟨?_, ?_, ?_, ?_, ?_, A, hW⟩
  · exact CalA_S (by rw [h0]) (hr 1 (by omega) (by omega)) (hr 2 (by omega) (by omega)) (hr 3 (by omega) (by omega)) (hr 4 (by omega) (by omega)) (CalA_w (fun a i h1 h2 => hi a i (by omega)) a1)
  · exact DiaA_S (hr 5 (by omega) (by omega)) (DiaA_w (fun a i h1 h2 => hi a i (by omega)) a2)
  · exact PgA_S (by rw [h0]) (hr 8 (by omega) (by omega)) (PgA_w (hi 23 0 (by omega)) (fun i => hi 24 i (by omega)) a3)
  · exact SyA_S (by rw [h0]) (hr 13 (by omega) (by omega)) (hr 14 (by omega) (by omega)) (hr 15 (by omega) (by omega)) (hr 16 (by omega) (by omega)) (SyA_w (hi 16 4 (by omega)) (fun k _ => hs.2.2.2.2.1 37 k) (fun k hk a i h1 h2 => hi a i (by have := I.sr hk; omega)) a4)
  · exact LeA_S (by rw [h0]) (by rw [h0]) (hr 25 (by omega) (by omega)) (hr 26 (by omega) (by omega)) (LeA_w (fun a i h => hi a i (by omega)) a5)
theorem IM_alm {S S' : Nat → Nat → Int32} (hr : ∀ r, r ≠ 6 → r ≠ 7 → S' r = S r) (I : IM S) : IM S' := by
  have h0 := hr 0 (by omega) (by omega)
  exact IM_S (by rw [h0]) (by rw [h0]) (by rw [h0]) (by rw [h0]) (by rw [h0]) (by rw [h0]) (fun r _ => hr r (by omega) (by omega)) (IMs_S (hr 1 (by omega) (by omega)) (hr 2 (by omega) (by omega)) (hr 3 (by omega) (by omega)) (hr 4 (by omega) (by omega)) I.2.1) (IMd_S (hr 5 (by omega) (by omega)) I.2.2.1) I
theorem S_age {L : Nat} {xs : Nat → Int32} {S : Nat → Nat → Int32} {w : AW} (I : Inv L xs S w) (x1 x2 : Int32) : STEP L xs w (F_A_age 16 x1 x2) (F_M_age 271 x1 x2) := by
  have T := I.1
  have hV := A_almanacOf T x1
  by_cases h1 : 0 ≤ x1.toInt ∧ x1.toInt ≤ 5
  · obtain ⟨a, rfl, ha⟩ := q_of h1.1 (n := 5) h1.2 (by omega)
    rw [if_pos h1, nat_nI (by omega)] at hV
    have ta := tA T (show a < 6 by omega)
    by_cases h2 : 0 ≤ x2.toInt ∧ x2.toInt ≤ 9999
    · have s1 : Sh w (upI w (241 + 5 * a) 0 x2) := Sh.upI w _ _ (by omega)
      have T1 := T.sh s1
      have hr : ∀ r, r ≠ 6 → r ≠ 7 → uS S 6 a x2 r = S r := fun r h _ => uS_ne h
      have A1 : AlA (uS S 6 a x2) (upI w (241 + 5 * a) 0 x2) := by
        intro b hb
        refine ⟨?_, fun n hn => ?_⟩
        · rw [wi_upI]
          by_cases e : b = a
          · subst e; rw [if_pos ⟨rfl, rfl⟩, uS_eq]
          · rw [if_neg (by omega), uS_nei (.inr e)]; exact (I.2.2.2.2.2.2.2.2.1 b hb).1
        · rw [uS_ne (by omega)]
          exact (I.2.2.2.2.2.2.2.2.1 b hb).2 n hn
      have R1 : RA S (upI w (241 + 5 * a) 0 x2) := by
        unfold RA
        rw [RS_eq (w := w) (fun b i hb => by rw [wi_upI, if_neg (by omega)])]
        exact I.2.1
      refine ⟨S 6 a, _, _, uS S 6 a x2, ?_, T1, ?_, Inv.mq T1 (IM_alm hr I.2.2.1) (IA_alm I (fun b i hb => by rw [wi_upI, if_neg (by omega)]) s1 (WFs_j (w := w) (fun _ _ => rfl) I.2.2.2.2.2.2.2.2.2) A1 hr) (AF.upI _ a x2 (by omega)) (R1.up 6 a x2 (by decide))⟩
      · unfold F_A_age
        simp (disch := omega) only [qL, ↓qM, t16 T, hV, A_wi, q_int, ta.1, (I.2.2.2.2.2.2.2.2.1 a (show a < 6 by omega)).1, gd_true, beq_self_eq_true, bd_s, if_true, if_false, ↓reduceIte, ite_true, ite_false, Bool.and_self, Bool.and_true, Bool.true_and, Nat.reduceBEq, Bool.or_true, Bool.true_or, Bool.or_self]
        rw [if_neg (by omega), if_neg (by omega)]
      · unfold F_M_age
        simp (disch := omega) only [qL, ↓qM, M_alm, M_wi, qLJ, q_int, mK T1, mAlm T1, q_inb, q_nat, ra6 R1, gd_true, beq_self_eq_true, bd_s, if_true, if_false, ↓reduceIte, ite_true, ite_false, Bool.and_self, Bool.and_true, Bool.true_and, Nat.reduceBEq, Bool.or_true, Bool.true_or, Bool.or_self]
        rw [if_neg (by omega), if_neg (by omega)]
    · refine STEP.pure I (r := mI 102) ?_ ?_
      · unfold F_A_age
        simp (disch := omega) only [qL, ↓qM, t16 T, hV, A_wi, q_int, gd_true, beq_self_eq_true, bd_s, if_true, if_false, ↓reduceIte, ite_true, ite_false, Bool.and_self, Bool.and_true, Bool.true_and, Nat.reduceBEq, Bool.or_true, Bool.true_or, Bool.or_self]
        rw [if_neg (by omega), if_pos (by omega)]
      · unfold F_M_age
        simp (disch := omega) only [qL, ↓qM, M_alm, M_wi, qLJ]
        rw [if_neg (by omega), if_pos (by omega)]
  · rw [if_neg h1] at hV
    refine STEP.pure I (r := mI 101) ?_ ?_
    · unfold F_A_age
      simp only [qL, ↓qM, t16 T, hV, gd_true, beq_self_eq_true, bd_s, if_true, if_false, ↓reduceIte, ite_true, ite_false, Bool.and_self, Bool.and_true, Bool.true_and, Nat.reduceBEq, Bool.or_true, Bool.true_or, Bool.or_self]
    · unfold F_M_age
      simp only [qL, ↓qM, M_alm]
      rw [if_pos h1]
