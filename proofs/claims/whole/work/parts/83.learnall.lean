/-! PURE: learn, on both sides -/
section
variable {L : Nat} {xs : Nat → Int32} {S : Nat → Nat → Int32}
theorem wd_in (S : Nat → Nat → Int32) (v s a z x y : Nat) : (1 ≤ z → wd3 S v s a z x y 0 = mst (tru S v s) (tdS (lrn S v s a) (tel S v) (lf x y) 0)) ∧ (2 ≤ z → wd3 S v s a z x y 1 = mst (tru S v s) (tdS (lrn S v s a) (tel S v) (lf x y) 1)) ∧ (z ≤ 2 → wd3 S v s a z x y 2 = mst (tru S v s) (rst (lrn S v s a) (tel S v) (lf x y) z)) := by
  unfold wd3
  refine ⟨fun h => ?_, fun h => ?_, fun h => ?_⟩
  · rw [PG_0, if_pos h]
  · rw [PG_1, if_pos h]
  · rw [PG_2 S v s a z x y h]
theorem ron_0 (tr : Nat → Bool) (b : Bool) : ron tr (fun _ => false) b = 0 := by
  unfold ron
  have e1 : cnt (fun _ => false) 1461 = 0 := cnt_false 1461 (fun _ _ => rfl)
  have e2 : cnt (fun n => false && tr n) 1461 = 0 := cnt_false 1461 (fun _ _ => rfl)
  rw [e1, e2]; split <;> rfl
theorem jd_in (S : Nat → Nat → Int32) (v s a z x y : Nat) (hz : z ≤ 2) : jd3 S v s a z x y 0 + jd3 S v s a z x y 1 + jd3 S v s a z x y 2 = jrR (tru S v s) (lrn S v s a) (lrn S v s (15 - a)) (tel S v) (lf x y) z + ron (tru S v s) (rst (lrn S v s (15 - a)) (tel S v) (lf x y) z) (mst (tru S v s) (rst (lrn S v s a) (tel S v) (lf x y) z)) := by
  have w := wd_in S v s a z x y
  have e0 := PG_0 S v s (15 - a) z x y
  have e1 := PG_1 S v s (15 - a) z x y
  have e2 := PG_2 S v s (15 - a) z x y hz
  unfold jd3
  rw [e0, e1, e2, w.2.2 hz]
  have : z = 0 ∨ z = 1 ∨ z = 2 := by omega
  rcases this with e | e | e <;> subst e
  · rw [if_neg (by omega), if_neg (by omega), ron_0, ron_0]; unfold jrR; omega
  · rw [if_pos (by omega), if_neg (by omega), ron_0, w.1 (by omega)]; unfold jrR jrR; omega
  · rw [if_pos (by omega), if_pos (by omega), w.1 (by omega), w.2.1 (by omega)]; unfold jrR jrR jrR; omega
theorem EF.ia {w v : AW} (I : Inv L xs S w) (h : EF w v) : CalA S v ∧ DiaA S v ∧ PgA S v ∧ SyA S v ∧ AlA S v ∧ WFs v := by
  obtain ⟨a1, a2, a3, a4, a5, a6, a7⟩ := I.2.2.2
  refine ⟨?_, ?_, ?_, ?_, ?_, h.2.2.2 a7⟩
  · exact CalA_w (fun a i h1 h2 => h.2.1 a i (by omega)) a1
  · exact DiaA_w (fun a i h1 h2 => h.2.1 a i (by omega)) a2
  · exact PgA_w (h.2.1 23 0 (by omega)) (fun i => h.2.1 24 i (by omega)) a3
  · exact SyA_w (h.2.1 16 4 (by omega)) (fun k _ => h.1.2.2.2.2.1 37 k) (fun k hk a i h1 h2 => h.2.1 a i (by have := I.sr hk; omega)) a4
  · exact AlA_w (fun a i h1 h2 => h.2.1 a i (by omega)) (fun a n h1 h2 => h.2.2.1 a (by omega) n) a6
theorem S_learn {w : AW} (I : Inv L xs S w) (x1 x2 x3 x4 : Int32) : STEP L xs w (F_A_learn 16 x1 x2 x3 x4) (F_M_learn 271 x1 x2 x3 x4) := by
  have T := I.1
  have R := I.2.1
  have Is := I.2.2.1.2.2.2.2.1
  have h8 := Is.2.1
  have le := I.2.2.2.2.2.2.2.1
  have Ile := I.2.2.1.2.2.2.2.2
  have hV := A_diaryOf T x1
  have hS := A_sayingOf T Is I.2.2.2.2.2.2.1 x2
  have hMS := M_isSaying T R Is x2
  by_cases h1 : 0 ≤ x1.toInt ∧ x1.toInt ≤ 2
  · obtain ⟨v, rfl, hv⟩ := q_of h1.1 (n := 2) h1.2 (by omega)
    rw [if_pos h1, nat_nI (by omega)] at hV
    by_cases h2 : 0 ≤ x2.toInt ∧ x2.toInt < nS S
    · obtain ⟨s, rfl, hs'⟩ := q_of h2.1 (n := 7) (by omega) (by omega)
      rw [q_int (by omega)] at h2
      have hs : s < nS S := by omega
      have sa := I.say hs
      rw [q_int (by omega), if_pos (by omega), nat_nI (by omega)] at hS
      rw [q_int (by omega), decide_eq_true (by omega)] at hMS
      by_cases h3 : 0 ≤ x3.toInt ∧ x3.toInt ≤ 2
      · obtain ⟨sz, rfl, hsz⟩ := q_of h3.1 (n := 2) h3.2 (by omega)
        by_cases h4 : 0 ≤ x4.toInt ∧ x4.toInt ≤ 15
        · obtain ⟨a, rfl, ha⟩ := q_of h4.1 (n := 15) h4.2 (by omega)
          by_cases h5 : nat (S 0 40) = 12
          · have e40 : S 0 40 = nI 12 := by rw [Ile.1, h5]
            refine STEP.pure I (r := mI 103) ?_ ?_
            · unfold F_A_learn
              simp (disch := omega) only [qL, ↓qM, t16 T, t136 T, hS, hV, A_wi, q_int, le.1, e40, gd_true, beq_self_eq_true, bd_s, if_true, if_false, ↓reduceIte, ite_true, ite_false, Bool.and_self, Bool.and_true, Bool.true_and, Nat.reduceBEq, Bool.or_true, Bool.true_or, Bool.or_self]
              rw [if_neg (by omega), if_neg sa.2, if_neg (by omega), if_neg (by omega), if_neg (show ¬ nI 12 < nI 12 by decide +kernel)]
            · unfold F_M_learn
              simp (disch := omega) only [qL, ↓qM, M_valley, mK T, hMS, q_b0, M_wi, qLJ, q_int, rf40 R, e40, gd_true, beq_self_eq_true, bd_s, if_true, if_false, ↓reduceIte, ite_true, ite_false, Bool.and_self, Bool.and_true, Bool.true_and, Nat.reduceBEq, Bool.or_true, Bool.true_or, Bool.or_self]
              rw [if_neg (by omega), if_neg (by simp), if_neg (by omega), if_neg (by omega)]
          · have hq : nat (S 0 40) < 12 := by have := Ile.2.1; omega
            obtain ⟨w1, p1, d1, hL⟩ := A_learn1 I (nI sz) (show v < 3 by omega) hs (show a < 16 by omega) (by rw [q_int (by omega)]; omega) hq
            have I1 := I.df d1 (fun q h => by omega)
            obtain ⟨w4, p4, E4, e0, e1, w2, w3, hsl, FN3, ew4⟩ := A_learn2 (w := w) I1 hsz hL
            have T4 := I1.1.sh E4.1
            have R4 : RA S w4 := by
              unfold RA
              rw [RS_eq (w := w1) (fun b i hb => E4.2.1 b i (by omega))]
              exact I1.2.1
            -- the reference
            have R5 := R4.upK 40 (S 0 40 + nI 1) (by decide)
            have A5 : AF w4 (upI w4 271 40 (S 0 40 + nI 1)) := AF.upI _ _ _ (by omega)
            have T5 := T4.sh A5.sh
            have ir : ∀ r, r ≠ 0 → uS S 0 40 (S 0 40 + nI 1) r = S r := fun r h => uS_ne h
            have i0 : ∀ i, i ≠ 40 → uS S 0 40 (S 0 40 + nI 1) 0 i = S 0 i := fun i h => uS_nei (.inr h)
            have Im := I.2.2.1
            obtain ⟨wM, S3, m1, m2, m3, m4, m5, m6, m7, m8, m9, m10, m11, m12, m13, m14, m15⟩ := M_learn2 (sz := sz) (a := a) T5 R5 (IMf_S (i0 0 (by omega)) Im.1) (IMs_S (ir 1 (by omega)) (ir 2 (by omega)) (ir 3 (by omega)) (ir 4 (by omega)) Im.2.1) (IMsy_S (i0 29 (by omega)) (ir 13 (by omega)) (ir 14 (by omega)) (ir 15 (by omega)) (ir 16 (by omega)) Im.2.2.2.2.1) (show v < 3 by omega) (show s < nS (uS S 0 40 (S 0 40 + nI 1)) by unfold nS; rw [i0 29 (by omega)]; exact hs) (show a < 16 by omega) hsz
            have hrr : ∀ r, 1 ≤ r → r ≤ 16 → uS S 0 40 (S 0 40 + nI 1) r = S r := fun r h1 h2 => ir r (by omega)
            have ec := same_ch (i0 0 (by omega)) (i0 29 (by omega)) hrr
            have ew := same_wd (i0 0 (by omega)) hrr
            have el := same_lrn (i0 0 (by omega)) hrr
            rw [ec] at m1 m7 m8 m9 m10 m11 m13 m15
            rw [ew.1] at m8 m9 m10
            rw [ew.2] at m15
            rw [el] at m12 m14
            have hok := chF_ok S v s a hsz
            generalize hc : chF S v s a sz = c at *
            obtain ⟨cr, z, x, y⟩ := c
            simp only at *
            have hz : z ≤ 2 := hok.1.2
            have nr : ∀ r, r ≠ 0 → (r < 23 ∨ 26 < r) → S3 r = S r := fun r h h2 => (m4 r h h2).trans (ir r h)
            have n0 : ∀ i, i ≠ 40 → i ≠ 41 → i ≠ 45 → S3 0 i = S 0 i := fun i h1 h2 h3 => (m5 i h2 h3).trans (i0 i h1)
            have n40 : S3 0 40 = nI (nat (S 0 40) + 1) := by
              rw [m5 40 (by omega) (by omega), uS_eq]
              conv => lhs; rw [Ile.1]
              exact nI_add _ _
            have hw := wd_in S v s a z x y
            have v136 : ∀ i, i ≠ 0 → wi w4 136 i = wi w3 136 i := fun i h => by rw [ew4, wi_upI, if_neg (fun e => h e.2)]
            have v149 : ∀ i, wi w4 149 i = wi w2 149 i := fun i => by rw [ew4, wi_upI, if_neg (by omega)]; exact FN3.2.2.1 i
            have v150 : ∀ i, wi w4 150 i = wi w3 150 i := fun i => by rw [ew4, wi_upI, if_neg (by omega)]
            have hIM : IM S3 := by
              refine ⟨IMf_S (n0 0 (by omega) (by omega) (by omega)) Im.1, IMs_S (nr 1 (by omega) (by omega)) (nr 2 (by omega) (by omega)) (nr 3 (by omega) (by omega)) (nr 4 (by omega) (by omega)) Im.2.1, IMd_S (nr 5 (by omega) (by omega)) Im.2.2.1, IMpg_S (n0 9 (by omega) (by omega) (by omega)) (nr 8 (by omega) (by omega)) Im.2.2.2.1, IMsy_S (n0 29 (by omega) (by omega) (by omega)) (nr 13 (by omega) (by omega)) (nr 14 (by omega) (by omega)) (nr 15 (by omega) (by omega)) (nr 16 (by omega) (by omega)) Im.2.2.2.2.1, ?_⟩
              unfold IMle
              rw [n40, m7, m6, m10, m11, nat_nI (by omega), nat_nI (by omega)]
              refine ⟨rfl, by omega, rfl, hz, by rw [if_neg (by omega)], fun h => by omega, fun _ => ⟨rfl, ?_⟩⟩
              cases wd3 S v s a z x y 2
              · exact .inl rfl
              · exact .inr rfl
            have hIA : IA S3 w4 := by
              obtain ⟨a1, a2, a3, a4, a6, a7⟩ := EF.ia I1 E4
              refine ⟨CalA_S (n0 0 (by omega) (by omega) (by omega)) (nr 1 (by omega) (by omega)) (nr 2 (by omega) (by omega)) (nr 3 (by omega) (by omega)) (nr 4 (by omega) (by omega)) a1, DiaA_S (nr 5 (by omega) (by omega)) a2, PgA_S (n0 9 (by omega) (by omega) (by omega)) (nr 8 (by omega) (by omega)) a3, SyA_S (n0 29 (by omega) (by omega) (by omega)) (nr 13 (by omega) (by omega)) (nr 14 (by omega) (by omega)) (nr 15 (by omega) (by omega)) (nr 16 (by omega) (by omega)) a4, ?_, AlA_S (nr 6 (by omega) (by omega)) (nr 7 (by omega) (by omega)) a6, a7⟩
              unfold LeA
              rw [m7, m10, m12, m13, m14, m15, nat_nI (show z < 2147483648 by omega)]
              refine ⟨?_, ?_, fun _ => ⟨?_, ?_, ?_, ?_, ?_⟩, fun i hi => ?_⟩
              · rw [e0, m5 40 (by omega) (by omega), uS_eq]
              · rw [v136 11 (by omega), FN3.2.1 11 (.inr (.inr rfl))]; exact hsl.1
              · rw [v136 12 (by omega), FN3.2.2.2.2.1, hw.2.2 hz]
              · rw [v136 13 (by omega), FN3.2.2.2.2.2.1]
              · exact e1
              · rw [v136 14 (by omega), FN3.2.2.2.2.2.2.1]
              · rw [v136 15 (by omega), FN3.2.2.2.2.2.2.2, jd_in S v s a z x y hz]
              · have hb : ∀ b : Bool, (if nI b.toNat = nI 0 then nI 0 else nI 1) = nI b.toNat := fun b => by cases b <;> decide +kernel
                have hi2 : i = 0 ∨ i = 1 := by omega
                rw [v149, v150, (hsl.2.2 i hi).1, FN3.2.2.2.1 i hi, hb]
                rcases hi2 with e | e
                · subst e
                  have hz1 : 1 ≤ z := by omega
                  rw [m8, hw.1 hz1]; unfold o1; rw [if_pos hz1]; rfl
                · subst e
                  have hz2 : 2 ≤ z := by omega
                  rw [m9, hw.2.1 hz2]; unfold o2; rw [if_pos hz2]; rfl
            refine ⟨nI cr, w4, wM, S3, ?_, T4, ?_, Inv.mq T4 hIM hIA (A5.trans m2) m3⟩
            · rw [p1]; exact p4
            · have Is4 := M_isSaying T4 R4 Is (nI s)
              rw [q_int (by omega), decide_eq_true (by omega)] at Is4
              unfold F_M_learn
              have h12 : ¬ S 0 40 = nI 12 := fun e => h5 (by rw [e, nat_nI (by omega)])
              simp (disch := omega) only [qL, ↓qM, M_valley, mK T4, Is4, q_b0, M_wi, qLJ, q_int, rf40 R4, gd_true, beq_self_eq_true, bd_s, if_true, if_false, ↓reduceIte, ite_true, ite_false, Bool.and_self, Bool.and_true, Bool.true_and, Nat.reduceBEq, Bool.or_true, Bool.true_or, Bool.or_self]
              rw [if_neg (by omega), if_neg (by simp), if_neg (by omega), if_neg (by omega), if_neg h12]
              exact m1
        · refine STEP.pure I (r := mI 102) ?_ ?_
          · unfold F_A_learn
            simp (disch := omega) only [qL, ↓qM, t16 T, hS, hV, A_wi, q_int, gd_true, beq_self_eq_true, bd_s, if_true, if_false, ↓reduceIte, ite_true, ite_false, Bool.and_self, Bool.and_true, Bool.true_and, Nat.reduceBEq, Bool.or_true, Bool.true_or, Bool.or_self]
            rw [if_neg (by omega), if_neg sa.2, if_neg (by omega), if_pos (by omega)]
          · unfold F_M_learn
            simp (disch := omega) only [qL, ↓qM, M_valley, mK T, hMS, q_b0, M_wi, qLJ, q_int, gd_true, beq_self_eq_true, bd_s, if_true, if_false, ↓reduceIte, ite_true, ite_false, Bool.and_self, Bool.and_true, Bool.true_and, Nat.reduceBEq, Bool.or_true, Bool.true_or, Bool.or_self]
            rw [if_neg (by omega), if_neg (by simp), if_neg (by omega), if_pos (by omega)]
      · refine STEP.pure I (r := mI 102) ?_ ?_
        · unfold F_A_learn
          simp (disch := omega) only [qL, ↓qM, t16 T, hS, hV, A_wi, q_int, gd_true, beq_self_eq_true, bd_s, if_true, if_false, ↓reduceIte, ite_true, ite_false, Bool.and_self, Bool.and_true, Bool.true_and, Nat.reduceBEq, Bool.or_true, Bool.true_or, Bool.or_self]
          rw [if_neg (by omega), if_neg sa.2, if_pos (by omega)]
        · unfold F_M_learn
          simp (disch := omega) only [qL, ↓qM, M_valley, mK T, hMS, q_b0, M_wi, qLJ, q_int, gd_true, beq_self_eq_true, bd_s, if_true, if_false, ↓reduceIte, ite_true, ite_false, Bool.and_self, Bool.and_true, Bool.true_and, Nat.reduceBEq, Bool.or_true, Bool.true_or, Bool.or_self]
          rw [if_neg (by omega), if_neg (by simp), if_pos (by omega)]
    · rw [if_neg h2] at hS
      rw [decide_eq_false h2] at hMS
      refine STEP.pure I (r := mI 101) ?_ ?_
      · unfold F_A_learn
        rw [hV, hS]
        simp only [qL, ↓qM, t16 T, gd_true, beq_self_eq_true, bd_s, if_true, if_false, ↓reduceIte, ite_true, ite_false, Bool.and_self, Bool.and_true, Bool.true_and, Nat.reduceBEq, Bool.or_true, Bool.true_or, Bool.or_self]
        rw [if_neg (by omega)]
      · unfold F_M_learn
        simp (disch := omega) only [qL, ↓qM, M_valley, mK T, hMS, q_b0, q_int, gd_true, beq_self_eq_true, bd_s, if_true, if_false, ↓reduceIte, ite_true, ite_false, Bool.and_self, Bool.and_true, Bool.true_and, Nat.reduceBEq, Bool.or_true, Bool.true_or, Bool.or_self]
        rw [if_neg (by omega)]
  · rw [if_neg h1] at hV
    refine STEP.pure I (r := mI 101) ?_ ?_
    · unfold F_A_learn
      rw [hV, hS]
      simp only [qL, ↓qM, t16 T, gd_true, beq_self_eq_true, bd_s, if_true, if_false, ↓reduceIte, ite_true, ite_false, Bool.and_self, Bool.and_true, Bool.true_and, Nat.reduceBEq, Bool.or_true, Bool.true_or, Bool.or_self]
    · unfold F_M_learn
      simp only [qL, ↓qM, M_valley]
      rw [if_pos h1]
end
