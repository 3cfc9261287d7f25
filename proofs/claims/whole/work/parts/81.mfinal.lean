/-! PURE: the reference's list written down -/
section
variable {L : Nat} {xs : Nat → Int32} {S : Nat → Nat → Int32}
theorem CU.ne {v s b z x y n : Nat} {w u : AW} (C : CU S v s b z x y w n) (h : ∀ i, wi u 298 i = wi w 298 i ∧ wi u 299 i = wi w 299 i) : CU S v s b z x y u n := fun g hg => by rw [(h g).1, (h g).2]; exact C g hg
theorem NT.ne {v s : Nat} {w u : AW} (N : NT S v s w) (h : ∀ i, wi u 294 i = wi w 294 i ∧ wi u 295 i = wi w 295 i) : NT S v s u := ⟨fun i hi => by rw [(h i).2]; exact N.1 i hi, fun i hi => by rw [(h i).1]; exact N.2 i hi⟩
theorem M_409 {v s a z x y : Nat} {W : AW} (TW : Top L xs W) (RW : RA S W) (If : IMf S) (Is : IMsy S) (N : NT S v s W) (ha : a < 16) (hz : z ≤ 2) (hx : 1 ≤ z → x < nS S) (hy : 2 ≤ z → y < nS S) (CA : CU S v s a z x y W 1461) (X7 : Int32) : ∃ w2 S3, F_M_learn_409 271 (nI a) (o1 z x) (o2 z y) X7 (nI (wd3 S v s a z x y 0).toNat) (nI (wd3 S v s a z x y 1).toNat) (nI (wd3 S v s a z x y 2).toNat) W = some (X7, w2) ∧ AF W w2 ∧ RA S3 w2 ∧ (∀ r, r ≠ 25 → r ≠ 26 → S3 r = S r) ∧ S3 25 0 = nI 2 * o1 z x + nI (wd3 S v s a z x y 0).toNat ∧ S3 25 1 = nI 2 * o2 z y + nI (wd3 S v s a z x y 1).toNat ∧ S3 26 0 = nI (wd3 S v s a z x y 2).toNat ∧ S3 26 1 = S 0 45 ∧ S3 26 2 = nI (cnt (lrn S v s a) 1461) ∧ S3 26 3 = X7 ∧ S3 26 4 = nI (cnt (lrn S v s (15 - a)) 1461) ∧ S3 26 5 = nI (jd3 S v s a z x y 0 + jd3 S v s a z x y 1 + jd3 S v s a z x y 2) := by
  have c0 := CA.le (g := 0) (by omega)
  have c1 := CA.le (g := 1) (by omega)
  have c2 := CA.le (g := 2) (by omega)
  have ct := cnt_3 S v s a z x y 1461
  generalize hA0 : nI 2 * o1 z x + nI (wd3 S v s a z x y 0).toNat = A0
  generalize hA1 : nI 2 * o2 z y + nI (wd3 S v s a z x y 1).toNat = A1
  generalize hB : nI (wd3 S v s a z x y 2).toNat = B2
  -- what is written ahead of the judgement
  generalize hW1 : upI (upI (upI (upI W 296 0 A0) 296 1 A1) 297 0 B2) 297 1 (S 0 45) = W1
  have R1 : RA (uS (uS (uS (uS S 25 0 A0) 25 1 A1) 26 0 B2) 26 1 (S 0 45)) W1 := by
    rw [← hW1]
    exact (((RW.up 25 0 A0 (by decide)).up 25 1 A1 (by decide)).up 26 0 B2 (by decide)).up 26 1 (S 0 45) (by decide)
  have F1 : AF W W1 := by
    rw [← hW1]
    exact ((AF.upI W _ _ (by omega)).trans (AF.upI _ _ _ (by omega))).trans ((AF.upI _ _ _ (by omega)).trans (AF.upI _ _ _ (by omega)))
  have n1 : ∀ b j, b ≠ 296 → b ≠ 297 → wi W1 b j = wi W b j := fun b j h1 h2 => by
    rw [← hW1, wi_upI, if_neg (by omega), wi_upI, if_neg (by omega), wi_upI, if_neg (by omega), wi_upI, if_neg (by omega)]
  generalize hW2 : upI (upI W1 297 2 (nI (cnt (lrn S v s a) 1461))) 297 3 X7 = W2
  generalize hS4 : uS (uS (uS (uS (uS (uS S 25 0 A0) 25 1 A1) 26 0 B2) 26 1 (S 0 45)) 26 2 (nI (cnt (lrn S v s a) 1461))) 26 3 X7 = S4
  have R2 : RA S4 W2 := by
    rw [← hW2, ← hS4]
    exact (R1.up 26 2 _ (by decide)).up 26 3 X7 (by decide)
  have F2 : AF W W2 := by
    rw [← hW2]
    exact F1.trans ((AF.upI _ _ _ (by omega)).trans (AF.upI _ _ _ (by omega)))
  have n2 : ∀ b j, b ≠ 296 → b ≠ 297 → wi W2 b j = wi W b j := fun b j h1 h2 => by
    rw [← hW2, wi_upI, if_neg (by omega), wi_upI, if_neg (by omega), n1 b j h1 h2]
  have hr4 : ∀ r, r ≠ 25 → r ≠ 26 → S4 r = S r := fun r h1 h2 => by
    rw [← hS4, uS_ne h2, uS_ne h2, uS_ne h2, uS_ne h2, uS_ne h1, uS_ne h1]
  have e0 := hr4 0 (by omega) (by omega)
  have sm := fun w => same_cu (w := w) (S := S) (S' := S4) (by rw [e0]) (by rw [e0]) (fun r h1 h2 => hr4 r (by omega) (by omega)) (v := v) (s := s)
  have T1 := TW.sh F1.sh
  have T2 := TW.sh F2.sh
  have N2 := (sm W2).1 (N.ne (fun i => ⟨n2 _ _ (by omega) (by omega), n2 _ _ (by omega) (by omega)⟩))
  have Is4 : IMsy S4 := IMsy_S (by rw [e0]) (hr4 13 (by omega) (by omega)) (hr4 14 (by omega) (by omega)) (hr4 15 (by omega) (by omega)) (hr4 16 (by omega) (by omega)) Is
  have hn4 : nS S4 = nS S := by unfold nS; rw [e0]
  obtain ⟨W3, p3, f3, C3⟩ := M_countBy T2 R2 (IMf_S (by rw [e0]) If) Is4 N2 (show 15 - a < 16 by omega) hz (fun h => by rw [hn4]; exact hx h) (fun h => by rw [hn4]; exact hy h)
  have C3' := (sm W3).2 _ _ _ _ _ C3
  have T3 := T2.sh f3.1.sh
  have R3 := f3.ra R2
  have d0 := C3'.le (g := 0) (by omega)
  have d1 := C3'.le (g := 1) (by omega)
  have d2 := C3'.le (g := 2) (by omega)
  have dt := cnt_3 S v s (15 - a) z x y 1461
  generalize hW4 : upI W3 297 4 (nI (cnt (lrn S v s (15 - a)) 1461)) = W4
  have n4 : ∀ b j, b ≠ 297 → wi W4 b j = wi W3 b j := fun b j h => by rw [← hW4, wi_upI, if_neg (by omega)]
  have R4 : RA (uS S4 26 4 (nI (cnt (lrn S v s (15 - a)) 1461))) W4 := by rw [← hW4]; exact R3.up 26 4 _ (by decide)
  have F4 : AF W W4 := by rw [← hW4]; exact F2.trans (f3.1.trans (AF.upI _ _ _ (by omega)))
  have T4 := TW.sh F4.sh
  have C4 : CU S v s (15 - a) z x y W4 1461 := C3'.ne (fun i => ⟨n4 _ _ (by omega), n4 _ _ (by omega)⟩)
  have R5 := R4.up 26 5 (nI (jd3 S v s a z x y 0) + nI (jd3 S v s a z x y 1) + nI (jd3 S v s a z x y 2)) (by decide)
  refine ⟨upI W4 297 5 (nI (jd3 S v s a z x y 0) + nI (jd3 S v s a z x y 1) + nI (jd3 S v s a z x y 2)), uS (uS S4 26 4 (nI (cnt (lrn S v s (15 - a)) 1461))) 26 5 (nI (jd3 S v s a z x y 0) + nI (jd3 S v s a z x y 1) + nI (jd3 S v s a z x y 2)), ?_, F4.trans (AF.upI _ _ _ (by omega)), R5, fun r h1 h2 => ?_, ?_, ?_, ?_, ?_, ?_, ?_, ?_, ?_⟩
  · have e589 : ∀ s3 s2 : Int32, F_M_learn_589 271 X7 (nI (wd3 S v s a z x y 2).toNat) s3 s2 (nI 5) 297 W4 = some (X7, upI W4 297 5 (s2 + s3 + nI (jd3 S v s a z x y 2))) := by
      intro s3 s2
      unfold F_M_learn_589
      simp (disch := omega) only [qL, ↓qM, mLrn T4, q_inb, q_nat, gd_true, beq_self_eq_true, bd_s, if_true, if_false, ↓reduceIte, ite_true, ite_false, Bool.and_self, Bool.and_true, Bool.true_and, Nat.reduceBEq, Bool.or_true, Bool.true_or, Bool.or_self]
      exact M_ron C4 (g := 2) (by omega) (fun q => some (X7, upI W4 297 5 (s2 + s3 + q)))
    have e561 : ∀ s2 : Int32, F_M_learn_561 271 X7 (nI (wd3 S v s a z x y 1).toNat) (nI (wd3 S v s a z x y 2).toNat) s2 (nI 5) 297 W4 = some (X7, upI W4 297 5 (s2 + nI (jd3 S v s a z x y 1) + nI (jd3 S v s a z x y 2))) := by
      intro s2
      unfold F_M_learn_561
      simp (disch := omega) only [qL, ↓qM, mLrn T4, q_inb, q_nat, e589, gd_true, beq_self_eq_true, bd_s, if_true, if_false, ↓reduceIte, ite_true, ite_false, Bool.and_self, Bool.and_true, Bool.true_and, Nat.reduceBEq, Bool.or_true, Bool.true_or, Bool.or_self]
      exact M_ron C4 (g := 1) (by omega) (fun q => some (X7, upI W4 297 5 (s2 + q + nI (jd3 S v s a z x y 2))))
    have tot : nI (cnt (PG S v s a z x y 0) 1461) + nI (cnt (PG S v s a z x y 1) 1461) + nI (cnt (PG S v s a z x y 2) 1461) = nI (cnt (lrn S v s a) 1461) := by rw [nI_add, nI_add, ct]
    have totJ : nI (cnt (PG S v s (15 - a) z x y 0) 1461) + nI (cnt (PG S v s (15 - a) z x y 1) 1461) + nI (cnt (PG S v s (15 - a) z x y 2) 1461) = nI (cnt (lrn S v s (15 - a)) 1461) := by rw [nI_add, nI_add, dt]
    have e45 : wi (upI (upI (upI W 296 0 A0) 296 1 A1) 297 0 B2) 271 45 = S 0 45 := by
      rw [wi_upI, if_neg (by omega), wi_upI, if_neg (by omega), wi_upI, if_neg (by omega), rf45 RW]
    have k0 : wi W1 298 0 = nI (cnt (PG S v s a z x y 0) 1461) := by rw [n1 _ _ (by omega) (by omega)]; exact c0.1
    have k1 : wi W1 298 1 = nI (cnt (PG S v s a z x y 1) 1461) := by rw [n1 _ _ (by omega) (by omega)]; exact c1.1
    have k2 : wi W1 298 2 = nI (cnt (PG S v s a z x y 2) 1461) := by rw [n1 _ _ (by omega) (by omega)]; exact c2.1
    unfold F_M_learn_409
    simp (disch := omega) only [qL, ↓qM, mLrn TW, wk_upI, wn_upI, wr_upI, q_inb, q_nat, hA0, hA1, hB, e45, hW1, mLrn T1, k0, k1, k2, tot, hW2, pk_sub, p3, mLrn T3, d0.1, d1.1, d2.1, totJ, hW4, mLrn T4, gd_true, beq_self_eq_true, bd_s, if_true, if_false, ↓reduceIte, ite_true, ite_false, Bool.and_self, Bool.and_true, Bool.true_and, Nat.reduceBEq, Bool.or_true, Bool.true_or, Bool.or_self]
    rw [← hB]
    simp only [e561]
    exact M_ron C4 (g := 0) (by omega) (fun q => some (X7, upI W4 297 5 (q + nI (jd3 S v s a z x y 1) + nI (jd3 S v s a z x y 2))))
  · rw [uS_ne h2, uS_ne h2]; exact hr4 r h1 h2
  · rw [uS_ne (by omega), uS_ne (by omega), ← hS4, uS_ne (by omega), uS_ne (by omega), uS_ne (by omega), uS_ne (by omega), uS_nei (.inr (by omega)), uS_eq]
  · rw [uS_ne (by omega), uS_ne (by omega), ← hS4, uS_ne (by omega), uS_ne (by omega), uS_ne (by omega), uS_ne (by omega), uS_eq]
  · rw [uS_nei (.inr (by omega)), uS_nei (.inr (by omega)), ← hS4, uS_nei (.inr (by omega)), uS_nei (.inr (by omega)), uS_nei (.inr (by omega)), uS_eq]
  · rw [uS_nei (.inr (by omega)), uS_nei (.inr (by omega)), ← hS4, uS_nei (.inr (by omega)), uS_nei (.inr (by omega)), uS_eq]
  · rw [uS_nei (.inr (by omega)), uS_nei (.inr (by omega)), ← hS4, uS_nei (.inr (by omega)), uS_eq]
  · rw [uS_nei (.inr (by omega)), uS_nei (.inr (by omega)), ← hS4, uS_eq]
  · rw [uS_nei (.inr (by omega)), uS_eq]
  · rw [uS_eq, nI_add, nI_add]
theorem M_final {v s a z x y : Nat} {u w : AW} (T : Top L xs u) (R : RA S u) (If : IMf S) (Is : IMsy S) (N : NT S v s u) (ha : a < 16) (hz : z ≤ 2) (hx : 1 ≤ z → x < nS S) (hy : 2 ≤ z → y < nS S) (f : CF2 u w) (X7 : Int32) : ∃ w2 S3, F_M_learn_191_B rec0 271 (nI 0) (nI a) (o1 z x) (o2 z y) X7 (nI 1) w = some (X7, w2) ∧ AF u w2 ∧ RA S3 w2 ∧ (∀ r, r ≠ 0 → r ≠ 25 → r ≠ 26 → S3 r = S r) ∧ (∀ i, i ≠ 41 → i ≠ 45 → S3 0 i = S 0 i) ∧ S3 0 41 = nI 1 ∧ S3 0 45 = nI z ∧ S3 25 0 = nI 2 * o1 z x + nI (wd3 S v s a z x y 0).toNat ∧ S3 25 1 = nI 2 * o2 z y + nI (wd3 S v s a z x y 1).toNat ∧ S3 26 0 = nI (wd3 S v s a z x y 2).toNat ∧ S3 26 1 = nI z ∧ S3 26 2 = nI (cnt (lrn S v s a) 1461) ∧ S3 26 3 = X7 ∧ S3 26 4 = nI (cnt (lrn S v s (15 - a)) 1461) ∧ S3 26 5 = nI (jd3 S v s a z x y 0 + jd3 S v s a z x y 1 + jd3 S v s a z x y 2) := by
  have h8 := Is.2.1
  obtain ⟨w1, p1, f1, -, C1⟩ := M_try T R If Is N ha hz hx hy f
  have T1 := T.sh f1.1.sh
  have R1 := f1.ra R
  generalize hS2 : uS (uS S 0 41 (nI 1)) 0 45 (nI z) = S2
  generalize hW2 : upI (upI w1 271 41 (nI 1)) 271 45 (nI z) = W
  have R2 : RA S2 W := by
    rw [← hS2, ← hW2]; exact (R1.upK 41 _ (by decide)).upK 45 _ (by decide)
  have F2 : AF u W := by rw [← hW2]; exact f1.1.trans ((AF.upI _ _ _ (by omega)).trans (AF.upI _ _ _ (by omega)))
  have TW := T.sh F2.sh
  have n2 : ∀ b j, b ≠ 271 → wi W b j = wi w1 b j := fun b j h => by rw [← hW2, wi_upI, if_neg (by omega), wi_upI, if_neg (by omega)]
  have hr2 : ∀ r, r ≠ 0 → S2 r = S r := fun r h => by rw [← hS2, uS_ne h, uS_ne h]
  have h02 : ∀ i, i ≠ 41 → i ≠ 45 → S2 0 i = S 0 i := fun i h1 h2 => by rw [← hS2, uS_nei (.inr h2), uS_nei (.inr h1)]
  have h45 : S2 0 45 = nI z := by rw [← hS2, uS_eq]
  have sm := fun w => same_cu (w := w) (S := S) (S' := S2) (h02 0 (by omega) (by omega)) (h02 29 (by omega) (by omega)) (fun r h1 h2 => hr2 r (by omega)) (v := v) (s := s)
  have sm' := fun w => same_cu (w := w) (S := S2) (S' := S) (h02 0 (by omega) (by omega)).symm (h02 29 (by omega) (by omega)).symm (fun r h1 h2 => (hr2 r (by omega)).symm) (v := v) (s := s)
  have N2 := (sm W).1 ((f1.nt N).ne (fun i => ⟨n2 _ _ (by omega), n2 _ _ (by omega)⟩))
  have CW : CU S v s a z x y W 1461 := C1.ne (fun i => ⟨n2 _ _ (by omega), n2 _ _ (by omega)⟩)
  have CW2 := (sm' W).2 _ _ _ _ _ CW
  have Is2 : IMsy S2 := IMsy_S (h02 29 (by omega) (by omega)) (hr2 13 (by omega)) (hr2 14 (by omega)) (hr2 15 (by omega)) (hr2 16 (by omega)) Is
  have hn2 : nS S2 = nS S := by unfold nS; rw [h02 29 (by omega) (by omega)]
  obtain ⟨w2, S3, q1, q2, q3, q4, q5, q6, q7, q8, q9, q10, q11, q12⟩ := M_409 TW R2 (IMf_S (h02 0 (by omega) (by omega)) If) Is2 N2 ha hz (fun h => by rw [hn2]; exact hx h) (fun h => by rw [hn2]; exact hy h) CW2 X7
  have hrr : ∀ r, 1 ≤ r → r ≤ 16 → S2 r = S r := fun r h1 h2 => hr2 r (by omega)
  have t1 := same_tel (h02 0 (by omega) (by omega)) hrr
  have t2 := same_tru (S := S) (S' := S2) hrr
  have t3 := same_lrn (h02 0 (by omega) (by omega)) hrr
  have t4 : PG S2 = PG S := by funext v s b z x y g n; unfold PG gi; rw [t1, t3]
  have t5 : wd3 S2 = wd3 S := by funext v s a z x y g; unfold wd3; rw [t2, t4]
  have t6 : jd3 S2 = jd3 S := by funext v s a z x y g; unfold jd3; rw [t2, t4, t5]
  rw [t5] at q1 q5 q6 q7
  rw [t3] at q9 q11
  rw [t6] at q12
  refine ⟨w2, S3, ?_, F2.trans q2, q3, fun r h0 h1 h2 => (q4 r h1 h2).trans (hr2 r h0), fun i h1 h2 => by rw [q4 0 (by omega) (by omega)]; exact h02 i h1 h2, by rw [q4 0 (by omega) (by omega), ← hS2, uS_nei (.inr (by omega)), uS_eq], by rw [q4 0 (by omega) (by omega)]; exact h45, q5, q6, q7, q8.trans h45, q9, q10, q11, q12⟩
  have e336 : F_M_learn_336 271 (nI a) (o1 z x) (o2 z y) X7 (nI z) 271 (upI w1 271 41 (nI 1)) = some (X7, w2) := by
    have f385 : ∀ s0 b : Nat, F_M_learn_385 271 (nI a) (o1 z x) (o2 z y) X7 (nI s0) (nI b) W = F_M_learn_409 271 (nI a) (o1 z x) (o2 z y) X7 (nI s0) (nI b) (nI (wd3 S v s a z x y 2).toNat) W := by
      intro s0 b
      unfold F_M_learn_385
      simp (disch := omega) only [qL, ↓qM, mLrn TW, q_inb, q_nat, gd_true, beq_self_eq_true, bd_s, if_true, if_false, ↓reduceIte, ite_true, ite_false, Bool.and_self, Bool.and_true, Bool.true_and, Nat.reduceBEq, Bool.or_true, Bool.true_or, Bool.or_self]
      exact M_flag CW (g := 2) (by omega) (fun q => F_M_learn_409 271 (nI a) (o1 z x) (o2 z y) X7 (nI s0) (nI b) (nI q) W)
    have f361 : ∀ s0 : Nat, F_M_learn_361 271 (nI a) (o1 z x) (o2 z y) X7 (nI s0) W = F_M_learn_409 271 (nI a) (o1 z x) (o2 z y) X7 (nI s0) (nI (wd3 S v s a z x y 1).toNat) (nI (wd3 S v s a z x y 2).toNat) W := by
      intro s0
      unfold F_M_learn_361
      simp (disch := omega) only [qL, ↓qM, mLrn TW, q_inb, q_nat, f385, gd_true, beq_self_eq_true, bd_s, if_true, if_false, ↓reduceIte, ite_true, ite_false, Bool.and_self, Bool.and_true, Bool.true_and, Nat.reduceBEq, Bool.or_true, Bool.true_or, Bool.or_self]
      exact M_flag CW (g := 1) (by omega) (fun q => F_M_learn_409 271 (nI a) (o1 z x) (o2 z y) X7 (nI s0) (nI q) (nI (wd3 S v s a z x y 2).toNat) W)
    unfold F_M_learn_336
    simp (disch := omega) only [qL, ↓qM, mLrn T1, wk_upI, wn_upI, wr_upI, hW2, mLrn TW, q_inb, q_nat, f361, gd_true, beq_self_eq_true, bd_s, if_true, if_false, ↓reduceIte, ite_true, ite_false, Bool.and_self, Bool.and_true, Bool.true_and, Nat.reduceBEq, Bool.or_true, Bool.true_or, Bool.or_self]
    exact (M_flag CW (g := 0) (by omega) (fun q => F_M_learn_409 271 (nI a) (o1 z x) (o2 z y) X7 (nI q) (nI (wd3 S v s a z x y 1).toNat) (nI (wd3 S v s a z x y 2).toNat) W)).trans q1
  unfold F_M_learn_191_B
  rw [if_pos (show nI 0 < (nI 1) by decide +kernel)]
  simp only [qL, ↓qM, mK (T.sh f.1.sh), p1, mK T1, gd_true, beq_self_eq_true, bd_s, if_true, if_false, ↓reduceIte, ite_true, ite_false, Bool.and_self, Bool.and_true, Bool.true_and, Nat.reduceBEq, Bool.or_true, Bool.true_or, Bool.or_self]
  have : z = 0 ∨ z = 1 ∨ z = 2 := by omega
  rcases this with e | e | e <;> subst e
  · rw [if_pos (show o1 0 x = mI 1 from rfl)]; exact e336
  · have hxx := hx (by omega)
    rw [if_neg (show ¬ o1 1 x = mI 1 by rw [o1_1, q_nm (by omega) (by omega) (by omega)]; exact fun h => h), if_pos (show o2 1 y = mI 1 from o2_1 y)]; exact e336
  · have hxx := hx (by omega)
    have hyy := hy (by omega)
    rw [if_neg (show ¬ o1 2 x = mI 1 by rw [o1_2, q_nm (by omega) (by omega) (by omega)]; exact fun h => h), if_neg (show ¬ o2 2 y = mI 1 by rw [o2_2, q_nm (by omega) (by omega) (by omega)]; exact fun h => h)]; exact e336
end
