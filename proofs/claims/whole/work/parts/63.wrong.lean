/-! PURE: wrong, shared, alike -/
def wnS (S : Nat → Nat → Int32) (a v n : Nat) : Int32 := if tld S a n = true ∧ knw S v n = true then nI (wrg S v a n).toNat else mI 1
theorem M_wrongOn {L : Nat} {xs : Nat → Int32} {S : Nat → Nat → Int32} {w : AW} (T : Top L xs w) (R : RA S w) {a v n : Nat} (ha : a < 6) (hv : v < 3) (hn : n < 1461) : F_M_wrongOn w 271 (nI a) (nI v) (nI n) = some (wnS S a v n) := by
  have hx := fx_lt hv hn (show 2 < 4 by omega)
  unfold F_M_wrongOn
  simp (disch := omega) only [qL, ↓qM, mK T, mAlm T, mFld T, M_at_n, pk_mul, nI_add, q_inb, q_nat, ra7 R, ra5 R, gd_true, beq_self_eq_true, bd_s, if_true, if_false, ↓reduceIte, ite_true, ite_false, Bool.and_self, Bool.and_true, Bool.true_and, Nat.reduceBEq, Bool.or_true, Bool.true_or, Bool.or_self]
  by_cases h1 : S 7 (1461 * a + n) = mI 1
  · have e : wnS S a v n = mI 1 := by unfold wnS tld; rw [if_neg (by simp [h1])]
    rw [e, if_pos h1]
  · rw [if_neg (show ¬ S 7 (1461 * a + n) = mI 1 from h1)]
    by_cases h2 : S 5 (fx v n 2) = mI 1000
    · have e : wnS S a v n = mI 1 := by unfold wnS knw gp; rw [if_neg (by simp [h2])]
      rw [e, if_pos h2]
    · have e : wnS S a v n = nI (wrg S v a n).toNat := by unfold wnS tld knw gp; rw [if_pos (by simp [h1, h2])]
      rw [e, if_neg (show ¬ S 5 (fx v n 2) = mI 1000 from h2)]
      have h54 : ∀ b : Bool, F_M_wrongOn_54 w (S 5 (fx v n 2)) (nI b.toNat) = some (nI (b ^^ rnd S v n).toNat) := by
        intro b
        unfold F_M_wrongOn_54 F_M_wrongOn_64 rnd
        simp only [qL, ↓qM]
        by_cases h3 : S 5 (fx v n 2) ≤ nI 0
        · have : ¬ 0 < (S 5 (fx v n 2)).toInt := by
            rw [Int32.le_iff_toInt_le] at h3
            have : (nI 0).toInt = 0 := by decide
            omega
          rw [if_pos h3, decide_eq_false this]
          cases b
          · rw [if_pos (show nI false.toNat = nI 0 from rfl)]; rfl
          · rw [if_neg (show ¬ nI true.toNat = nI 0 by decide +kernel)]; rfl
        · have : 0 < (S 5 (fx v n 2)).toInt := by
            rw [Int32.le_iff_toInt_le] at h3
            have : (nI 0).toInt = 0 := by decide
            omega
          rw [if_neg h3, decide_eq_true this]
          cases b
          · rw [if_neg (show ¬ nI false.toNat = nI 1 by decide +kernel)]; rfl
          · rw [if_pos (show nI true.toNat = nI 1 from rfl)]; rfl
      unfold wrg rn1
      by_cases h4 : S 7 (1461 * a + n) = nI 1
      · rw [if_pos h4, decide_eq_true h4]; exact h54 true
      · rw [if_neg h4, decide_eq_false h4]; exact h54 false
theorem wnS_1 (S : Nat → Nat → Int32) (a v n : Nat) : (wnS S a v n = nI 1) = (shP S v a a 2 n = true) := by
  unfold wnS shP bth
  cases tld S a n <;> cases knw S v n <;> cases wrg S v a n <;> decide +kernel
theorem M_wrong_in {L : Nat} {xs : Nat → Int32} {S : Nat → Nat → Int32} {w : AW} (T : Top L xs w) (R : RA S w) {a v : Nat} (ha : a < 6) (hv : v < 3) : F_M_wrong w 271 (nI a) (nI v) = some (nI (shN S v a a 2)) := by
  have loop : ∀ k fu n, n + k = 1461 → k < fu → F_M_wrong_22 w fu 271 (nI a) (nI v) (nI (cnt (shP S v a a 2) n)) (nI n) = some (nI (shN S v a a 2)) := by
    intro k
    induction k with
    | zero =>
      intro fu n hn hf
      obtain ⟨fu, rfl⟩ : ∃ m, fu = m + 1 := ⟨fu - 1, by omega⟩
      obtain rfl : n = 1461 := by omega
      show F_M_wrong_22_B (F_M_wrong_22 w fu) w _ _ _ _ _ = _
      unfold F_M_wrong_22_B
      simp (disch := omega) only [qL, ↓qM, q_le]
      rw [if_pos (Nat.le_refl _)]; rfl
    | succ k ih =>
      intro fu n hn hf
      obtain ⟨fu, rfl⟩ : ∃ m, fu = m + 1 := ⟨fu - 1, by omega⟩
      show F_M_wrong_22_B (F_M_wrong_22 w fu) w _ _ _ _ _ = _
      unfold F_M_wrong_22_B
      have h := ih fu (n + 1) (by omega) (by omega)
      rw [cnt_s] at h
      simp (disch := omega) only [qL, ↓qM, q_le, mK T, M_wrongOn T R ha hv (show n < 1461 by omega), wnS_1, nI_add, gd_true, beq_self_eq_true, bd_s, if_true, if_false, ↓reduceIte, ite_true, ite_false, Bool.and_self, Bool.and_true, Bool.true_and, Nat.reduceBEq, Bool.or_true, Bool.true_or, Bool.or_self]
      rw [if_neg (by omega)]
      by_cases hp : shP S v a a 2 n = true
      · rw [if_pos hp] at h ⊢; exact h
      · rw [if_neg hp] at h ⊢; exact h
  unfold F_M_wrong
  simp (disch := omega) only [qL, ↓qM, M_alm, M_valley, q_int]
  rw [if_neg (by omega), if_neg (by omega)]
  exact loop 1461 FUEL 0 (by omega) (by decide)
theorem M_sharedOf {L : Nat} {xs : Nat → Int32} {S : Nat → Nat → Int32} {w : AW} (T : Top L xs w) (R : RA S w) {a b v m : Nat} (ha : a < 6) (hb : b < 6) (hv : v < 3) (hm : m < 4) : F_M_sharedOf w 271 (nI a) (nI b) (nI v) (nI m) = some (nI (shN S v a b m)) := by
  have loop : ∀ k fu n, n + k = 1461 → k < fu → F_M_sharedOf_6 w fu 271 (nI a) (nI b) (nI v) (nI m) (nI (cnt (shP S v a b m) n)) (nI n) = some (nI (shN S v a b m)) := by
    intro k
    induction k with
    | zero =>
      intro fu n hn hf
      obtain ⟨fu, rfl⟩ : ∃ m, fu = m + 1 := ⟨fu - 1, by omega⟩
      obtain rfl : n = 1461 := by omega
      show F_M_sharedOf_6_B (F_M_sharedOf_6 w fu) w _ _ _ _ _ _ _ = _
      unfold F_M_sharedOf_6_B
      simp (disch := omega) only [qL, ↓qM, q_le]
      rw [if_pos (Nat.le_refl _)]; rfl
    | succ k ih =>
      intro fu n hn hf
      obtain ⟨fu, rfl⟩ : ∃ m, fu = m + 1 := ⟨fu - 1, by omega⟩
      show F_M_sharedOf_6_B (F_M_sharedOf_6 w fu) w _ _ _ _ _ _ _ = _
      unfold F_M_sharedOf_6_B
      have h := ih fu (n + 1) (by omega) (by omega)
      rw [cnt_s] at h
      simp (disch := omega) only [qL, ↓qM, q_le, q_eq, mK T, M_wrongOn T R ha hv (show n < 1461 by omega), M_wrongOn T R hb hv (show n < 1461 by omega), nI_add, gd_true, beq_self_eq_true, bd_s, if_true, if_false, ↓reduceIte, ite_true, ite_false, Bool.and_self, Bool.and_true, Bool.true_and, Nat.reduceBEq, Bool.or_true, Bool.true_or, Bool.or_self]
      rw [if_neg (by omega)]
      have hne : ∀ x : Bool, ¬ nI x.toNat = mI 1 := fun x => by cases x <;> decide +kernel
      unfold wnS
      by_cases h1 : tld S a n = true ∧ knw S v n = true
      · rw [if_pos h1, if_neg (hne _)]
        by_cases h2 : tld S b n = true ∧ knw S v n = true
        · rw [if_pos h2, if_neg (hne _)]
          have hbt : bth S v a b n = true := by unfold bth; rw [h1.1, h1.2, h2.1]; rfl
          have : m = 0 ∨ m = 1 ∨ m = 2 ∨ m = 3 := by omega
          rcases this with e | e | e | e <;> subst e
          · rw [if_pos (by omega : 0 = 0)]
            have hp : shP S v a b 0 n = true := by unfold shP; rw [hbt]; rfl
            rw [if_pos hp] at h; exact h
          · rw [if_neg (by omega : ¬ 1 = 0), if_pos (by omega : 1 = 1), pk_mul, nI_add]
            have hp : shP S v a b 1 n = (wrg S v a n && wrg S v b n) := by unfold shP; rw [hbt]; simp
            rw [hp] at h
            revert h; cases wrg S v a n <;> cases wrg S v b n <;> exact id
          · rw [if_neg (by omega : ¬ 2 = 0), if_neg (by omega : ¬ 2 = 1), if_pos (by omega : 2 = 2), nI_add]
            have hp : shP S v a b 2 n = wrg S v a n := by unfold shP; rw [hbt]; simp
            rw [hp] at h
            revert h; cases wrg S v a n <;> exact id
          · rw [if_neg (by omega : ¬ 3 = 0), if_neg (by omega : ¬ 3 = 1), if_neg (by omega : ¬ 3 = 2), nI_add]
            have hp : shP S v a b 3 n = wrg S v b n := by unfold shP; rw [hbt]; simp
            rw [hp] at h
            revert h; cases wrg S v b n <;> exact id
        · rw [if_neg h2, if_pos rfl]
          have hp : ¬ shP S v a b m n = true := by
            unfold shP bth
            intro q
            simp only [Bool.and_eq_true] at q
            exact h2 ⟨q.1.2.2, q.1.1⟩
          rw [if_neg hp] at h; exact h
      · rw [if_neg h1, if_pos rfl]
        have hp : ¬ shP S v a b m n = true := by
          unfold shP bth
          intro q
          simp only [Bool.and_eq_true] at q
          exact h1 ⟨q.1.2.1, q.1.1⟩
        rw [if_neg hp] at h; exact h
  exact loop 1461 FUEL 0 (by omega) (by decide)
/-- whether two almanacs are alike -/
def alk (S : Nat → Nat → Int32) (v a b : Nat) (lv : Int32) : Prop := nI (shN S v a b 1) * nI (shN S v a b 0) * nI 10 ≤ lv * nI (shN S v a b 2) * nI (shN S v a b 3)
theorem M_areAlike {L : Nat} {xs : Nat → Int32} {S : Nat → Nat → Int32} {w : AW} (T : Top L xs w) (R : RA S w) {a b v : Nat} (lv : Int32) (ha : a < 6) (hb : b < 6) (hv : v < 3) [Decidable (alk S v a b lv)] : F_M_areAlike w 271 (nI a) (nI b) (nI v) lv = some (if alk S v a b lv then nI 0 else nI 1) := by
  unfold F_M_areAlike
  simp (disch := omega) only [qL, ↓qM, mK T, M_sharedOf T R ha hb hv, gd_true, beq_self_eq_true, bd_s, if_true, if_false, ↓reduceIte, ite_true, ite_false, Bool.and_self, Bool.and_true, Bool.true_and, Nat.reduceBEq, Bool.or_true, Bool.true_or, Bool.or_self]
  by_cases h : alk S v a b lv
  · rw [if_pos h]; unfold alk at h; rw [if_pos h]
  · rw [if_neg h]; unfold alk at h; rw [if_neg h]
theorem A_reaches {L : Nat} {xs : Nat → Int32} {S : Nat → Nat → Int32} {w : AW} (T : Top L xs w) {a b v : Nat} (lv : Int32) (h : ∀ m, m < 4 → wi w 168 m = nI (shN S v a b m)) [Decidable (alk S v a b lv)] : F_Li_reaches w 168 lv = some (if alk S v a b lv then nI 0 else nI 1) := by
  unfold F_Li_reaches
  simp only [qL, ↓qM, t168 T, h 0 (by omega), h 1 (by omega), h 2 (by omega), h 3 (by omega), gd_true, beq_self_eq_true, bd_s, if_true, if_false, ↓reduceIte, ite_true, ite_false, Bool.and_self, Bool.and_true, Bool.true_and, Nat.reduceBEq, Bool.or_true, Bool.true_or, Bool.or_self]
  by_cases h : alk S v a b lv
  · rw [if_pos h]; unfold alk at h; rw [if_pos h]
  · rw [if_neg h]; unfold alk at h; rw [if_neg h]
theorem STEP.like {L : Nat} {xs : Nat → Int32} {S : Nat → Nat → Int32} {w w1 : AW} {FA FM : AW → Option (Int32 × AW)} {r : Int32} (I : Inv L xs S w) (h1 : FA w = some (r, w1)) (hd : LF w w1) (h2 : FM w1 = some (r, w1)) : STEP L xs w FA FM :=
  have J := I.lf hd
  ⟨r, w1, w1, S, h1, J.1, h2, J⟩
theorem S_wrong {L : Nat} {xs : Nat → Int32} {S : Nat → Nat → Int32} {w : AW} (I : Inv L xs S w) (x1 x2 : Int32) : STEP L xs w (F_A_wrong 16 x1 x2) (fun u => (F_M_wrong u 271 x1 x2).bind fun r => some (r, u)) := by
  have T := I.1
  have hV := A_almanacOf T x1
  have hD := A_diaryOf T x2
  by_cases h1 : 0 ≤ x1.toInt ∧ x1.toInt ≤ 5
  · obtain ⟨a, rfl, ha⟩ := q_of h1.1 (n := 5) h1.2 (by omega)
    rw [if_pos h1, nat_nI (by omega)] at hV
    by_cases h2 : 0 ≤ x2.toInt ∧ x2.toInt ≤ 2
    · obtain ⟨v, rfl, hv⟩ := q_of h2.1 (n := 2) h2.2 (by omega)
      rw [if_pos h2, nat_nI (by omega)] at hD
      obtain ⟨w1, p1, f1, R1⟩ := A_readRain I (show v < 3 by omega)
      have I1 := I.lf f1
      obtain ⟨w2, p2, f2, R2, c2⟩ := A_compare I1 (show v < 3 by omega) (show a < 6 by omega) (show a < 6 by omega) R1
      have I2 := I1.lf f2
      refine STEP.like I (r := nI (shN S v a a 2)) (w1 := w2) ?_ (f1.trans f2) ?_
      · unfold F_A_wrong
        simp only [qL, ↓qM, t16 T, t168 T, hV, hD, p1, t16 I1.1, t168 I1.1, p2, t16 I2.1, t168 I2.1, c2 2 (by omega), gd_true, beq_self_eq_true, bd_s, if_true, if_false, ↓reduceIte, ite_true, ite_false, Bool.and_self, Bool.and_true, Bool.true_and, Nat.reduceBEq, Bool.or_true, Bool.true_or, Bool.or_self]
        rw [if_neg (by omega), if_neg (by omega)]
      · show (F_M_wrong w2 271 (nI a) (nI v)).bind _ = _
        rw [M_wrong_in I2.1 I2.2.1 (show a < 6 by omega) (show v < 3 by omega), bd_s]
    · rw [if_neg h2] at hD
      refine STEP.pure I (r := mI 101) ?_ ?_
      · unfold F_A_wrong
        simp only [qL, ↓qM, t16 T, hV, hD, gd_true, beq_self_eq_true, bd_s, if_true, if_false, ↓reduceIte, ite_true, ite_false, Bool.and_self, Bool.and_true, Bool.true_and, Nat.reduceBEq, Bool.or_true, Bool.true_or, Bool.or_self]
        rw [if_neg (by omega)]
      · unfold F_M_wrong
        simp (disch := omega) only [qL, ↓qM, M_alm, M_valley, q_int]
        rw [if_neg (by omega), if_pos (by omega), bd_s]
  · rw [if_neg h1] at hV
    refine STEP.pure I (r := mI 101) ?_ ?_
    · unfold F_A_wrong
      rw [hV, hD]
      simp only [qL, ↓qM, t16 T, gd_true, beq_self_eq_true, bd_s, if_true, if_false, ↓reduceIte, ite_true, ite_false, Bool.and_self, Bool.and_true, Bool.true_and, Nat.reduceBEq, Bool.or_true, Bool.true_or, Bool.or_self]
    · unfold F_M_wrong
      simp only [qL, ↓qM, M_alm]
      rw [if_pos (by omega), bd_s]
