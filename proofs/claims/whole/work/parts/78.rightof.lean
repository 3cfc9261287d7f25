/-! PURE: how right the reference finds a list -/
section
variable {L : Nat} {xs : Nat → Int32} {S : Nat → Nat → Int32}
theorem M_countBy {v s b z x y : Nat} {u : AW} (T : Top L xs u) (R : RA S u) (If : IMf S) (Is : IMsy S) (N : NT S v s u) (hb : b < 16) (hz : z ≤ 2) (hx : 1 ≤ z → x < nS S) (hy : 2 ≤ z → y < nS S) : ∃ u', F_M_countBy 271 (nI b) (o1 z x) (o2 z y) u = some u' ∧ CF2 u u' ∧ CU S v s b z x y u' 1461 := by
  have y4 := yst_4 (sF S) If.2
  -- the years
  have years : ∀ j fu q (w : AW), CF2 u w → CU S v s b z x y w (yst (sF S) q) → q + j = 4 → j < fu → ∃ u', F_M_countBy_34 fu 271 (nI b) (o1 z x) (o2 z y) (nI q) w = some u' ∧ CF2 u u' ∧ CU S v s b z x y u' 1461 := by
    intro j
    induction j with
    | zero =>
      intro fu q w f C hq hf
      obtain ⟨fu, rfl⟩ : ∃ m, fu = m + 1 := ⟨fu - 1, by omega⟩
      obtain rfl : q = 4 := by omega
      rw [y4] at C
      refine ⟨w, ?_, f, C⟩
      show F_M_countBy_34_B (F_M_countBy_34 fu) _ _ _ _ _ w = _
      unfold F_M_countBy_34_B
      simp (disch := omega) only [qL, ↓qM, q_le]
      rw [if_pos (Nat.le_refl _)]
    | succ j ih =>
      intro fu q w f C hq hf
      obtain ⟨fu, rfl⟩ : ∃ m, fu = m + 1 := ⟨fu - 1, by omega⟩
      have Tw := T.sh f.1.sh
      have Rw := f.ra R
      have hm := yst_mono (sF S) (show q ≤ q + 1 by omega)
      have hm2 := yst_mono (sF S) (show q + 1 ≤ 4 by omega)
      have bit : ((nI b >>> (nI q &&& nI 31)) &&& nI 1 = nI 1) = (b.testBit q = true) := by
        rw [q_and31 (by omega), q_tb (by omega) (by omega), q_b1]
      show ∃ u', F_M_countBy_34_B (F_M_countBy_34 fu) _ _ _ _ _ w = _ ∧ _
      unfold F_M_countBy_34_B
      simp (disch := omega) only [qL, ↓qM, q_le, bit, mK Tw, M_begin Tw Rw If, bg_1, nI_add, gd_true, beq_self_eq_true, bd_s, if_true, if_false, ↓reduceIte, ite_true, ite_false, Bool.and_self, Bool.and_true, Bool.true_and, Nat.reduceBEq, Bool.or_true, Bool.true_or, Bool.or_self]
      rw [if_neg (by omega)]
      by_cases hbq : b.testBit q = true
      · rw [if_pos hbq]
        have days : ∀ j2 fu2 n (w2 : AW), CF2 u w2 → CU S v s b z x y w2 n → yst (sF S) q ≤ n → n + j2 = yst (sF S) (q + 1) → j2 < fu2 → ∃ w3, F_M_countBy_59 (F_M_countBy_34 fu) fu2 271 (nI b) (o1 z x) (o2 z y) (nI q) (nI n) w2 = F_M_countBy_34 fu 271 (nI b) (o1 z x) (o2 z y) (nI (q + 1)) w3 ∧ CF2 u w3 ∧ CU S v s b z x y w3 (yst (sF S) (q + 1)) := by
          intro j2
          induction j2 with
          | zero =>
            intro fu2 n w2 f2 C2 h1 h2 hf2
            obtain ⟨fu2, rfl⟩ : ∃ m, fu2 = m + 1 := ⟨fu2 - 1, by omega⟩
            obtain rfl : n = yst (sF S) (q + 1) := by omega
            refine ⟨w2, ?_, f2, C2⟩
            show F_M_countBy_59_B (F_M_countBy_34 fu) (F_M_countBy_59 (F_M_countBy_34 fu) fu2) _ _ _ _ _ _ w2 = _
            unfold F_M_countBy_59_B
            have T2 := T.sh f2.1.sh
            simp (disch := omega) only [qL, ↓qM, mK T2, M_yearEnd T2 (f2.ra R) If (show q < 4 by omega), q_le, nI_add, gd_true, beq_self_eq_true, bd_s, if_true, if_false, ↓reduceIte, ite_true, ite_false, Bool.and_self, Bool.and_true, Bool.true_and, Nat.reduceBEq, Bool.or_true, Bool.true_or, Bool.or_self]
            rw [if_pos (Nat.le_refl _)]
          | succ j2 ih2 =>
            intro fu2 n w2 f2 C2 h1 h2 hf2
            obtain ⟨fu2, rfl⟩ : ∃ m, fu2 = m + 1 := ⟨fu2 - 1, by omega⟩
            have T2 := T.sh f2.1.sh
            have hyr : yr (sF S) n = q := (yr_iff If.2 (show n < 1461 by omega) (show q < 4 by omega)).mp ⟨h1, by omega⟩
            obtain ⟨w3, p1, p2, p3⟩ := M_cbday T2 Is (f2.nt N) (show n < 1461 by omega) hz hx hy (by rw [hyr]; exact hbq) C2 (F_M_countBy_34 fu) (F_M_countBy_59 (F_M_countBy_34 fu) fu2) (nI b) (nI q) (M_yearEnd T2 (f2.ra R) If (show q < 4 by omega)) (by omega) (by omega)
            obtain ⟨w4, r1, r2⟩ := ih2 fu2 (n + 1) w3 (f2.trans p2) p3 (by omega) (by omega) (by omega)
            exact ⟨w4, Eq.trans p1 r1, r2⟩
        obtain ⟨w3, r1, r2, r3⟩ := days (yst (sF S) (q + 1) - yst (sF S) q) FUEL (yst (sF S) q) w f C (Nat.le_refl _) (by omega) (Nat.lt_of_le_of_lt (show yst (sF S) (q + 1) - yst (sF S) q ≤ 1461 by omega) (by decide))
        obtain ⟨w4, s1, s2⟩ := ih fu (q + 1) w3 r2 r3 (by omega) (by omega)
        exact ⟨w4, r1.trans s1, s2⟩
      · rw [if_neg hbq]
        refine ih fu (q + 1) w f (fun g hg => ?_) (by omega) (by omega)
        have skip : ∀ P : Nat → Bool, (∀ n, yr (sF S) n = q → P n = false) → cnt P (yst (sF S) (q + 1)) = cnt P (yst (sF S) q) := by
          intro P hP
          rw [show yst (sF S) (q + 1) = yst (sF S) q + (yst (sF S) (q + 1) - yst (sF S) q) by omega, cnt_add, cnt_false _ (fun i hi => hP _ ((yr_iff If.2 (show yst (sF S) q + i < 1461 by omega) (show q < 4 by omega)).mp ⟨by omega, by omega⟩)), Nat.add_zero]
        have hPG : ∀ n, yr (sF S) n = q → PG S v s b z x y g n = false := fun n hn => by
          unfold PG lrn; rw [hn]; simp at hbq; rw [hbq]; simp
        rw [skip _ hPG, skip _ (fun n hn => by unfold PT; rw [hPG n hn]; rfl)]
        exact C g hg
  -- nothing counted yet
  have init : ∀ j fu g (w : AW), CF2 u w → (∀ q, q < g → wi w 298 q = nI 0 ∧ wi w 299 q = nI 0) → g + j = 3 → j < fu → ∃ u', F_M_countBy_3 fu 271 (nI b) (o1 z x) (o2 z y) (nI g) w = some u' ∧ CF2 u u' ∧ CU S v s b z x y u' 1461 := by
    intro j
    induction j with
    | zero =>
      intro fu g w f h0 hg hf
      obtain ⟨fu, rfl⟩ : ∃ m, fu = m + 1 := ⟨fu - 1, by omega⟩
      obtain rfl : g = 3 := by omega
      obtain ⟨u', p1, p2⟩ := years 4 FUEL 0 w f (fun q hq => h0 q hq) (by omega) (by decide)
      refine ⟨u', ?_, p2⟩
      show F_M_countBy_3_B (F_M_countBy_3 fu) _ _ _ _ _ w = _
      unfold F_M_countBy_3_B
      simp (disch := omega) only [qL, ↓qM, q_le]
      rw [if_pos (Nat.le_refl _)]
      exact p1
    | succ j ih =>
      intro fu g w f h0 hg hf
      obtain ⟨fu, rfl⟩ : ∃ m, fu = m + 1 := ⟨fu - 1, by omega⟩
      have Tw := T.sh f.1.sh
      obtain ⟨u', p1, p2⟩ := ih fu (g + 1) (upI (upI w 298 g (nI 0)) 299 g (nI 0)) (f.trans ((CF2.up w _ _ (.inl rfl)).trans (CF2.up _ _ _ (.inr rfl)))) (fun q hq => by
        simp only [wi_upI]
        by_cases e : q = g
        · subst e; simp
        · rw [if_neg (by omega), if_neg (by omega), if_neg (by omega), if_neg (by omega)]; exact h0 q (by omega)) (by omega) (by omega)
      refine ⟨u', ?_, p2⟩
      show F_M_countBy_3_B (F_M_countBy_3 fu) _ _ _ _ _ w = _
      unfold F_M_countBy_3_B
      simp (disch := omega) only [qL, ↓qM, q_le, mK Tw, mLrn Tw, wk_upI, wn_upI, wr_upI, q_inb, q_nat, nI_add, gd_true, beq_self_eq_true, bd_s, if_true, if_false, ↓reduceIte, ite_true, ite_false, Bool.and_self, Bool.and_true, Bool.true_and, Nat.reduceBEq, Bool.or_true, Bool.true_or, Bool.or_self]
      rw [if_neg (by omega)]
      exact p1
  exact init 3 FUEL 0 u (CF2.refl u) (fun q hq => by omega) (by omega) (by decide)
/-- the counts' sum -/
def rM (S : Nat → Nat → Int32) (v s b z x y : Nat) : Nat → Nat
  | 0 => 0
  | g + 1 => rM S v s b z x y g + mxR (tru S v s) (PG S v s b z x y g)
theorem rM_le (S : Nat → Nat → Int32) (v s b z x y : Nat) : ∀ g, rM S v s b z x y g ≤ 1461 * g
  | 0 => by unfold rM; omega
  | g + 1 => by
    have := rM_le S v s b z x y g
    have := mxR_le (tru S v s) (PG S v s b z x y g)
    unfold rM; omega
theorem M_rightOf {v s b z x y : Nat} {u : AW} (T : Top L xs u) (C : CU S v s b z x y u 1461) : F_M_rightOf u 271 = some (nI (rM S v s b z x y 3)) := by
  have loop : ∀ j fu g, g + j = 3 → j < fu → F_M_rightOf_4 u fu 271 (nI (rM S v s b z x y g)) (nI g) = some (nI (rM S v s b z x y 3)) := by
    intro j
    induction j with
    | zero =>
      intro fu g hg hf
      obtain ⟨fu, rfl⟩ : ∃ m, fu = m + 1 := ⟨fu - 1, by omega⟩
      obtain rfl : g = 3 := by omega
      show F_M_rightOf_4_B (F_M_rightOf_4 u fu) u _ _ _ = _
      unfold F_M_rightOf_4_B
      simp (disch := omega) only [qL, ↓qM, q_le]
      rw [if_pos (Nat.le_refl _)]
    | succ j ih =>
      intro fu g hg hf
      obtain ⟨fu, rfl⟩ : ∃ m, fu = m + 1 := ⟨fu - 1, by omega⟩
      have h := ih fu (g + 1) (by omega) (by omega)
      have hc := C g (by omega)
      have l1 := cnt_le (PG S v s b z x y g) 1461
      have l2 : cnt (PT S v s b z x y g) 1461 ≤ cnt (PG S v s b z x y g) 1461 := cnt_and_le _ _ _
      have em : rM S v s b z x y (g + 1) = rM S v s b z x y g + (if cnt (PT S v s b z x y g) 1461 ≤ cnt (PG S v s b z x y g) 1461 - cnt (PT S v s b z x y g) 1461 then cnt (PG S v s b z x y g) 1461 - cnt (PT S v s b z x y g) 1461 else cnt (PT S v s b z x y g) 1461) := rfl
      rw [em] at h
      show F_M_rightOf_4_B (F_M_rightOf_4 u fu) u _ _ _ = _
      unfold F_M_rightOf_4_B
      simp (disch := omega) only [qL, ↓qM, q_le, mK T, mLrn T, q_inb, q_nat, hc.1, hc.2, pk_mul, pk_sub, nI_add, gd_true, beq_self_eq_true, bd_s, if_true, if_false, ↓reduceIte, ite_true, ite_false, Bool.and_self, Bool.and_true, Bool.true_and, Nat.reduceBEq, Bool.or_true, Bool.true_or, Bool.or_self]
      rw [if_neg (by omega)]
      by_cases hh : 2 * cnt (PT S v s b z x y g) 1461 ≤ cnt (PG S v s b z x y g) 1461
      · rw [if_pos hh]
        rw [if_pos (by omega)] at h
        exact h
      · rw [if_neg hh]
        rw [if_neg (by omega)] at h
        exact h
  exact loop 3 FUEL 0 (by omega) (by decide)
theorem mxR_0 (tr : Nat → Bool) : mxR tr (fun _ => false) = 0 := by
  unfold mxR
  have e1 : cnt (fun _ => false) 1461 = 0 := cnt_false 1461 (fun _ _ => rfl)
  have e2 : cnt (fun n => false && tr n) 1461 = 0 := cnt_false 1461 (fun _ _ => rfl)
  rw [e1, e2]; rfl
/-- the groups of a list are what it moves and leaves -/
theorem PG_0 (S : Nat → Nat → Int32) (v s b z x y : Nat) : PG S v s b z x y 0 = if 1 ≤ z then tdS (lrn S v s b) (tel S v) (lf x y) 0 else fun _ => false := by
  by_cases h : 1 ≤ z
  · rw [if_pos h]
    funext n
    have h0 : lf x y 0 = x := rfl
    unfold PG gi tdS rst
    rw [h0]
    generalize tel S v x n = p
    generalize tel S v y n = q
    generalize lrn S v s b n = r
    cases p <;> cases r <;> simp [h]
    split <;> simp
  · rw [if_neg h]
    funext n
    unfold PG gi
    rw [if_neg (fun q => h q.1)]
    split <;> simp
theorem PG_1 (S : Nat → Nat → Int32) (v s b z x y : Nat) : PG S v s b z x y 1 = if 2 ≤ z then tdS (lrn S v s b) (tel S v) (lf x y) 1 else fun _ => false := by
  by_cases h : 2 ≤ z
  · rw [if_pos h]
    have h1 : 1 ≤ z := by omega
    funext n
    have h0 : lf x y 0 = x := rfl
    have h1' : lf x y 1 = y := rfl
    unfold PG gi tdS rst rst
    rw [h0, h1']
    generalize tel S v x n = p
    generalize tel S v y n = q
    generalize lrn S v s b n = r
    cases p <;> cases q <;> cases r <;> simp [h, h1]
  · rw [if_neg h]
    funext n
    unfold PG gi
    by_cases h1 : 1 ≤ z ∧ tel S v x n = true
    · rw [if_pos h1]; simp
    · rw [if_neg h1, if_neg (fun q => h q.1)]; simp
theorem PG_2 (S : Nat → Nat → Int32) (v s b z x y : Nat) (hz : z ≤ 2) : PG S v s b z x y 2 = rst (lrn S v s b) (tel S v) (lf x y) z := by
  have : z = 0 ∨ z = 1 ∨ z = 2 := by omega
  funext n
  rcases this with e | e | e <;> subst e
  · unfold PG gi rst; simp
  · have h0 : lf x y 0 = x := rfl
    unfold PG gi rst rst
    rw [h0]
    generalize tel S v x n = p
    cases p <;> simp
  · have h0 : lf x y 0 = x := rfl
    have h1' : lf x y 1 = y := rfl
    unfold PG gi rst rst rst
    rw [h0, h1']
    generalize tel S v x n = p
    generalize tel S v y n = q
    cases p <;> cases q <;> simp
theorem rM_rg (S : Nat → Nat → Int32) (v s b z x y : Nat) (hz : z ≤ 2) : rM S v s b z x y 3 = rgS S v s b z x y := by
  have e0 := PG_0 S v s b z x y
  have e1 := PG_1 S v s b z x y
  have e2 := PG_2 S v s b z x y hz
  have : z = 0 ∨ z = 1 ∨ z = 2 := by omega
  unfold rM rM rM rM rgS rgR
  rw [e2, e0, e1]
  rcases this with e | e | e <;> subst e
  · rw [if_neg (by omega), if_neg (by omega), mxR_0]; unfold smR; rfl
  · rw [if_pos (by omega), if_neg (by omega), mxR_0]; unfold smR smR; rfl
  · rw [if_pos (by omega), if_pos (by omega)]; unfold smR smR smR; rfl
end
