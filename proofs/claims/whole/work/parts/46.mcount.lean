/-! PURE: the reference's counts -/
/-- a saying's parts as numbers -/
def fI (S : Nat → Nat → Int32) (k v n : Nat) : Int32 := if opS S k 0 v n = true then mI 1 else nI (hld S k 0 v n).toNat
def sI (S : Nat → Nat → Int32) (k v n : Nat) : Int32 := if sk S k v n = true then nI (sw S k v n).toNat else mI 1
theorem M_firstOf {L : Nat} {xs : Nat → Int32} {w : AW} (T : Top L xs w) {S : Nat → Nat → Int32} (R : RA S w) {k v n : Nat} (hk : k < 8) (hv : v < 3) (hn : n < 1461) (Ik : IMk S k) : ∃ w', F_M_firstOf 271 (nI k) (nI v) (nI n) w = some (fI S k v n, w') ∧ MQs S w w' := by
  obtain ⟨w', e1, q⟩ := M_holds T R hk (show 0 < 2 by omega) hv hn Ik.1
  have e0 := M_isOpen T R hk (show 0 < 2 by omega) hv hn ⟨Ik.1.2.2.2.2.1, Ik.1.2.2.2.2.2⟩
  unfold F_M_firstOf fI
  simp only [qL, ↓qM, mK T, e0, e1, q_b0, gd_true, beq_self_eq_true, bd_s, if_true, if_false, ↓reduceIte, ite_true, ite_false, Bool.and_self, Bool.and_true, Bool.true_and, Nat.reduceBEq, Bool.or_true, Bool.true_or, Bool.or_self]
  cases opS S k 0 v n
  · rw [if_pos rfl, if_neg (by simp : ¬ (false = true))]
    refine ⟨w', ?_, q⟩
    cases hld S k 0 v n <;> rfl
  · rw [if_neg (by simp : ¬ (true = false)), if_pos rfl]
    exact ⟨w, rfl, MQs.refl R⟩
theorem anyF_or (P : Nat → Bool) (a c : Nat) : anyF P a (c + 1) = (anyF P a c || P (a + c)) := rfl
theorem M_secondOf {L : Nat} {xs : Nat → Int32} {w : AW} (T : Top L xs w) {S : Nat → Nat → Int32} (R : RA S w) {k v n : Nat} (hk : k < 8) (hv : v < 3) (hn : n < 1461) (Ik : IMk S k) : ∃ w', F_M_secondOf 271 (nI k) (nI v) (nI n) w = some (sI S k v n, w') ∧ MQs S w w' := by
  obtain ⟨a1, a2, a3, a4⟩ := Ik.2.2.1
  have hal : S 13 (12 * k + 4) = nI (isAl S k).toNat := by
    rcases Ik.2.2.2.1 with h | h
    · unfold isAl; rw [h]; rfl
    · unfold isAl; rw [h]; rfl
  generalize hA : spA S k = A at *
  generalize hB : spB S k = B at *
  have skd : sk S k v n = allF (fun d => decide (n + d < 1461) && !opS S k 1 v (n + d)) A (B + 1 - A) := by unfold sk; rw [hA, hB]
  have swd : sw S k v n = if isAl S k = true then allF (fun d => hld S k 1 v (n + d)) A (B + 1 - A) else anyF (fun d => hld S k 1 v (n + d)) A (B + 1 - A) := by unfold sw; rw [hA, hB]
  unfold F_M_secondOf
  simp (disch := omega) only [qL, ↓qM, mK T, mSay T, pk_mul, nI_add, q_inb, q_nat, ra13 R, a1, a2, q_lt, gd_true, beq_self_eq_true, bd_s, if_true, if_false, ↓reduceIte, ite_true, ite_false, Bool.and_self, Bool.and_true, Bool.true_and, Nat.reduceBEq, Bool.or_true, Bool.true_or, Bool.or_self]
  by_cases hto : n + B < 1461
  · rw [if_pos hto]
    have loop : ∀ j fu c (u : AW), c + j = B + 1 - A → j < fu → allF (fun d => decide (n + d < 1461) && !opS S k 1 v (n + d)) A c = true → MQs S w u → ∃ w', F_M_secondOf_50 fu 271 (nI k) (nI v) (nI (n + B)) (nI (anyF (fun d => hld S k 1 v (n + d)) A c).toNat) (nI (allF (fun d => hld S k 1 v (n + d)) A c).toNat) (nI (n + A + c)) u = some (sI S k v n, w') ∧ MQs S w w' := by
      intro j
      induction j with
      | zero =>
        intro fu c u hj hf hall hu
        obtain ⟨fu, rfl⟩ : ∃ m, fu = m + 1 := ⟨fu - 1, by omega⟩
        obtain rfl : c = B + 1 - A := by omega
        have T1 := T.sh hu.1.sh
        refine ⟨u, ?_, hu⟩
        show F_M_secondOf_50_B (F_M_secondOf_50 fu) _ _ _ _ _ _ _ u = _
        unfold F_M_secondOf_50_B
        simp (disch := omega) only [qL, ↓qM, mK T1, mSay T1, pk_mul, nI_add, q_inb, q_nat, ra13 hu.2, q_lt, hal, q_b1, q_b0, gd_true, beq_self_eq_true, bd_s, if_true, if_false, ↓reduceIte, ite_true, ite_false, Bool.and_self, Bool.and_true, Bool.true_and, Nat.reduceBEq, Bool.or_true, Bool.true_or, Bool.or_self]
        rw [if_pos (by omega)]
        unfold sI
        rw [skd, hall, if_pos rfl, swd]
        cases isAl S k
        · rw [if_neg (by simp : ¬ (false = true)), if_neg (by simp : ¬ (false = true))]
          cases anyF (fun d => hld S k 1 v (n + d)) A (B + 1 - A) <;> rfl
        · rw [if_pos rfl, if_pos rfl]
          cases allF (fun d => hld S k 1 v (n + d)) A (B + 1 - A) <;> rfl
      | succ j ih =>
        intro fu c u hj hf hall hu
        obtain ⟨fu, rfl⟩ : ∃ m, fu = m + 1 := ⟨fu - 1, by omega⟩
        have T1 := T.sh hu.1.sh
        have hd : n + A + c < 1461 := by omega
        have e0 := M_isOpen T1 hu.2 hk (show 1 < 2 by omega) hv hd ⟨Ik.2.1.2.2.2.2.1, Ik.2.1.2.2.2.2.2⟩
        obtain ⟨u2, e1, q2⟩ := M_holds T1 hu.2 hk (show 1 < 2 by omega) hv hd Ik.2.1
        have ea : allF (fun d => hld S k 1 v (n + d)) A (c + 1) = (allF (fun d => hld S k 1 v (n + d)) A c && hld S k 1 v (n + A + c)) := by
          show (_ && hld S k 1 v (n + (A + c))) = _
          rw [Nat.add_assoc]
        have eb : anyF (fun d => hld S k 1 v (n + d)) A (c + 1) = (anyF (fun d => hld S k 1 v (n + d)) A c || hld S k 1 v (n + A + c)) := by
          show (_ || hld S k 1 v (n + (A + c))) = _
          rw [Nat.add_assoc]
        have ec : allF (fun d => decide (n + d < 1461) && !opS S k 1 v (n + d)) A (c + 1) = (allF (fun d => decide (n + d < 1461) && !opS S k 1 v (n + d)) A c && (decide (n + A + c < 1461) && !opS S k 1 v (n + A + c))) := by
          show (_ && (decide (n + (A + c) < 1461) && !opS S k 1 v (n + (A + c)))) = _
          rw [Nat.add_assoc]
        show ∃ w', F_M_secondOf_50_B (F_M_secondOf_50 fu) _ _ _ _ _ _ _ u = _ ∧ _
        unfold F_M_secondOf_50_B F_M_secondOf_97
        simp (disch := omega) only [qL, ↓qM, mK T1, q_lt, e0, e1, q_b0, nI_add, gd_true, beq_self_eq_true, bd_s, if_true, if_false, ↓reduceIte, ite_true, ite_false, Bool.and_self, Bool.and_true, Bool.true_and, Nat.reduceBEq, Bool.or_true, Bool.true_or, Bool.or_self]
        rw [if_neg (by omega)]
        by_cases ho : opS S k 1 v (n + A + c) = false
        · rw [if_pos ho]
          have r := ih fu (c + 1) u2 (by omega) (by omega) (by rw [ec, hall, ho, decide_eq_true hd]; rfl) (hu.trans q2)
          rw [ea, eb] at r
          rw [show n + A + (c + 1) = n + A + c + 1 by omega] at r
          cases hx : anyF (fun d => hld S k 1 v (n + d)) A c <;> cases hy : hld S k 1 v (n + A + c) <;> cases hz : allF (fun d => hld S k 1 v (n + d)) A c <;> rw [hx, hy, hz] at r <;> simp only [if_true, if_false, reduceCtorEq] <;> exact r
        · rw [if_neg ho]
          refine ⟨u, ?_, hu⟩
          unfold sI
          rw [if_neg]
          intro hs
          rw [skd] at hs
          have h2 := allF_i hs c (by omega)
          rw [← Nat.add_assoc, Bool.and_eq_true] at h2
          exact ho (by simpa using h2.2)
    have := loop (B + 1 - A) FUEL 0 w (by omega) (Nat.lt_of_le_of_lt (by omega : B + 1 - A ≤ 10) (by decide)) rfl (MQs.refl R)
    exact this
  · rw [if_neg hto]
    refine ⟨w, ?_, MQs.refl R⟩
    unfold sI
    rw [if_neg]
    intro hs
    rw [skd] at hs
    have h2 := allF_i hs (B - A) (by omega)
    rw [show A + (B - A) = B by omega, decide_eq_false hto] at h2
    simp at h2
theorem M_isInSeason {L : Nat} {xs : Nat → Int32} {w : AW} (T : Top L xs w) {S : Nat → Nat → Int32} (R : RA S w) (If : IMf S) (Is : IMs S) {k n : Nat} (hk : k < 8) (hn : n < 1461) (Ik : IMk S k) : F_M_isInSeason w 271 (nI k) (nI n) = some (nI (seS S k n).toNat) := by
  have hsn := Ik.2.2.2.2
  have loop : ∀ s, s < 8 → ∀ j fu y, y + j = 4 → j < fu → F_M_isInSeason_52 w fu 271 (nI n) (nI s) (nI (fst4 S s n y).toNat) (nI y) = some (nI (fst4 S s n 4).toNat) := by
    intro s hs8 j
    induction j with
    | zero =>
      intro fu y hj hf
      obtain ⟨fu, rfl⟩ : ∃ m, fu = m + 1 := ⟨fu - 1, by omega⟩
      obtain rfl : y = 4 := by omega
      show F_M_isInSeason_52_B (F_M_isInSeason_52 w fu) w _ _ _ _ _ = _
      unfold F_M_isInSeason_52_B
      rw [gd_t (q_bm _)]
      simp (disch := omega) only [qL, ↓qM, q_le]
      rw [if_pos (by omega)]
    | succ j ih =>
      intro fu y hj hf
      obtain ⟨fu, rfl⟩ : ∃ m, fu = m + 1 := ⟨fu - 1, by omega⟩
      have r := ih fu (y + 1) (by omega) (by omega)
      have e : fst4 S s n (y + 1) = (fst4 S s n y || decide (feS S s y = (n : Int))) := rfl
      rw [e] at r
      have h1 := fday_le (sF S) y (nat (S 1 s)) (nat (S 2 s)) (nat (S 3 s)) (S 4 s).toInt
      have e2 : feS S s y = fday (sF S) y (nat (S 1 s)) (nat (S 2 s)) (nat (S 3 s)) (S 4 s).toInt := rfl
      rw [← e2] at h1
      have hfe : (fv (feS S s y) = nI n) = (feS S s y = (n : Int)) := by
        apply propext
        unfold fv
        by_cases h0 : 0 ≤ feS S s y
        · rw [if_pos h0, nI_eq (by omega) (by omega)]; omega
        · rw [if_neg h0, q_mn (by omega) (by omega) (by omega)]
          constructor
          · intro h; exact h.elim
          · intro h; omega
      show F_M_isInSeason_52_B (F_M_isInSeason_52 w fu) w _ _ _ _ _ = _
      unfold F_M_isInSeason_52_B F_M_isInSeason_75
      rw [M_feastOf T R If Is hs8 (by omega)]
      simp (disch := omega) only [qL, ↓qM, q_le, q_b0, mK T, nI_add, hfe, gd_true, beq_self_eq_true, bd_s, if_true, if_false, ↓reduceIte, ite_true, ite_false, Bool.and_self, Bool.and_true, Bool.true_and, Nat.reduceBEq, Bool.or_true, Bool.true_or, Bool.or_self]
      rw [if_neg (by omega)]
      cases hfs : fst4 S s n y
      · rw [if_pos rfl]
        rw [hfs, Bool.false_or] at r
        by_cases hc : feS S s y = (n : Int)
        · rw [if_pos hc]; rw [decide_eq_true hc] at r; exact r
        · rw [if_neg hc]; rw [decide_eq_false hc] at r; exact r
      · rw [if_neg (by simp)]
        rw [hfs, Bool.true_or] at r
        exact r
  unfold F_M_isInSeason
  simp (disch := omega) only [qL, ↓qM, mK T, mSay T, pk_mul, nI_add, q_inb, q_nat, ra13 R, gd_true, beq_self_eq_true, bd_s, if_true, if_false, ↓reduceIte, ite_true, ite_false, Bool.and_self, Bool.and_true, Bool.true_and, Nat.reduceBEq, Bool.or_true, Bool.true_or, Bool.or_self]
  unfold seS sea
  by_cases h7 : S 13 (12 * k + 7) = mI 1
  · rw [if_pos h7, if_pos h7]
    by_cases h5 : S 13 (12 * k + 5) = mI 1
    · rw [if_pos h5, if_pos h5]; rfl
    · rw [if_neg h5, if_neg h5]
      rcases hsn.2 with h | h
      · exact absurd h h5
      · obtain ⟨b1, b2, b3, b4⟩ := h
        have hm := mo_spec If.2 hn
        rw [M_monthOf T R If hn, b1, b2]
        rw [nat_nI (by omega), nat_nI (by omega)]
        simp (disch := omega) only [bd_s, q_lt, q_le, M_in_b, Int32.toInt_toInt64, q_int]
        unfold inMon
        by_cases hba : nat (S 13 (12 * k + 6)) < nat (S 13 (12 * k + 5))
        · rw [if_pos hba, if_neg (by omega : ¬ nat (S 13 (12 * k + 5)) ≤ nat (S 13 (12 * k + 6)))]
          by_cases h8 : nat (S 13 (12 * k + 5)) ≤ mo (sF S) n
          · rw [if_pos h8, decide_eq_true h8]; rfl
          · rw [if_neg h8, decide_eq_false h8]
            by_cases h9 : nat (S 13 (12 * k + 6)) < mo (sF S) n
            · rw [if_pos h9, decide_eq_false (by omega)]; rfl
            · rw [if_neg h9, decide_eq_true (by omega)]; rfl
        · rw [if_neg hba, if_pos (by omega : nat (S 13 (12 * k + 5)) ≤ nat (S 13 (12 * k + 6))), ← Bool.decide_and]
          exact congrArg (fun b : Bool => some (nI b.toNat)) (decide_eq_decide.mpr (by omega))
  · rw [if_neg h7, if_neg h7]
    rcases hsn.1 with h | h
    · exact absurd h h7
    · rw [h.1]
      have r := loop _ h.2 4 FUEL 0 (by omega) (by decide)
      rw [nat_nI (by omega)]
      exact r
/-- what a count asks of a day -/
def ofW (S : Nat → Nat → Int32) (k v what n : Nat) : Bool := cn S k v n && (if what = 0 then true else if what = 1 then hld S k 0 v n else if what = 2 then hld S k 0 v n && sw S k v n else sw S k v n)
theorem M_isOf {L : Nat} {xs : Nat → Int32} {w : AW} (T : Top L xs w) {S : Nat → Nat → Int32} (R : RA S w) (If : IMf S) (Is : IMs S) {k v n what : Nat} (hk : k < 8) (hv : v < 3) (hn : n < 1461) (hw : what < 4) (Ik : IMk S k) : ∃ w', F_M_isOf 271 (nI k) (nI v) (nI n) (nI what) w = some (nI (ofW S k v what n).toNat, w') ∧ MQs S w w' := by
  obtain ⟨u1, e1, q1⟩ := M_firstOf T R hk hv hn Ik
  have T1 := T.sh q1.1.sh
  obtain ⟨u2, e2, q2⟩ := M_secondOf T1 q1.2 hk hv hn Ik
  have T2 := T1.sh q2.1.sh
  have e3 := M_isInSeason T2 q2.2 If Is hk hn Ik
  refine ⟨u2, ?_, q1.trans q2⟩
  unfold F_M_isOf
  simp only [qL, ↓qM, mK T, mK T1, mK T2, e1, e2, e3, q_b0, gd_true, beq_self_eq_true, bd_s, if_true, if_false, ↓reduceIte, ite_true, ite_false, Bool.and_self, Bool.and_true, Bool.true_and, Nat.reduceBEq, Bool.or_true, Bool.true_or, Bool.or_self]
  have hwc : what = 0 ∨ what = 1 ∨ what = 2 ∨ what = 3 := by omega
  unfold fI sI ofW cn
  cases opS S k 0 v n
  · cases sk S k v n
    · cases hld S k 0 v n <;> simp (disch := decide) [q_nm, q_mn]
    · cases seS S k n
      · cases hld S k 0 v n <;> cases sw S k v n <;> simp (disch := decide) [q_nm, q_mn]
      · cases hld S k 0 v n <;> cases sw S k v n <;> rcases hwc with h | h | h | h <;> subst h <;> simp (disch := decide) [q_nm, q_mn, F_M_isOf_58, F_M_isOf_76, qL, q_eq]
  · simp
