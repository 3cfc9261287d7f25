/-! PURE: calls that write the calendar and the diaries -/
theorem IM_S {S S' : Nat → Nat → Int32} (h00 : S' 0 0 = S 0 0) (h9 : S' 0 9 = S 0 9) (h29 : S' 0 29 = S 0 29) (h40 : S' 0 40 = S 0 40) (h41 : S' 0 41 = S 0 41) (h45 : S' 0 45 = S 0 45) (hr : ∀ r, (r = 8 ∨ (13 ≤ r ∧ r ≤ 16) ∨ r = 26) → S' r = S r) (Is : IMs S') (Id : IMd S') (I : IM S) : IM S' :=
  ⟨IMf_S h00 I.1, Is, Id, IMpg_S h9 (hr 8 (by omega)) I.2.2.2.1, IMsy_S h29 (hr 13 (by omega)) (hr 14 (by omega)) (hr 15 (by omega)) (hr 16 (by omega)) I.2.2.2.2.1, IMle_S h40 h41 h45 (hr 26 (by omega)) I.2.2.2.2.2⟩
theorem uS_ne {S : Nat → Nat → Int32} {r i : Nat} {x : Int32} {q : Nat} (h : q ≠ r) : uS S r i x q = S q := by funext j; unfold uS; rw [if_neg (fun e => h e.1)]
theorem uS_nei {S : Nat → Nat → Int32} {r i : Nat} {x : Int32} {q j : Nat} (h : q ≠ r ∨ j ≠ i) : uS S r i x q j = S q j := by unfold uS; rw [if_neg (fun e => by omega)]
theorem uS_eq {S : Nat → Nat → Int32} {r i : Nat} {x : Int32} : uS S r i x r i = x := by unfold uS; rw [if_pos ⟨rfl, rfl⟩]
/-- a row of the state that is no object's field -/
theorem IM_row {S : Nat → Nat → Int32} (r i : Nat) (x : Int32) (hr : r ≠ 0 ∧ r ≠ 8 ∧ (r < 13 ∨ 16 < r) ∧ r ≠ 26) (Is : IMs (uS S r i x)) (Id : IMd (uS S r i x)) (I : IM S) : IM (uS S r i x) :=
  IM_S (uS_nei (.inl (by omega))) (uS_nei (.inl (by omega))) (uS_nei (.inl (by omega))) (uS_nei (.inl (by omega))) (uS_nei (.inl (by omega))) (uS_nei (.inl (by omega))) (fun q hq => uS_ne (by omega)) Is Id I
theorem S_get {L : Nat} {xs : Nat → Int32} {S : Nat → Nat → Int32} {w : AW} (I : Inv L xs S w) (x1 x2 x3 : Int32) : ∃ r, F_A_get w 16 x1 x2 x3 = some r ∧ F_M_get w 271 x1 x2 x3 = some r := by
  have T := I.1
  unfold F_A_get F_M_get
  rw [A_diaryOf T x1]
  simp only [qL, ↓qM, A_day, A_field, M_wi, M_valley, M_day, qLJ, t16 T, mK T, gd_true, beq_self_eq_true, bd_s, if_true, if_false, ↓reduceIte, ite_true, ite_false, Bool.and_self, Bool.and_true, Bool.true_and, Nat.reduceBEq, Bool.or_true, Bool.true_or, Bool.or_self]
  by_cases h1 : 0 ≤ x1.toInt ∧ x1.toInt ≤ 2
  · obtain ⟨v, rfl, hv⟩ := q_of h1.1 (n := 2) h1.2 (by omega)
    rw [if_pos h1, nat_nI (by omega), if_neg (by omega : ¬ 179 + 2 * v = 0), if_neg (not_not_intro h1)]
    by_cases h2 : 0 ≤ x2.toInt ∧ x2.toInt ≤ 1460
    · obtain ⟨n, rfl, hn⟩ := q_of h2.1 (n := 1460) h2.2 (by omega)
      rw [if_neg (not_not_intro h2), if_neg (not_not_intro h2)]
      by_cases h3 : 0 ≤ x3.toInt ∧ x3.toInt ≤ 3
      · obtain ⟨f, rfl, hf⟩ := q_of h3.1 (n := 3) h3.2 (by omega)
        have hx := fx_lt (show v < 3 by omega) (show n < 1461 by omega) (show f < 4 by omega)
        rw [if_neg (not_not_intro h3), if_neg (not_not_intro h3)]
        refine ⟨S 5 (fx v n f), ?_, ?_⟩
        · simp only [tV T (show v < 3 by omega), A_fieldAt T I.2.2.2.2.1 I.2.2.1.2.2.1 (show v < 3 by omega) (show n < 1461 by omega) (show f < 4 by omega), gd_true, beq_self_eq_true, bd_s, if_true, if_false, ↓reduceIte, ite_true, ite_false, Bool.and_self, Bool.and_true, Bool.true_and, Nat.reduceBEq, Bool.or_true, Bool.true_or, Bool.or_self]
        · simp (disch := omega) only [mFld T, M_at_n, q_inb, q_nat, ra5 I.2.1, gd_true, beq_self_eq_true, bd_s, if_true, if_false, ↓reduceIte, ite_true, ite_false, Bool.and_self, Bool.and_true, Bool.true_and, Nat.reduceBEq, Bool.or_true, Bool.true_or, Bool.or_self]
      · rw [if_pos h3, if_pos h3]; exact ⟨_, rfl, rfl⟩
    · rw [if_pos h2, if_pos h2]; exact ⟨_, rfl, rfl⟩
  · rw [if_neg h1, if_pos rfl, if_pos h1]; exact ⟨_, rfl, rfl⟩
theorem S_kept {L : Nat} {xs : Nat → Int32} {S : Nat → Nat → Int32} {w : AW} (I : Inv L xs S w) (x1 x2 : Int32) : ∃ r, F_A_kept w 16 x1 x2 = some r ∧ F_M_kept w 271 x1 x2 = some r := by
  have T := I.1
  have C := I.2.2.2.1.cf I.2.2.1.1
  by_cases h1 : 0 ≤ x1.toInt ∧ x1.toInt ≤ 2
  · obtain ⟨v, rfl, hv⟩ := q_of h1.1 (n := 2) h1.2 (by omega)
    by_cases h2 : 0 ≤ x2.toInt ∧ x2.toInt ≤ 3
    · obtain ⟨y, rfl, hy⟩ := q_of h2.1 (n := 3) h2.2 (by omega)
      refine ⟨_, ?_, M_kept_in T I.2.1 I.2.2.1.1 (show v < 3 by omega) (show y < 4 by omega)⟩
      have y1 := yst_mono (sF S) (show y ≤ y + 1 by omega)
      have y2 := yst_mono (sF S) (show y + 1 ≤ 4 by omega)
      rw [yst_4 _ I.2.2.1.1.2] at y2
      unfold F_A_kept
      rw [A_diaryOf T (nI v), if_pos h1, nat_nI (by omega)]
      simp (disch := omega) only [qL, ↓qM, A_year, t16 T, t17 T, A_startOf T C, A_endOf T C, tV T (show v < 3 by omega), A_numbersIn T I.2.2.2.2.1 I.2.2.1.2.2.1 (show v < 3 by omega) y1 y2, gd_true, beq_self_eq_true, bd_s, if_true, if_false, ↓reduceIte, ite_true, ite_false, Bool.and_self, Bool.and_true, Bool.true_and, Nat.reduceBEq, Bool.or_true, Bool.true_or, Bool.or_self]
      rw [if_neg (by omega), if_neg (not_not_intro h2)]
    · refine ⟨mI 101, ?_, ?_⟩
      · unfold F_A_kept
        rw [A_diaryOf T (nI v), if_pos h1]
        simp only [qL, ↓qM, A_year, t16 T, gd_true, beq_self_eq_true, bd_s, if_true, if_false, ↓reduceIte, ite_true, ite_false, Bool.and_self, Bool.and_true, Bool.true_and, Nat.reduceBEq, Bool.or_true, Bool.true_or, Bool.or_self]
        rw [if_neg (by omega), if_pos h2]
      · unfold F_M_kept
        simp only [qL, ↓qM, M_valley, M_wi, qLJ]
        rw [if_neg (not_not_intro h1), if_pos h2]
  · refine ⟨mI 101, ?_, ?_⟩
    · unfold F_A_kept
      rw [A_diaryOf T x1, if_neg h1]
      simp only [qL, ↓qM, t16 T, gd_true, beq_self_eq_true, bd_s, if_true, if_false, ↓reduceIte, ite_true, ite_false, Bool.and_self, Bool.and_true, Bool.true_and, Nat.reduceBEq, Bool.or_true, Bool.true_or, Bool.or_self]
    · unfold F_M_kept
      simp only [qL, ↓qM, M_valley]
      rw [if_pos h1]
/-- the class with one diary's row anew -/
theorem IA_sheet {L : Nat} {xs : Nat → Int32} {S S' : Nat → Nat → Int32} {w : AW} (I : Inv L xs S w) {v : Nat} (hv : v < 3) (g : Nat → Int32) (D : DiaA S' (rowI w (180 + 2 * v) g)) (h0 : S' 0 = S 0) (hr : ∀ r, r ≠ 5 → S' r = S r) : IA S' (rowI w (180 + 2 * v) g) := by
  obtain ⟨a1, a2, a3, a4, a5, a6, a7⟩ := I.2.2.2
  have ne : ∀ a i, a ≠ 180 + 2 * v → wi (rowI w (180 + 2 * v) g) a i = wi w a i := fun a i h => by rw [wi_rowI, if_neg h]
  refine ⟨?_, D, ?_, ?_, ?_, ?_, WFs_j (w := w) (fun _ _ => rfl) a7⟩
  · exact CalA_S (by rw [h0]) (hr 1 (by omega)) (hr 2 (by omega)) (hr 3 (by omega)) (hr 4 (by omega)) (CalA_w (fun a i h1 h2 => ne a i (by omega)) a1)
  · exact PgA_S (by rw [h0]) (hr 8 (by omega)) (PgA_w (ne 23 0 (by omega)) (fun i => ne 24 i (by omega)) a3)
  · exact SyA_S (by rw [h0]) (hr 13 (by omega)) (hr 14 (by omega)) (hr 15 (by omega)) (hr 16 (by omega)) (SyA_w (ne 16 4 (by omega)) (fun _ _ => rfl) (fun k hk a i h1 h2 => ne a i (by have := I.sr hk; omega)) a4)
  · exact LeA_S (by rw [h0]) (by rw [h0]) (hr 25 (by omega)) (hr 26 (by omega)) (LeA_w (fun a i h => ne a i (by omega)) a5)
  · exact AlA_S (hr 6 (by omega)) (hr 7 (by omega)) (AlA_w (fun a i h1 h2 => ne a i (by omega)) (fun a n h1 h2 => gD_j (fun _ _ => rfl) a n) a6)
theorem RS_rowI {w : AW} {a : Nat} (g : Nat → Int32) (h : a < 271) {S : Nat → Nat → Int32} (R : RA S w) : RA S (rowI w a g) := by
  unfold RA
  rw [RS_eq (w := w) (fun b i hb => by rw [wi_rowI, if_neg (by omega)])]
  exact R
theorem M_set_in {L : Nat} {xs : Nat → Int32} {S : Nat → Nat → Int32} {w : AW} (T : Top L xs w) (R : RA S w) {v n f : Nat} (x4 x5 : Int32) (hv : v < 3) (hn : n < 1461) (hf : f < 4) : F_M_set 271 (nI v) (nI n) (nI f) x4 x5 w = (if ¬ (lo f ≤ x4.toInt ∧ x4.toInt ≤ hi f) then some (mI 102, w) else F_M_set_110 271 (nI v) (nI n) (nI f) x4 x5 (if S 5 (fx v n f) = mI 1000 then nI 0 else nI 1) w) := by
  have hx := fx_lt hv hn hf
  have h79 : ∀ a b : Int64, F_M_set_79 271 (nI v) (nI n) (nI f) x4 x5 b a (Int32.toInt64 x4) w = (if ¬ (a.toInt ≤ x4.toInt ∧ x4.toInt ≤ b.toInt) then some (mI 102, w) else F_M_set_110 271 (nI v) (nI n) (nI f) x4 x5 (if S 5 (fx v n f) = mI 1000 then nI 0 else nI 1) w) := by
    intro a b
    unfold F_M_set_79
    simp (disch := omega) only [qL, ↓qM, M_wi, mK T, mFld T, M_at_n, q_inb, q_nat, ra5 R, gd_true, beq_self_eq_true, bd_s, if_true, if_false, ↓reduceIte, ite_true, ite_false, Bool.and_self, Bool.and_true, Bool.true_and, Nat.reduceBEq, Bool.or_true, Bool.true_or, Bool.or_self]
    by_cases h : a.toInt ≤ x4.toInt ∧ x4.toInt ≤ b.toInt
    · rw [if_neg (not_not_intro h), if_neg (not_not_intro h)]; split <;> rfl
    · rw [if_pos h, if_pos h]
  unfold F_M_set
  simp (disch := omega) only [qL, ↓qM, M_valley, M_day, M_wi, qLJ, q_int, q_eq]
  rw [if_neg (by omega), if_neg (by omega), if_neg (by omega)]
  unfold F_M_set_44
  simp (disch := omega) only [qL, ↓qM, q_eq, h79, qLJ]
  have : f = 0 ∨ f = 1 ∨ f = 2 ∨ f = 3 := by omega
  unfold lo hi
  rcases this with e | e | e | e <;> subst e <;> simp
theorem S_set {L : Nat} {xs : Nat → Int32} {S : Nat → Nat → Int32} {w : AW} (I : Inv L xs S w) (x1 x2 x3 x4 x5 : Int32) : STEP L xs w (F_A_set 16 x1 x2 x3 x4 x5) (F_M_set 271 x1 x2 x3 x4 x5) := by
  have T := I.1
  by_cases h1 : 0 ≤ x1.toInt ∧ x1.toInt ≤ 2
  · obtain ⟨v, rfl, hv⟩ := q_of h1.1 (n := 2) h1.2 (by omega)
    have hV := A_diaryOf T (nI v)
    rw [if_pos h1, nat_nI (by omega)] at hV
    by_cases h2 : 0 ≤ x2.toInt ∧ x2.toInt ≤ 1460
    · obtain ⟨n, rfl, hn⟩ := q_of h2.1 (n := 1460) h2.2 (by omega)
      by_cases h3 : 0 ≤ x3.toInt ∧ x3.toInt ≤ 3
      · obtain ⟨f, rfl, hf⟩ := q_of h3.1 (n := 3) h3.2 (by omega)
        have hf4 : f < 4 := by omega
        have hv3 : v < 3 := by omega
        have hn3 : n < 1461 := by omega
        have hx := fx_lt hv3 hn3 hf4
        have hM := M_set_in T I.2.1 x4 x5 hv3 hn3 hf4
        have hA : F_A_set 16 (nI v) (nI n) (nI f) x4 x5 w = (if ¬ (lo f ≤ x4.toInt ∧ x4.toInt ≤ hi f) then some (mI 102, w) else (if x5 = nI 0 then F_A_set_76 (S 5 (fx v n f)) (mI 1000) (nI f) (nI n) (179 + 2 * v) w else F_A_set_76 (S 5 (fx v n f)) x4 (nI f) (nI n) (179 + 2 * v) w)) := by
          unfold F_A_set
          simp (disch := omega) only [qL, ↓qM, t16 T, hV, A_day, A_field, s3 T, s4 T, q_inb, q_nat, A_wi, th3 T f hf4, th4 T f hf4, tV T hv3, A_fieldAt T I.2.2.2.2.1 I.2.2.1.2.2.1 hv3 hn3 hf4, gd_true, beq_self_eq_true, bd_s, if_true, if_false, ↓reduceIte, ite_true, ite_false, Bool.and_self, Bool.and_true, Bool.true_and, Nat.reduceBEq, Bool.or_true, Bool.true_or, Bool.or_self]
          rw [if_neg (by omega), if_neg (not_not_intro h2), if_neg (not_not_intro h3)]
        by_cases h4 : lo f ≤ x4.toInt ∧ x4.toInt ≤ hi f
        · rw [if_neg (not_not_intro h4)] at hM hA
          generalize hy : (if x5 = nI 0 then mI 1000 else x4) = y
          have hvf : vf f y := by
            rw [← hy]
            split
            · exact .inl rfl
            · exact .inr h4
          obtain ⟨g, p1, p2⟩ := A_putField T I.2.2.2.2.1 hv3 hn3 hf4 hvf
          have Id : IMd (uS S 5 (fx v n f) y) := fun v' hv' n' hn' f' hf' => by
            by_cases e : fx v' n' f' = fx v n f
            · rw [e, uS_eq, (fx_inj hn' hn3 hf' hf4 e).2.2]; exact hvf
            · rw [uS_nei (.inr e)]; exact I.2.2.1.2.2.1 v' hv' n' hn' f' hf'
          have hm := IM_row (S := S) 5 (fx v n f) y (by decide) (IMs_S (uS_ne (by omega)) (uS_ne (by omega)) (uS_ne (by omega)) (uS_ne (by omega)) I.2.2.1.2.1) Id I.2.2.1
          have hia := IA_sheet I hv3 g p2 (uS_ne (by omega)) (fun r hr => uS_ne hr)
          have T1 : Top L xs (rowI w (180 + 2 * v) g) := T.sh (Sh.rowI w g (by omega))
          have R1 := (RS_rowI g (show 180 + 2 * v < 271 by omega) I.2.1).up 5 (fx v n f) y (by decide)
          refine ⟨if S 5 (fx v n f) = mI 1000 then nI 0 else nI 1, rowI w (180 + 2 * v) g, upI (rowI w (180 + 2 * v) g) 276 (fx v n f) y, uS S 5 (fx v n f) y, ?_, T1, ?_, Inv.mq T1 hm hia (AF.upI _ _ _ (by omega)) R1⟩
          · rw [hA]
            have e : (if x5 = nI 0 then F_A_set_76 (S 5 (fx v n f)) (mI 1000) (nI f) (nI n) (179 + 2 * v) w else F_A_set_76 (S 5 (fx v n f)) x4 (nI f) (nI n) (179 + 2 * v) w) = F_A_set_76 (S 5 (fx v n f)) y (nI f) (nI n) (179 + 2 * v) w := by
              rw [← hy]; split <;> rfl
            rw [e]
            unfold F_A_set_76
            simp only [qL, ↓qM, tV T hv3, p1, gd_true, beq_self_eq_true, bd_s, if_true, if_false, ↓reduceIte, ite_true, ite_false, Bool.and_self, Bool.and_true, Bool.true_and, Nat.reduceBEq, Bool.or_true, Bool.true_or, Bool.or_self]
            split <;> rfl
          · have R0 := RS_rowI g (show 180 + 2 * v < 271 by omega) I.2.1
            have hM1 := M_set_in T1 R0 x4 x5 hv3 hn3 hf4
            rw [if_neg (not_not_intro h4)] at hM1
            rw [hM1]
            unfold F_M_set_110
            simp (disch := omega) only [qL, ↓qM, mK T1, mFld T1, M_at_n, q_inb, q_nat, gd_true, beq_self_eq_true, bd_s, if_true, if_false, ↓reduceIte, ite_true, ite_false, Bool.and_self, Bool.and_true, Bool.true_and, Nat.reduceBEq, Bool.or_true, Bool.true_or, Bool.or_self]
            rw [← hy]
            split <;> rfl
        · rw [if_pos h4] at hM hA
          exact STEP.pure I hA hM
      · refine STEP.pure I (r := mI 101) ?_ ?_
        · unfold F_A_set
          simp only [qL, ↓qM, t16 T, hV, A_day, A_field, gd_true, beq_self_eq_true, bd_s, if_true, if_false, ↓reduceIte, ite_true, ite_false, Bool.and_self, Bool.and_true, Bool.true_and, Nat.reduceBEq, Bool.or_true, Bool.true_or, Bool.or_self]
          rw [if_neg (by omega), if_neg (not_not_intro h2), if_pos h3]
        · unfold F_M_set
          simp only [qL, ↓qM, M_valley, M_day, M_wi, qLJ]
          rw [if_neg (not_not_intro h1), if_neg (not_not_intro h2), if_pos h3]
    · refine STEP.pure I (r := mI 101) ?_ ?_
      · unfold F_A_set
        simp only [qL, ↓qM, t16 T, hV, A_day, gd_true, beq_self_eq_true, bd_s, if_true, if_false, ↓reduceIte, ite_true, ite_false, Bool.and_self, Bool.and_true, Bool.true_and, Nat.reduceBEq, Bool.or_true, Bool.true_or, Bool.or_self]
        rw [if_neg (by omega), if_pos h2]
      · unfold F_M_set
        simp only [qL, ↓qM, M_valley, M_day]
        rw [if_neg (not_not_intro h1), if_pos h2]
  · have hV := A_diaryOf T x1
    rw [if_neg h1] at hV
    refine STEP.pure I (r := mI 101) ?_ ?_
    · unfold F_A_set
      simp only [qL, ↓qM, t16 T, hV, gd_true, beq_self_eq_true, bd_s, if_true, if_false, ↓reduceIte, ite_true, ite_false, Bool.and_self, Bool.and_true, Bool.true_and, Nat.reduceBEq, Bool.or_true, Bool.true_or, Bool.or_self]
    · unfold F_M_set
      simp only [qL, ↓qM, M_valley]
      rw [if_pos h1]
theorem S_write {L : Nat} {xs : Nat → Int32} {S : Nat → Nat → Int32} {w : AW} (I : Inv L xs S w) (x1 x2 x3 x4 : Int32) : STEP L xs w (F_A_write 16 x1 x2 x3 x4) (F_M_write 271 x1 x2 x3 x4) := by
  have T := I.1
  have C := I.2.2.2.1.cf I.2.2.1.1
  by_cases h1 : 0 ≤ x1.toInt ∧ x1.toInt ≤ 2
  · obtain ⟨v, rfl, hv⟩ := q_of h1.1 (n := 2) h1.2 (by omega)
    have hV := A_diaryOf T (nI v)
    rw [if_pos h1, nat_nI (by omega)] at hV
    by_cases h2 : 0 ≤ x2.toInt ∧ x2.toInt ≤ 3
    · obtain ⟨y, rfl, hy⟩ := q_of h2.1 (n := 3) h2.2 (by omega)
      by_cases h3 : 0 ≤ x3.toInt
      · have hx0 : ¬ x3 < nI 0 := by rw [Int32.lt_iff_toInt_lt]; show ¬ x3.toInt < 0; omega
        by_cases h4 : 0 ≤ x4.toInt ∧ x4.toInt ≤ 1000
        · obtain ⟨g, rfl, hg⟩ := q_of h4.1 (n := 1000) h4.2 (by omega)
          have hv3 : v < 3 := by omega
          have y1 := yst_mono (sF S) (show y ≤ y + 1 by omega)
          have y2 := yst_mono (sF S) (show y + 1 ≤ 4 by omega)
          rw [yst_4 _ I.2.2.1.1.2] at y2
          obtain ⟨gg, p1, p2⟩ := A_writeDays T I.2.2.2.2.1 (g := g) x3 hv3 y1 y2 hg
          generalize hS' : wS S (fx v (yst (sF S) y) 0) g x3 (4 * (yst (sF S) (y + 1) - yst (sF S) y)) = S' at p2
          have hne : ∀ r, r ≠ 5 → S' r = S r := fun r hr => by
            rw [← hS']; funext j; unfold wS; rw [if_neg (fun e => hr e.1)]
          have Id : IMd S' := by rw [← hS']; exact IMd_wS I.2.2.1.2.2.1 _ _ _ _ _
          have T1 : Top L xs (rowI w (180 + 2 * v) gg) := T.sh (Sh.rowI w gg (by omega))
          have R1 := RS_rowI gg (show 180 + 2 * v < 271 by omega) I.2.1
          have h0 := hne 0 (by omega)
          have hm : IM S' := IM_S (by rw [h0]) (by rw [h0]) (by rw [h0]) (by rw [h0]) (by rw [h0]) (by rw [h0]) (fun q hq => hne q (by omega)) (IMs_S (hne 1 (by omega)) (hne 2 (by omega)) (hne 3 (by omega)) (hne 4 (by omega)) I.2.2.1.2.1) Id I.2.2.1
          have hia := IA_sheet I hv3 gg p2 h0 hne
          obtain ⟨w2, m1, m2, m3⟩ := M_write_in T1 R1 I.2.2.1.1 x3 hv3 (show y < 4 by omega) hg h3
          rw [hS'] at m3
          refine ⟨_, rowI w (180 + 2 * v) gg, w2, S', ?_, T1, m1, Inv.mq T1 hm hia m2 m3⟩
          unfold F_A_write
          have C1 : CF (rowI w (180 + 2 * v) gg) (sF S) := by
            unfold CF; rw [wi_rowI, if_neg (by omega)]; exact C
          simp (disch := omega) only [qL, ↓qM, t16 T, hV, A_year, hx0, A_wi, q_int, t17 T, A_startOf T C, A_endOf T C, tV T hv3, p1, tV T1 hv3, A_numbersIn T1 p2 Id hv3 y1 y2, gd_true, beq_self_eq_true, bd_s, if_true, if_false, ↓reduceIte, ite_true, ite_false, Bool.and_self, Bool.and_true, Bool.true_and, Nat.reduceBEq, Bool.or_true, Bool.true_or, Bool.or_self]
          rw [if_neg (by omega), if_neg (by omega), if_neg (by omega)]
          have hcn := cnt_not (fun t => wgap g (sd x3 (t + 1))) (4 * (yst (sF S) (y + 1) - yst (sF S) y))
          have e : cnt (isN S' (fx v (yst (sF S) y) 0)) (4 * (yst (sF S) (y + 1) - yst (sF S) y)) = cnt (fun t => !wgap g (sd x3 (t + 1))) (4 * (yst (sF S) (y + 1) - yst (sF S) y)) := cnt_congr _ (fun t ht => by
            unfold isN
            rw [← hS']
            unfold wS
            rw [if_pos ⟨rfl, by omega, by omega⟩, show fx v (yst (sF S) y) 0 + t - fx v (yst (sF S) y) 0 = t by omega]
            congr 1
            rw [Bool.eq_iff_iff, decide_eq_true_iff]
            exact wnv_gap g x3 t)
          rw [e, pk_sub y1, pk_mul, pk_sub (by omega)]
          exact congrArg (fun z => some (nI z, rowI w (180 + 2 * v) gg)) (by omega)
        · refine STEP.pure I (r := mI 102) ?_ ?_
          · unfold F_A_write
            simp (disch := omega) only [qL, ↓qM, t16 T, hV, A_year, hx0, A_wi, q_int, gd_true, beq_self_eq_true, bd_s, if_true, if_false, ↓reduceIte, ite_true, ite_false, Bool.and_self, Bool.and_true, Bool.true_and, Nat.reduceBEq, Bool.or_true, Bool.true_or, Bool.or_self]
            rw [if_neg (by omega), if_neg (by omega), if_pos (by omega)]
          · unfold F_M_write
            simp only [qL, ↓qM, M_valley, M_wi, qLJ, hx0, if_false]
            rw [if_neg (not_not_intro h1), if_neg (not_not_intro h2), if_pos h4]
      · have hx0 : x3 < nI 0 := by rw [Int32.lt_iff_toInt_lt]; show x3.toInt < 0; omega
        refine STEP.pure I (r := mI 102) ?_ ?_
        · unfold F_A_write
          simp (disch := omega) only [qL, ↓qM, t16 T, hV, A_year, q_int, gd_true, beq_self_eq_true, bd_s, if_true, if_false, ↓reduceIte, ite_true, ite_false, Bool.and_self, Bool.and_true, Bool.true_and, Nat.reduceBEq, Bool.or_true, Bool.true_or, Bool.or_self]
          rw [if_neg (by omega), if_neg (by omega), if_pos hx0]
        · unfold F_M_write
          simp only [qL, ↓qM, M_valley, M_wi, qLJ]
          rw [if_neg (not_not_intro h1), if_neg (not_not_intro h2), if_pos hx0]
    · refine STEP.pure I (r := mI 101) ?_ ?_
      · unfold F_A_write
        simp (disch := omega) only [qL, ↓qM, t16 T, hV, A_year, gd_true, beq_self_eq_true, bd_s, if_true, if_false, ↓reduceIte, ite_true, ite_false, Bool.and_self, Bool.and_true, Bool.true_and, Nat.reduceBEq, Bool.or_true, Bool.true_or, Bool.or_self]
        rw [if_neg (by omega), if_pos h2]
      · unfold F_M_write
        simp only [qL, ↓qM, M_valley, M_wi, qLJ]
        rw [if_neg (not_not_intro h1), if_pos h2]
  · have hV := A_diaryOf T x1
    rw [if_neg h1] at hV
    refine STEP.pure I (r := mI 101) ?_ ?_
    · unfold F_A_write
      simp only [qL, ↓qM, t16 T, hV, gd_true, beq_self_eq_true, bd_s, if_true, if_false, ↓reduceIte, ite_true, ite_false, Bool.and_self, Bool.and_true, Bool.true_and, Nat.reduceBEq, Bool.or_true, Bool.true_or, Bool.or_self]
    · unfold F_M_write
      simp only [qL, ↓qM, M_valley]
      rw [if_pos h1]
