/-! PURE: the draft's programs grow -/
theorem i16_0 : Int16.toInt32 (Int32.toInt16 (nI 0)) = nI 0 := by decide +kernel
/-- the world behind one step more -/
def stW (w : AW) (c n m : Nat) : AW := upI (upI (upI w (c + 1) n (nI m)) (c + 2) n (nI 0)) c 2 (nI (n + 1))
theorem stW_ne (w : AW) (c n m : Nat) {a : Nat} (h : a ≠ c ∧ a ≠ c + 1 ∧ a ≠ c + 2) (i : Nat) : wi (stW w c n m) a i = wi w a i := by
  unfold stW; rw [wi_upI, if_neg (by omega), wi_upI, if_neg (by omega), wi_upI, if_neg (by omega)]
theorem stW_c (w : AW) (c n m : Nat) {i : Nat} (h : i ≠ 2) : wi (stW w c n m) c i = wi w c i := by
  unfold stW; rw [wi_upI, if_neg (by omega), wi_upI, if_neg (by omega), wi_upI, if_neg (by omega)]
theorem stW_sh (w : AW) {c : Nat} (n m : Nat) (h : 16 ≤ c) : Sh w (stW w c n m) := (Sh.upI w _ _ (by omega)).trans ((Sh.upI _ _ _ (by omega)).trans (Sh.upI _ _ _ h))
theorem A_addStep {w : AW} {c m : Nat} {P : List (Nat × Int)} (tc : TC w c) (hP : CP w c P) (hl : P.length < 80) (hm : m ≤ 14) : F_Co_addStep c (nI m) w = some (stW w c P.length m) ∧ CP (stW w c P.length m) c (P ++ [(m, 0)]) := by
  obtain ⟨k, r0, r1, k1, n1, k2, n2⟩ := tc
  obtain ⟨h2, h80, hs⟩ := hP
  constructor
  · unfold F_Co_addStep
    have e2 : wi (upI w (c + 1) P.length (nI m)) c 2 = nI P.length := by rw [wi_upI, if_neg (by omega)]; exact h2
    have e3 : wi (upI (upI w (c + 1) P.length (nI m)) (c + 2) P.length (nI 0)) c 2 = nI P.length := by rw [wi_upI, if_neg (by omega)]; exact e2
    simp (disch := omega) only [qL, ↓qM, k, r0, r1, k1, n1, k2, n2, h2, q_le, q_lt, q_inb, q_nat, i8_ok, i16_0, wk_upI, wn_upI, wr_upI, e2, e3, nI_add, gd_true, beq_self_eq_true, bd_s, if_true, if_false, ↓reduceIte, ite_true, ite_false, Bool.and_self, Bool.and_true, Bool.true_and, Nat.reduceBEq, Bool.or_true, Bool.true_or, Bool.or_self]
    rw [if_neg (by omega), if_neg (by omega)]; rfl
  · refine ⟨?_, by rw [List.length_append]; simp; omega, fun i m' z hi => ?_⟩
    · unfold stW; rw [wi_upI, if_pos ⟨rfl, rfl⟩, List.length_append]; rfl
    · by_cases e : i < P.length
      · rw [List.getElem?_append_left e] at hi
        have := hs i m' z hi
        unfold stW
        rw [wi_upI, if_neg (by omega), wi_upI, if_neg (by omega), wi_upI, if_neg (by omega), wi_upI, if_neg (by omega), wi_upI, if_neg (by omega), wi_upI, if_neg (by omega)]
        exact this
      · rw [List.getElem?_append_right (by omega)] at hi
        have e1 : i = P.length := by
          by_cases q : i - P.length = 0
          · omega
          · obtain ⟨j, hj⟩ : ∃ j, i - P.length = j + 1 := ⟨i - P.length - 1, by omega⟩
            rw [hj] at hi; simp at hi
        subst e1
        rw [Nat.sub_self] at hi
        simp at hi
        obtain ⟨rfl, rfl⟩ := hi
        unfold stW
        refine ⟨?_, ?_, hm, by omega, by omega⟩
        · rw [wi_upI, if_neg (by omega), wi_upI, if_neg (by omega), wi_upI, if_pos ⟨rfl, rfl⟩]
        · rw [wi_upI, if_neg (by omega), wi_upI, if_pos ⟨rfl, rfl⟩]; decide
theorem i16_ok : ∀ k, k ≤ 999 → Int16.toInt32 (Int32.toInt16 (Int16.toInt32 (Int32.toInt16 (nI k)))) = nI k ∧ Int16.toInt32 (Int32.toInt16 (Int16.toInt32 (Int32.toInt16 (mI k)))) = mI k := by decide +kernel
theorem i16_in {x : Int32} (h1 : -999 ≤ x.toInt) (h2 : x.toInt ≤ 999) : Int16.toInt32 (Int32.toInt16 (Int16.toInt32 (Int32.toInt16 x))) = x := by
  by_cases h : 0 ≤ x.toInt
  · obtain ⟨k, rfl, hk⟩ := q_of h (n := 999) h2 (by omega)
    exact (i16_ok k hk).1
  · have e : x = mI (-x.toInt).toNat := by
      apply Int32.toInt.inj
      rw [mI_toInt (by omega)]; omega
    have := (i16_ok (-x.toInt).toNat (by omega)).2
    rw [← e] at this
    exact this
/-- the number of the last step but k anew -/
theorem A_putNumber {w : AW} {c i m : Nat} {z : Int} {P : List (Nat × Int)} {x : Int32} (tc : TC w c) (hP : CP w c P) (hi : P[i]? = some (m, z)) (h1 : -999 ≤ x.toInt) (h2 : x.toInt ≤ 999) : F_Co_putNumber c (nI i) x w = some (upI w (c + 2) i x) ∧ CP (upI w (c + 2) i x) c (P.set i (m, x.toInt)) ∧ F_Co_numberAt w c (nI i) = some (wi w (c + 2) i) ∧ (wi w (c + 2) i).toInt = z := by
  obtain ⟨k, r0, r1, k1, n1, k2, n2⟩ := tc
  have hl : i < P.length := by
    rcases Nat.lt_or_ge i P.length with q | q
    · exact q
    · rw [List.getElem?_eq_none q] at hi; cases hi
  obtain ⟨hp2, h80, hs⟩ := hP
  have hsi := hs i m z hi
  refine ⟨?_, ⟨?_, by rw [List.length_set]; exact h80, fun j m' z' hj => ?_⟩, ?_, hsi.2.1⟩
  · unfold F_Co_putNumber
    simp (disch := omega) only [qL, ↓qM, A_wi, q_int, k, r1, k2, n2, q_inb, q_nat, i16_in h1 h2, gd_true, beq_self_eq_true, bd_s, if_true, if_false, ↓reduceIte, ite_true, ite_false, Bool.and_self, Bool.and_true, Bool.true_and, Nat.reduceBEq, Bool.or_true, Bool.true_or, Bool.or_self]
    rw [if_neg (by omega)]
  · rw [wi_upI, if_neg (by omega), List.length_set]; exact hp2
  · by_cases e : j = i
    · subst e
      rw [List.getElem?_set_self hl] at hj
      injection hj with hj
      injection hj with e1 e2
      subst e1
      refine ⟨?_, ?_, hsi.2.2.1, by omega, by omega⟩
      · rw [wi_upI, if_neg (by omega)]; exact hsi.1
      · rw [wi_upI, if_pos ⟨rfl, rfl⟩]; exact e2
    · rw [List.getElem?_set_ne (fun q => e q.symm)] at hj
      have := hs j m' z' hj
      rw [wi_upI, if_neg (by omega), wi_upI, if_neg (by omega)]
      exact this
  · unfold F_Co_numberAt
    simp (disch := omega) only [qL, ↓qM, A_wi, q_int, k, r1, k2, n2, q_inb, q_nat, gd_true, beq_self_eq_true, bd_s, if_true, if_false, ↓reduceIte, ite_true, ite_false, Bool.and_self, Bool.and_true, Bool.true_and, Nat.reduceBEq, Bool.or_true, Bool.true_or, Bool.or_self]
    rw [if_neg (by omega)]
