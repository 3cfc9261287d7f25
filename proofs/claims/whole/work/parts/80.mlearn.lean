/-! PURE: the reference's list, settled -/
section
variable {L : Nat} {xs : Nat → Int32} {S : Nat → Nat → Int32}
def rec0 : Nat → Int32 → Int32 → Int32 → Int32 → Int32 → Int32 → AW → Option (Int32 × AW) := fun _ _ _ _ _ _ _ _ => none
theorem M_choose {v s a sz : Nat} {u w : AW} (T : Top L xs u) (R : RA S u) (If : IMf S) (Is : IMsy S) (N : NT S v s u) (ha : a < 16) (hsz : sz ≤ 2) (f : CF2 u w) : ∃ w', F_M_learn_191 FUEL 271 (nI sz) (nI a) (mI 1) (mI 1) (nI (ch1 S v s a 0).1) (nI 1) w = F_M_learn_191_B rec0 271 (nI 0) (nI a) (o1 (chF S v s a sz).2.1 (chF S v s a sz).2.2.1) (o2 (chF S v s a sz).2.1 (chF S v s a sz).2.2.2) (nI (chF S v s a sz).1) (nI 1) w' ∧ CF2 u w' := by
  have h8 := Is.2.1
  have fin : ∀ (rec191 : Nat → Int32 → Int32 → Int32 → Int32 → Int32 → Int32 → AW → Option (Int32 × AW)) (p q : Nat) (X5 X6 X7 : Int32) (w' : AW), p < q → q < 10 → F_M_learn_191_B rec191 271 (nI p) (nI a) X5 X6 X7 (nI q) w' = F_M_learn_191_B rec0 271 (nI 0) (nI a) X5 X6 X7 (nI 1) w' := by
    intro rec191 p q X5 X6 X7 w' h1 h2
    unfold F_M_learn_191_B
    rw [if_pos (show nI p < nI q by rw [q_lt (by omega) (by omega)]; exact h1), if_pos (show nI 0 < nI 1 by decide +kernel)]
  have go : ∀ (fu p q : Nat) (X5 X6 X7 : Int32) (w' : AW), q ≤ p → p < 10 → F_M_learn_191 (fu + 1) 271 (nI p) (nI a) X5 X6 X7 (nI q) w' = F_M_learn_200 (F_M_learn_191 fu) FUEL 271 (nI p) (nI a) X5 X6 X7 (nI q) (nI 0) w' := by
    intro fu p q X5 X6 X7 w' h1 h2
    show F_M_learn_191_B (F_M_learn_191 fu) _ _ _ _ _ _ _ w' = _
    unfold F_M_learn_191_B
    rw [if_neg (show ¬ nI p < nI q by rw [q_lt (by omega) (by omega)]; omega), l_0]
  have e : sz = 0 ∨ sz = 1 ∨ sz = 2 := by omega
  rcases e with e | e | e <;> subst e
  · exact ⟨w, fin (F_M_learn_191 999999) 0 1 _ _ _ w (by omega) (by omega), f⟩
  · obtain ⟨w1, p1, f1⟩ := M_ch1 T R If Is N ha (nI 1) (F_M_learn_191 999999) (nS S) FUEL 0 w (ch1 S v s a 0) rfl f (by omega) (Nat.lt_of_le_of_lt h8 (by decide))
    exact ⟨w1, (go 999999 1 1 _ _ _ w (by omega) (by omega)).trans (p1.trans (fin (F_M_learn_191 999998) 1 2 _ _ _ w1 (by omega) (by omega))), f1⟩
  · obtain ⟨w1, p1, f1⟩ := M_ch1 T R If Is N ha (nI 2) (F_M_learn_191 999999) (nS S) FUEL 0 w (ch1 S v s a 0) rfl f (by omega) (Nat.lt_of_le_of_lt h8 (by decide))
    obtain ⟨w2, p2, f2⟩ := M_ch3 T R If Is N ha (nI 2) (F_M_learn_191 999998) (nS S) FUEL 0 w1 (ch3 S v s a 0) rfl f1 (by omega) (Nat.lt_of_le_of_lt h8 (by decide))
    exact ⟨w2, (go 999999 2 1 _ _ _ w (by omega) (by omega)).trans (p1.trans ((go 999998 2 2 _ _ _ w1 (by omega) (by omega)).trans (p2.trans (fin (F_M_learn_191 999997) 2 3 _ _ _ w2 (by omega) (by omega))))), f2⟩
theorem cnt_3 (S : Nat → Nat → Int32) (v s b z x y : Nat) : ∀ n, cnt (PG S v s b z x y 0) n + cnt (PG S v s b z x y 1) n + cnt (PG S v s b z x y 2) n = cnt (lrn S v s b) n
  | 0 => rfl
  | n + 1 => by
    have ih := cnt_3 S v s b z x y n
    rw [cnt_s, cnt_s, cnt_s, cnt_s, ← ih]
    have : gi S v z x y n = 0 ∨ gi S v z x y n = 1 ∨ gi S v z x y n = 2 := by
      unfold gi; split
      · exact .inl rfl
      · split
        · exact .inr (.inl rfl)
        · exact .inr (.inr rfl)
    unfold PG
    cases lrn S v s b n
    · simp
    · rcases this with e | e | e <;> rw [e] <;> simp <;> omega
/-- a group's word -/
def wd3 (S : Nat → Nat → Int32) (v s a z x y g : Nat) : Bool := mst (tru S v s) (PG S v s a z x y g)
def jd3 (S : Nat → Nat → Int32) (v s a z x y g : Nat) : Nat := ron (tru S v s) (PG S v s (15 - a) z x y g) (wd3 S v s a z x y g)
theorem CU.le {v s b z x y : Nat} {w : AW} (C : CU S v s b z x y w 1461) {g : Nat} (hg : g < 3) : wi w 298 g = nI (cnt (PG S v s b z x y g) 1461) ∧ wi w 299 g = nI (cnt (PT S v s b z x y g) 1461) ∧ cnt (PG S v s b z x y g) 1461 ≤ 1461 ∧ cnt (PT S v s b z x y g) 1461 ≤ cnt (PG S v s b z x y g) 1461 := ⟨(C g hg).1, (C g hg).2, cnt_le _ _, cnt_and_le _ _ _⟩
theorem M_flag {α : Type} {v s a z x y g : Nat} {w : AW} (C : CU S v s a z x y w 1461) (hg : g < 3) (F : Nat → α) : (if nI 2 * wi w 299 g ≤ wi w 298 g then F 0 else F 1) = F (wd3 S v s a z x y g).toNat := by
  have c := C.le hg
  rw [c.1, c.2.1, pk_mul]
  have e : wd3 S v s a z x y g = decide (cnt (PG S v s a z x y g) 1461 < 2 * cnt (PT S v s a z x y g) 1461) := rfl
  by_cases h : 2 * cnt (PT S v s a z x y g) 1461 ≤ cnt (PG S v s a z x y g) 1461
  · rw [if_pos (show nI (2 * cnt (PT S v s a z x y g) 1461) ≤ nI (cnt (PG S v s a z x y g) 1461) by rw [q_le (by omega) (by omega)]; exact h), e, decide_eq_false (by omega)]; rfl
  · rw [if_neg (show ¬ nI (2 * cnt (PT S v s a z x y g) 1461) ≤ nI (cnt (PG S v s a z x y g) 1461) by rw [q_le (by omega) (by omega)]; exact h), e, decide_eq_true (by omega)]; rfl
theorem M_ron {α : Type} {v s a z x y g : Nat} {w : AW} (C : CU S v s (15 - a) z x y w 1461) (hg : g < 3) (F : Int32 → α) : (if nI (wd3 S v s a z x y g).toNat = nI 1 then F (wi w 299 g) else F (wi w 298 g - wi w 299 g)) = F (nI (jd3 S v s a z x y g)) := by
  have c := C.le hg
  rw [c.1, c.2.1, pk_sub c.2.2.2]
  unfold jd3 ron
  cases wd3 S v s a z x y g
  · rw [if_neg (show ¬ nI false.toNat = nI 1 by decide +kernel), if_neg (by simp)]; rfl
  · rw [if_pos (show nI true.toNat = nI 1 from rfl), if_pos rfl]; rfl
theorem same_cu {S S' : Nat → Nat → Int32} (h0 : S' 0 0 = S 0 0) (h29 : S' 0 29 = S 0 29) (hr : ∀ r, 1 ≤ r → r ≤ 16 → S' r = S r) {v s : Nat} {w : AW} : (NT S v s w → NT S' v s w) ∧ (∀ b z x y n, CU S' v s b z x y w n → CU S v s b z x y w n) := by
  have e1 := same_tel h0 hr
  have e2 := same_tru (S := S) (S' := S') hr
  have e3 := same_lrn h0 hr
  have e4 : sI S' = sI S := by funext k v n; unfold sI; rw [(same_sk hr).1, (same_sk hr).2]
  have e5 : nS S' = nS S := by unfold nS; rw [h29]
  have e6 : ∀ v n k, cm S' v n k = cm S v n k := by
    intro v n k
    induction k with
    | zero => rfl
    | succ k ih => rw [cm_s, cm_s, ih, e1]
  have e7 : PG S' = PG S := by
    funext v s b z x y g n
    unfold PG gi; rw [e1, e3]
  have e8 : PT S' = PT S := by funext v s b z x y g n; unfold PT; rw [e7, e2]
  refine ⟨fun N => ⟨fun i hi => by rw [e4]; exact N.1 i hi, fun i hi => by rw [e6, e5]; exact N.2 i hi⟩, fun b z x y n C g hg => ?_⟩
  have := C g hg
  rw [e7, e8] at this
  exact this
end
