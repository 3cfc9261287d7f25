/-! PURE: the reference counts by a list -/
section
variable {L : Nat} {xs : Nat → Int32} {S : Nat → Nat → Int32}
/-- a list of z sayings, as the reference holds it -/
def o1 (z x : Nat) : Int32 := if 1 ≤ z then nI x else mI 1
def o2 (z y : Nat) : Int32 := if 2 ≤ z then nI y else mI 1
/-- the entry that tells on a day -/
def gi (S : Nat → Nat → Int32) (v z x y n : Nat) : Nat := if 1 ≤ z ∧ tel S v x n = true then 0 else if 2 ≤ z ∧ tel S v y n = true then 1 else 2
def PG (S : Nat → Nat → Int32) (v s b z x y g n : Nat) : Bool := lrn S v s b n && decide (gi S v z x y n = g)
def PT (S : Nat → Nat → Int32) (v s b z x y g n : Nat) : Bool := PG S v s b z x y g n && tru S v s n
/-- the reference's notes -/
def NT (S : Nat → Nat → Int32) (v s : Nat) (u : AW) : Prop := (∀ i, i < 1461 → wi u 295 i = sI S s v i) ∧ (∀ i, i < 1461 → wi u 294 i = nI (cm S v i (nS S)))
def CU (S : Nat → Nat → Int32) (v s b z x y : Nat) (u : AW) (n : Nat) : Prop := ∀ g, g < 3 → wi u 298 g = nI (cnt (PG S v s b z x y g) n) ∧ wi u 299 g = nI (cnt (PT S v s b z x y g) n)
/-- only the counts may differ -/
def CF2 (w u : AW) : Prop := AF w u ∧ ∀ a i, a ≠ 298 → a ≠ 299 → wi u a i = wi w a i
theorem CF2.refl (w : AW) : CF2 w w := ⟨AF.refl w, fun _ _ _ _ => rfl⟩
theorem CF2.trans {u v w : AW} (h : CF2 u v) (g : CF2 v w) : CF2 u w := ⟨h.1.trans g.1, fun a i h1 h2 => (g.2 a i h1 h2).trans (h.2 a i h1 h2)⟩
theorem CF2.up (w : AW) {a : Nat} (i : Nat) (x : Int32) (ha : a = 298 ∨ a = 299) : CF2 w (upI w a i x) := ⟨AF.upI w i x (by omega), fun b j h1 h2 => by rw [wi_upI, if_neg (by omega)]⟩
theorem CF2.ra {w u : AW} (h : CF2 w u) (R : RA S w) : RA S u := by
  unfold RA at *
  rw [← R]
  unfold RS
  funext r i
  rw [h.2 271 i (by omega) (by omega)]
  by_cases hr : KRow r = true
  · by_cases h0 : r = 0
    · rw [if_pos h0, if_pos h0]
    · rw [if_neg h0, if_neg h0, if_pos hr, if_pos hr, h.2 (271 + r) i (by intro e; rw [show r = 27 by omega] at hr; revert hr; decide) (by intro e; rw [show r = 28 by omega] at hr; revert hr; decide)]
  · rw [if_neg hr, if_neg hr]
theorem CF2.nt {w u : AW} {v s : Nat} (h : CF2 w u) (N : NT S v s w) : NT S v s u := ⟨fun i hi => by rw [h.2 _ _ (by omega) (by omega)]; exact N.1 i hi, fun i hi => by rw [h.2 _ _ (by omega) (by omega)]; exact N.2 i hi⟩
theorem M_cb130 {v s b z x y n g : Nat} {u : AW} (T : Top L xs u) (N : NT S v s u) (hn : n < 1461) (hg : g < 3) (hgi : gi S v z x y n = g) (hl : lrn S v s b n = true) (C : CU S v s b z x y u n) (rec34 : Nat → Int32 → Int32 → Int32 → Int32 → AW → Option AW) (rec59 : Nat → Int32 → Int32 → Int32 → Int32 → Int32 → AW → Option AW) (X1 X2 X3 X4 : Int32) : ∃ u', F_M_countBy_130 rec34 rec59 271 X1 X2 X3 X4 (nI n) (nI g) u = rec59 271 X1 X2 X3 X4 (nI (n + 1)) u' ∧ CF2 u u' ∧ CU S v s b z x y u' (n + 1) := by
  have hc := C g hg
  have hsk : sk S s v n = true := by unfold lrn at hl; simp only [Bool.and_eq_true] at hl; exact hl.1
  have e1 := cnt_le (PG S v s b z x y g) n
  have e2 := cnt_le (PT S v s b z x y g) n
  have hPG : ∀ q, PG S v s b z x y q n = decide (g = q) := fun q => by unfold PG; rw [hl, hgi]; simp
  have hPT : ∀ q, PT S v s b z x y q n = (decide (g = q) && tru S v s n) := fun q => by unfold PT; rw [hPG]
  have htr : wi u 295 n = nI (if tru S v s n = true then 1 else 0) := by
    rw [N.1 n hn]; unfold sI tru; rw [if_pos hsk, hsk]
    cases sw S s v n <;> rfl
  refine ⟨upI (upI u 298 g (nI (cnt (PG S v s b z x y g) n + 1))) 299 g (nI (cnt (PT S v s b z x y g) n + (if tru S v s n = true then 1 else 0))), ?_, (CF2.up u _ _ (.inl rfl)).trans (CF2.up _ _ _ (.inr rfl)), fun q hq => ?_⟩
  · unfold F_M_countBy_130
    simp (disch := omega) only [qL, ↓qM, mLrn T, wk_upI, wn_upI, wr_upI, wi_upI, q_inb, q_nat, hc.1, hc.2, htr, nI_add, gd_true, beq_self_eq_true, bd_s, if_true, if_false, ↓reduceIte, ite_true, ite_false, Bool.and_self, Bool.and_true, Bool.true_and, Nat.reduceBEq, Bool.or_true, Bool.true_or, Bool.or_self]
    rw [if_neg (show ¬ (299 = 298 ∧ True) from fun h => absurd h.1 (by decide)), if_neg (show ¬ (295 = 298 ∧ n = g) by omega), nI_add]
  · rw [cnt_s, cnt_s, hPG, hPT]
    by_cases e : q = g
    · subst e
      refine ⟨?_, ?_⟩
      · rw [wi_upI, if_neg (by omega), wi_upI, if_pos ⟨rfl, rfl⟩]; simp
      · rw [wi_upI, if_pos ⟨rfl, rfl⟩]; simp
    · have hne : ¬ g = q := fun h => e h.symm
      refine ⟨?_, ?_⟩
      · rw [wi_upI, if_neg (by omega), wi_upI, if_neg (fun h => e h.2), (C q hq).1]; simp [hne]
      · rw [wi_upI, if_neg (fun h => e h.2), wi_upI, if_neg (by omega), (C q hq).2]; simp [hne]
theorem M_cbday {v s b z x y n : Nat} {u : AW} (T : Top L xs u) (Is : IMsy S) (N : NT S v s u) (hn : n < 1461) (hz : z ≤ 2) (hx : 1 ≤ z → x < nS S) (hy : 2 ≤ z → y < nS S) (hb : b.testBit (yr (sF S) n) = true) (C : CU S v s b z x y u n) (rec34 : Nat → Int32 → Int32 → Int32 → Int32 → AW → Option AW) (rec59 : Nat → Int32 → Int32 → Int32 → Int32 → Int32 → AW → Option AW) (X1 : Int32) {Y : Nat} (X4 : Int32) (hYe : F_M_yearEnd u 271 X4 = some (nI Y)) (hY : Y ≤ 1461) (hnY : n < Y) : ∃ u', F_M_countBy_59_B rec34 rec59 271 X1 (o1 z x) (o2 z y) X4 (nI n) u = rec59 271 X1 (o1 z x) (o2 z y) X4 (nI (n + 1)) u' ∧ CF2 u u' ∧ CU S v s b z x y u' (n + 1) := by
  have h8 := Is.2.1
  have hcl := cm_lt S v n (nS S)
  have hc256 : cm S v n (nS S) < 256 := Nat.lt_of_lt_of_le hcl (Nat.le_trans (Nat.pow_le_pow_right (by omega) h8) (by decide))
  have bit : ∀ k, k < nS S → ((nI (cm S v n (nS S)) >>> (nI k &&& nI 31)) &&& nI 1 = nI 1) = (tel S v k n = true) := fun k hk => by
    rw [q_and31 (by omega), q_tb (by omega) (by omega), q_b1, cm_tb S v n (nS S) k hk]
  unfold F_M_countBy_59_B
  simp (disch := omega) only [qL, ↓qM, mK T, hYe, q_le, mLrn T, q_inb, q_nat, N.1 n hn, N.2 n hn, nI_add, gd_true, beq_self_eq_true, bd_s, if_true, if_false, ↓reduceIte, ite_true, ite_false, Bool.and_self, Bool.and_true, Bool.true_and, Nat.reduceBEq, Bool.or_true, Bool.true_or, Bool.or_self]
  rw [if_neg (by omega)]
  by_cases hsk : sk S s v n = true
  · have hl : lrn S v s b n = true := by unfold lrn; rw [hsk, hb]; rfl
    have hm : ¬ sI S s v n = mI 1 := by
      unfold sI; rw [if_pos hsk]; cases sw S s v n <;> decide +kernel
    rw [if_neg hm]
    have h105 : ¬ (1 ≤ z ∧ tel S v x n = true) → ∃ u', F_M_countBy_105 rec34 rec59 271 X1 (o1 z x) (o2 z y) X4 (nI n) u = rec59 271 X1 (o1 z x) (o2 z y) X4 (nI (n + 1)) u' ∧ CF2 u u' ∧ CU S v s b z x y u' (n + 1) := by
      intro hno
      unfold F_M_countBy_105
      by_cases h2 : 2 ≤ z
      · have e2 : o2 z y = nI y := by unfold o2; rw [if_pos h2]
        have hyS := hy h2
        rw [e2]
        simp (disch := omega) only [qL, ↓qM, q_nm, mK T, mLrn T, q_inb, q_nat, N.2 n hn, bit y hyS, gd_true, beq_self_eq_true, bd_s, if_true, if_false, ↓reduceIte, ite_true, ite_false, Bool.and_self, Bool.and_true, Bool.true_and, Nat.reduceBEq, Bool.or_true, Bool.true_or, Bool.or_self]
        by_cases ht : tel S v y n = true
        · rw [if_pos ht]
          exact M_cb130 T N hn (by omega) (by unfold gi; rw [if_neg hno, if_pos ⟨h2, ht⟩]) hl C rec34 rec59 _ _ _ _
        · rw [if_neg ht]
          exact M_cb130 T N hn (by omega) (by unfold gi; rw [if_neg hno, if_neg (fun h => ht h.2)]) hl C rec34 rec59 _ _ _ _
      · have e2 : o2 z y = mI 1 := by unfold o2; rw [if_neg h2]
        rw [e2]
        simp only [qL, ↓qM]
        rw [if_pos trivial]
        exact M_cb130 T N hn (by omega) (by unfold gi; rw [if_neg hno, if_neg (fun h => h2 h.1)]) hl C rec34 rec59 _ _ _ _
    by_cases h1 : 1 ≤ z
    · have e1 : o1 z x = nI x := by unfold o1; rw [if_pos h1]
      have hxS := hx h1
      have hneg : ¬ o1 z x = mI 1 := by rw [e1, q_nm (by omega) (by omega) (by omega)]; exact fun h => h
      rw [if_neg hneg]
      by_cases ht : tel S v x n = true
      · rw [if_pos (show (nI (cm S v n (nS S)) >>> (o1 z x &&& nI 31)) &&& nI 1 = nI 1 by rw [e1, bit x hxS]; exact ht)]
        exact M_cb130 T N hn (by omega) (by unfold gi; rw [if_pos ⟨h1, ht⟩]) hl C rec34 rec59 _ _ _ _
      · rw [if_neg (show ¬ (nI (cm S v n (nS S)) >>> (o1 z x &&& nI 31)) &&& nI 1 = nI 1 by rw [e1, bit x hxS]; exact ht)]
        exact h105 (fun h => ht h.2)
    · have e1 : o1 z x = mI 1 := by unfold o1; rw [if_neg h1]
      rw [if_pos e1]
      exact h105 (fun h => h1 h.1)
  · have hl : lrn S v s b n = false := by unfold lrn; simp at hsk; rw [hsk]; rfl
    have hm : sI S s v n = mI 1 := by unfold sI; rw [if_neg hsk]
    rw [if_pos hm]
    refine ⟨u, rfl, CF2.refl u, fun q hq => ?_⟩
    rw [cnt_s, cnt_s]
    have e1 : PG S v s b z x y q n = false := by unfold PG; rw [hl]; rfl
    have e2 : PT S v s b z x y q n = false := by unfold PT; rw [e1]; rfl
    rw [e1, e2]
    simp only [Bool.false_eq_true, if_false, Nat.add_zero]
    exact C q hq
end
