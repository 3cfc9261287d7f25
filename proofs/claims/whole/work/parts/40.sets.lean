/-! PURE: sets of days found in diaries and in the calendar -/
def cmpI (o : Nat) (a b : Int) : Bool := if o = 0 then decide (a < b) else if o = 1 then decide (a = b) else decide (b < a)
theorem jcmp {o : Nat} (a b : Int32) (ho : o < 3) : (F_Jint_compare a b = nI o - nI 1) = (cmpI o a.toInt b.toInt = true) := by
  unfold F_Jint_compare
  have h : o = 0 ∨ o = 1 ∨ o = 2 := by omega
  have e0 : nI 0 - nI 1 = (-1 : Int32) := by decide
  have e1 : nI 1 - nI 1 = (0 : Int32) := by decide
  have e2 : nI 2 - nI 1 = (1 : Int32) := by decide
  have hinj : a = b ↔ a.toInt = b.toInt := Int32.toInt_inj.symm
  apply propext
  simp only [Int32.le_iff_toInt_le, hinj]
  by_cases h1 : b.toInt ≤ a.toInt
  · rw [if_pos h1]
    by_cases h2 : a.toInt = b.toInt
    · rw [if_pos h2]
      rcases h with h | h | h <;> subst h
      · rw [e0]; simp [cmpI]; omega
      · rw [e1]; simp [cmpI]; omega
      · rw [e2]; simp [cmpI]; omega
    · rw [if_neg h2]
      rcases h with h | h | h <;> subst h
      · rw [e0]; simp [cmpI]; omega
      · rw [e1]; simp [cmpI]; omega
      · rw [e2]; simp [cmpI]; omega
  · rw [if_neg h1]
    rcases h with h | h | h <;> subst h
    · rw [e0]; simp [cmpI]; omega
    · rw [e1]; simp [cmpI]; omega
    · rw [e2]; simp [cmpI]; omega
/-- a gap -/
def gp (S : Nat → Nat → Int32) (v n f : Nat) : Bool := decide (S 5 (fx v n f) = mI 1000)
/-- what a comparison finds on a day -/
def cmS (S : Nat → Nat → Int32) (v n f o : Nat) (z : Int) : Bool := cmpI o (S 5 (fx v n f)).toInt z
theorem A_findCompared {L : Nat} {xs : Nat → Int32} {w : AW} (T : Top L xs w) {S : Nat → Nat → Int32} (D : DiaA S w) (I : IMd S) {v f o a : Nat} {num : Int32} (hv : v < 3) (hf : f < 4) (ho : o < 3) (hn1 : -999 ≤ num.toInt) (hn2 : num.toInt ≤ 999) (ta : TD w a) : F_Di_findCompared (179 + 2 * v) (nI f) (nI o - nI 1) num a w = some (setD w a (fun n => !gp S v n f && cmS S v n f o num.toInt)) := by
  have r := frng f hf
  have rv := vrng f hf
  have hl := th3 T f hf
  have hp : ((num - wi w 3 f) + nI 1).toInt = num.toInt - lo f + 1 := by
    have e1 : (num - wi w 3 f).toInt = num.toInt - lo f := by
      rw [Int32.toInt_sub, hl]
      exact Int.bmod_eq_of_le (by omega) (by omega)
    rw [Int32.toInt_add, e1, nI_toInt (by omega)]
    exact Int.bmod_eq_of_le (by omega) (by omega)
  generalize hpl : ((num - wi w 3 f) + nI 1) = plc at hp
  have loop : ∀ k fu n, n + k = 1461 → k < fu → F_Di_findCompared_43 fu (179 + 2 * v) (nI o - nI 1) a (nI (shf f)) (nI (msk f)) plc (nI n) (setD w a (fun m => decide (m < n) && (!gp S v m f && cmS S v m f o num.toInt))) = some (setD w a (fun n => !gp S v n f && cmS S v n f o num.toInt)) := by
    intro k
    induction k with
    | zero =>
      intro fu n hk hfu
      obtain ⟨fu, rfl⟩ : ∃ m, fu = m + 1 := ⟨fu - 1, by omega⟩
      show F_Di_findCompared_43_B (F_Di_findCompared_43 fu) _ _ _ _ _ _ _ _ = _
      unfold F_Di_findCompared_43_B
      simp (disch := omega) only [qL, ↓qM, q_le]
      rw [if_pos (by omega)]
      exact congrArg some (setD_congr _ _ (fun m hm => by rw [decide_eq_true (by omega : m < n)]; rfl))
    | succ k ih =>
      intro fu n hk hfu
      obtain ⟨fu, rfl⟩ : ∃ m, fu = m + 1 := ⟨fu - 1, by omega⟩
      have hn : n < 1461 := by omega
      have hvf := I v hv n hn f hf
      have e := D v hv n hn f hf
      have r3 := pl_le hf hvf
      unfold gf at e
      show F_Di_findCompared_43_B (F_Di_findCompared_43 fu) _ _ _ _ _ _ _ _ = _
      unfold F_Di_findCompared_43_B
      simp (disch := omega) only [qL, ↓qM, q_le, wk_setD, wr_setD, wn_setD, wi_setD, tV T hv, q_inb, q_nat, q_and31, e, q_eq, nI_add, ta.1, jcmp _ _ ho, gd_true, beq_self_eq_true, bd_s, if_true, if_false, ↓reduceIte, ite_true, ite_false, Bool.and_self, Bool.and_true, Bool.true_and, Nat.reduceBEq, Bool.or_true, Bool.true_or, Bool.or_self]
      rw [if_neg (by omega), D_add (TD_setD _ _ ta) (WF_setD _ _ (.inl rfl)) hn, setD_setD, nI_toInt (by omega), hp]
      simp only [bd_s]
      have key : ∀ b : Bool, (!gp S v n f && cmS S v n f o num.toInt) = b → (if b = true then F_Di_findCompared_43 fu (179 + 2 * v) (nI o - nI 1) a (nI (shf f)) (nI (msk f)) plc (nI (n + 1)) (setD w a (fun m => gD (setD w a (fun m => decide (m < n) && (!gp S v m f && cmS S v m f o num.toInt))) a m || decide (m = n))) else F_Di_findCompared_43 fu (179 + 2 * v) (nI o - nI 1) a (nI (shf f)) (nI (msk f)) plc (nI (n + 1)) (setD w a (fun m => decide (m < n) && (!gp S v m f && cmS S v m f o num.toInt)))) = some (setD w a (fun n => !gp S v n f && cmS S v n f o num.toInt)) := by
        intro b hb
        cases b
        · rw [if_neg (by simp), ← ih fu (n + 1) (by omega) (by omega)]
          refine congrArg (F_Di_findCompared_43 fu _ _ _ _ _ _ _) (setD_congr _ _ (fun m hm => ?_))
          by_cases hmn : m = n
          · subst hmn; rw [hb]; simp
          · rw [show (decide (m < n) : Bool) = decide (m < n + 1) from decide_eq_decide.mpr (by omega)]
        · rw [if_pos rfl, ← ih fu (n + 1) (by omega) (by omega)]
          refine congrArg (F_Di_findCompared_43 fu _ _ _ _ _ _ _) (setD_congr _ _ (fun m hm => ?_))
          rw [gD_eq _ _ _ hm]
          by_cases hmn : m = n
          · subst hmn; rw [hb]; simp
          · rw [show (decide (m < n) : Bool) = decide (m < n + 1) from decide_eq_decide.mpr (by omega), decide_eq_false hmn, Bool.or_false]
      by_cases h0 : S 5 (fx v n f) = mI 1000
      · rw [if_pos ((pl_0 hf hvf).mpr h0)]
        have kk := key false (by unfold gp; rw [decide_eq_true h0]; rfl)
        rw [if_neg (by simp)] at kk
        exact kk
      · rw [if_neg (fun e => h0 ((pl_0 hf hvf).mp e))]
        have ep : ((pl f (S 5 (fx v n f)) : Nat) : Int) = (S 5 (fx v n f)).toInt - lo f + 1 := by
          rcases hvf with h | h
          · exact absurd h h0
          · unfold pl; rw [if_neg h0]; omega
        have ec : cmpI o ((pl f (S 5 (fx v n f)) : Nat) : Int) (num.toInt - lo f + 1) = cmS S v n f o num.toInt := by
          rw [ep]
          unfold cmS cmpI
          split
          · exact decide_eq_decide.mpr (by omega)
          · split
            · exact decide_eq_decide.mpr (by omega)
            · exact decide_eq_decide.mpr (by omega)
        rw [ec]
        have kk := key (cmS S v n f o num.toInt) (by unfold gp; rw [decide_eq_false h0]; simp)
        exact kk
  unfold F_Di_findCompared
  rw [D_clear ta]
  simp (disch := omega) only [qL, ↓qM, q_lt, wk_setD, wn_setD, wi_setD, ta.1, s5 T, s6 T, s3 T, q_inb, q_nat, th5 T, th6 T, hpl, gd_true, beq_self_eq_true, bd_s, if_true, if_false, ↓reduceIte, ite_true, ite_false, Bool.and_self, Bool.and_true, Bool.true_and, Nat.reduceBEq, Bool.or_true, Bool.true_or, Bool.or_self]
  rw [if_neg (by omega), if_pos (by omega)]
  refine Eq.trans ?_ (loop 1461 FUEL 0 (by omega) (by decide))
  exact congrArg (F_Di_findCompared_43 FUEL _ _ _ _ _ _ _) (setD_congr _ _ (fun m hm => by rw [decide_eq_false (by omega : ¬ m < 0)]; rfl))
theorem q_tb {k f : Nat} (hk : k < 2147483648) (hf : f < 32) : (nI k >>> nI f) &&& nI 1 = nI (k.testBit f).toNat := by
  rw [q_shr hk hf, q_and, Nat.and_one_is_mod, Nat.toNat_testBit]
/-- whether some of the fields below f, of a mask, is a gap -/
def opn (S : Nat → Nat → Int32) (v k n : Nat) : Nat → Bool
  | 0 => false
  | f + 1 => opn S v k n f || (k.testBit f && gp S v n f)
theorem A_findKnown {L : Nat} {xs : Nat → Int32} {w : AW} (T : Top L xs w) {S : Nat → Nat → Int32} (D : DiaA S w) (I : IMd S) {v m a : Nat} (hv : v < 3) (hm : m < 16) (ta : TD w a) : F_Di_findKnown (179 + 2 * v) (nI m) a w = some (setD w a (fun n => !opn S v m n 4)) := by
  have inner : ∀ (rec6 : Nat → Int32 → Nat → Int32 → AW → Option AW) (f : Nat), f < 4 → ∀ (P : Nat → Bool) k fu n, n + k = 1461 → k < fu → F_Di_findKnown_38 rec6 fu (179 + 2 * v) (nI m) a (nI f) (nI (msk f) <<< nI (shf f)) (nI n) (setD w a (fun j => P j && !(decide (j < n) && gp S v j f))) = rec6 (179 + 2 * v) (nI m) a (nI (f + 1)) (setD w a (fun j => P j && !gp S v j f)) := by
    intro rec6 f hf P k
    induction k with
    | zero =>
      intro fu n hk hfu
      obtain ⟨fu, rfl⟩ : ∃ m, fu = m + 1 := ⟨fu - 1, by omega⟩
      show F_Di_findKnown_38_B rec6 (F_Di_findKnown_38 rec6 fu) _ _ _ _ _ _ _ = _
      unfold F_Di_findKnown_38_B
      simp (disch := omega) only [qL, ↓qM, q_le, nI_add]
      rw [if_pos (by omega)]
      exact congrArg (rec6 _ _ _ _) (setD_congr _ _ (fun j hj => by rw [decide_eq_true (by omega : j < n)]; rfl))
    | succ k ih =>
      intro fu n hk hfu
      obtain ⟨fu, rfl⟩ : ∃ m, fu = m + 1 := ⟨fu - 1, by omega⟩
      have hn : n < 1461 := by omega
      have hvf := I v hv n hn f hf
      have e := D v hv n hn f hf
      have r3 := pl_le hf hvf
      have r := frng f hf
      show F_Di_findKnown_38_B rec6 (F_Di_findKnown_38 rec6 fu) _ _ _ _ _ _ _ = _
      unfold F_Di_findKnown_38_B
      simp (disch := omega) only [qL, ↓qM, q_le, wk_setD, wr_setD, wn_setD, wi_setD, tV T hv, q_inb, q_nat, gf_zero _ hf, e, q_eq, nI_add, ta.1, gd_true, beq_self_eq_true, bd_s, if_true, if_false, ↓reduceIte, ite_true, ite_false, Bool.and_self, Bool.and_true, Bool.true_and, Nat.reduceBEq, Bool.or_true, Bool.true_or, Bool.or_self]
      rw [if_neg (by omega), D_remove (TD_setD _ _ ta) (WF_setD _ _ (.inl rfl)) hn, setD_setD]
      simp only [bd_s]
      by_cases h0 : S 5 (fx v n f) = mI 1000
      · rw [if_pos ((pl_0 hf hvf).mpr h0), ← ih fu (n + 1) (by omega) (by omega)]
        refine congrArg (F_Di_findKnown_38 rec6 fu _ _ _ _ _ _) (setD_congr _ _ (fun j hj => ?_))
        rw [gD_eq _ _ _ hj]
        by_cases hjn : j = n
        · subst hjn
          have : gp S v j f = true := by unfold gp; rw [decide_eq_true h0]
          rw [this]; simp
        · rw [show (decide (j < n) : Bool) = decide (j < n + 1) from decide_eq_decide.mpr (by omega), decide_eq_false hjn]; simp
      · rw [if_neg (fun e => h0 ((pl_0 hf hvf).mp e)), ← ih fu (n + 1) (by omega) (by omega)]
        refine congrArg (F_Di_findKnown_38 rec6 fu _ _ _ _ _ _) (setD_congr _ _ (fun j hj => ?_))
        by_cases hjn : j = n
        · subst hjn
          have : gp S v j f = false := by unfold gp; rw [decide_eq_false h0]
          rw [this]; simp
        · rw [show (decide (j < n) : Bool) = decide (j < n + 1) from decide_eq_decide.mpr (by omega)]
  have outer : ∀ k fu f, f + k = 4 → k < fu → F_Di_findKnown_6 fu (179 + 2 * v) (nI m) a (nI f) (setD w a (fun n => !opn S v m n f)) = some (setD w a (fun n => !opn S v m n 4)) := by
    intro k
    induction k with
    | zero =>
      intro fu f hk hfu
      obtain ⟨fu, rfl⟩ : ∃ m, fu = m + 1 := ⟨fu - 1, by omega⟩
      show F_Di_findKnown_6_B (F_Di_findKnown_6 fu) _ _ _ _ _ = _
      unfold F_Di_findKnown_6_B
      simp (disch := omega) only [qL, ↓qM, q_le]
      rw [if_pos (by omega), show f = 4 by omega]
    | succ k ih =>
      intro fu f hk hfu
      obtain ⟨fu, rfl⟩ : ∃ m, fu = m + 1 := ⟨fu - 1, by omega⟩
      have r := frng f (by omega)
      show F_Di_findKnown_6_B (F_Di_findKnown_6 fu) _ _ _ _ _ = _
      unfold F_Di_findKnown_6_B
      simp (disch := omega) only [qL, ↓qM, q_le, q_and31, q_tb, q_b0, wk_setD, wr_setD, wn_setD, wi_setD, s5 T, s6 T, q_inb, q_nat, th5 T, th6 T, nI_add, gd_true, beq_self_eq_true, bd_s, if_true, if_false, ↓reduceIte, ite_true, ite_false, Bool.and_self, Bool.and_true, Bool.true_and, Nat.reduceBEq, Bool.or_true, Bool.true_or, Bool.or_self]
      rw [if_neg (by omega)]
      by_cases hb : m.testBit f = true
      · rw [if_neg (by rw [hb]; simp), ← ih fu (f + 1) (by omega) (by omega)]
        have q := inner (F_Di_findKnown_6 fu) f (by omega) (fun n => !opn S v m n f) 1461 FUEL 0 (by omega) (by decide)
        refine Eq.trans ?_ (Eq.trans q ?_)
        · exact congrArg (F_Di_findKnown_38 _ FUEL _ _ _ _ _ _) (setD_congr _ _ (fun j hj => by simp))
        · exact congrArg (F_Di_findKnown_6 fu _ _ _ _) (setD_congr _ _ (fun j hj => by
            show (!opn S v m j f && !gp S v j f) = !(opn S v m j f || (m.testBit f && gp S v j f))
            rw [hb]; simp))
      · have hb2 : m.testBit f = false := by simpa using hb
        rw [if_pos hb2, ← ih fu (f + 1) (by omega) (by omega)]
        exact congrArg (F_Di_findKnown_6 fu _ _ _ _) (setD_congr _ _ (fun j hj => by
          show (!opn S v m j f) = !(opn S v m j f || (m.testBit f && gp S v j f))
          rw [hb2]; simp))
  unfold F_Di_findKnown
  rw [gd_t (by rw [ta.1]; rfl), D_fill ta, Option.bind_some, l_0]
  exact outer 4 FUEL 0 (by omega) (by decide)
