/-! PURE: digest -/
/-- some steps, from the i-th on -/
def foN (g : Int64 → Nat → Int64) : Nat → Nat → Int64 → Int64
  | _, 0, h => h
  | i, k + 1, h => foN g (i + 1) k (g h i)
theorem foN_add (g : Int64 → Nat → Int64) : ∀ a i b h, foN g i (a + b) h = foN g (i + a) b (foN g i a h)
  | 0, i, b, h => by rw [Nat.zero_add]; rfl
  | a + 1, i, b, h => by
    rw [show a + 1 + b = (a + b) + 1 by omega]
    show foN g (i + 1) (a + b) (g h i) = foN g (i + (a + 1)) b (foN g (i + 1) a (g h i))
    rw [foN_add g a, show i + 1 + a = i + (a + 1) by omega]
theorem foN_congr {g k : Int64 → Nat → Int64} {N : Nat} (hg : ∀ h i, i < N → g h i = k h i) : ∀ n i h, i + n ≤ N → foN g i n h = foN k i n h
  | 0, _, _, _ => rfl
  | n + 1, i, h, hi => by
    show foN g (i + 1) n (g h i) = foN k (i + 1) n (k h i)
    rw [hg h i (by omega), foN_congr hg n _ _ (by omega)]
/-- a loop that mixes -/
theorem loopW {α : Type} (F : Nat → Int64 → Int32 → Option α) (g : Int64 → Nat → Int64) (fin : Int64 → Option α) (N : Nat) (step : ∀ fu h i, i < N → F (fu + 1) h (nI i) = F fu (g h i) (nI (i + 1))) (stop : ∀ fu h, F (fu + 1) h (nI N) = fin h) : ∀ k fu i h, i + k = N → k < fu → F fu h (nI i) = fin (foN g i k h)
  | 0, fu, i, h, hi, hf => by
    obtain ⟨fu, rfl⟩ : ∃ m, fu = m + 1 := ⟨fu - 1, by omega⟩
    obtain rfl : i = N := by omega
    exact stop fu h
  | k + 1, fu, i, h, hi, hf => by
    obtain ⟨fu, rfl⟩ : ∃ m, fu = m + 1 := ⟨fu - 1, by omega⟩
    rw [step fu h i (by omega), loopW F g fin N step stop k fu (i + 1) (g h i) (by omega) (by omega)]
    rfl
def g1 (S : Nat → Nat → Int32) (h : Int64) (s : Nat) : Int64 := F_A_mixed (F_A_mixed (F_A_mixed (F_A_mixed h (S 1 s)) (S 2 s)) (S 3 s)) (S 4 s)
def g2i (S : Nat → Nat → Int32) (v n : Nat) (h : Int64) (f : Nat) : Int64 := if S 5 (fx v n f) = mI 1000 then h else F_A_mixed h (nI (2048 * n + 256 * f) + S 5 (fx v n f))
def g2n (S : Nat → Nat → Int32) (v : Nat) (h : Int64) (n : Nat) : Int64 := foN (g2i S v n) 0 4 h
def g2 (S : Nat → Nat → Int32) (h : Int64) (v : Nat) : Int64 := foN (g2n S v) 0 1461 h
def g3 (S : Nat → Nat → Int32) (h : Int64) (i : Nat) : Int64 := F_A_mixed h (S 8 i)
def g4i (S : Nat → Nat → Int32) (k : Nat) (h : Int64) (m : Nat) : Int64 := F_A_mixed h (S 13 (12 * k + m))
def g4 (S : Nat → Nat → Int32) (h : Int64) (k : Nat) : Int64 := foN (g4i S k) 0 12 h
def g4f (S : Nat → Nat → Int32) (h : Int64) (j : Nat) : Int64 := F_A_mixed h (S 13 j)
def g5i (S : Nat → Nat → Int32) (a : Nat) (h : Int64) (n : Nat) : Int64 := if S 7 (1461 * a + n) = mI 1 then h else F_A_mixed h (nI (2 * n) + S 7 (1461 * a + n))
def g5 (S : Nat → Nat → Int32) (h : Int64) (a : Nat) : Int64 := foN (g5i S a) 0 1461 (F_A_mixed h (S 6 a))
def dgS (S : Nat → Nat → Int32) : Int64 := F_A_mixed (foN (g5 S) 0 6 (foN (g4 S) 0 (nS S) (foN (g3 S) 0 (nP S) (foN (g2 S) 0 3 (foN (g1 S) 0 8 (F_A_mixed 199 (S 0 0))))))) (S 0 40)
theorem mx_def (h : Int64) (x : Int32) : (31 : Int64) * h + Int32.toInt64 x = F_A_mixed h x := rfl
theorem g4_flat (S : Nat → Nat → Int32) : ∀ k i h, foN (g4f S) (12 * i) (12 * k) h = foN (g4 S) i k h
  | 0, _, _ => rfl
  | k + 1, i, h => by
    rw [show 12 * (k + 1) = 12 + 12 * k by omega, foN_add, show 12 * i + 12 = 12 * (i + 1) by omega, g4_flat S k]
    show _ = foN (g4 S) (i + 1) k (g4 S h i)
    refine congrArg (foN (g4 S) (i + 1) k) ?_
    have e : ∀ n j h, foN (g4f S) (12 * i + j) n h = foN (g4i S i) j n h := by
      intro n
      induction n with
      | zero => intro j h; rfl
      | succ n ih => intro j h; exact ih (j + 1) _
    exact e 12 0 h
section
variable {L : Nat} {xs : Nat → Int32} {S : Nat → Nat → Int32} {w : AW}
theorem A_Di_mix (I : Inv L xs S w) {v : Nat} (hv : v < 3) (h : Int64) : F_Di_mixInto w (179 + 2 * v) h = some (g2 S h v) := by
  have T := I.1
  have inner : ∀ (rec5 : Nat → Int64 → Int32 → Option Int64) n, n < 1461 → ∀ h, F_Di_mixInto_16 rec5 w FUEL (179 + 2 * v) h (nI n) (nI 0) = rec5 (179 + 2 * v) (g2n S v h n) (nI (n + 1)) := by
    intro rec5 n hn h
    refine loopW (fun fu h x => F_Di_mixInto_16 rec5 w fu (179 + 2 * v) h (nI n) x) (g2i S v n) (fun h => rec5 (179 + 2 * v) h (nI (n + 1))) 4 (fun fu h f hf => ?_) (fun fu h => ?_) 4 FUEL 0 h (by omega) (by decide)
    · show F_Di_mixInto_16_B rec5 (F_Di_mixInto_16 rec5 w fu) w _ _ _ _ = _
      unfold F_Di_mixInto_16_B g2i
      simp (disch := omega) only [qL, ↓qM, q_le, tV T hv, A_fieldAt T I.2.2.2.2.1 I.2.2.1.2.2.1 hv hn hf, pk_mul, nI_add, gd_true, beq_self_eq_true, bd_s, if_true, if_false, ↓reduceIte, ite_true, ite_false, Bool.and_self, Bool.and_true, Bool.true_and, Nat.reduceBEq, Bool.or_true, Bool.true_or, Bool.or_self]
      rw [if_neg (by omega)]
      split <;> rfl
    · show F_Di_mixInto_16_B rec5 (F_Di_mixInto_16 rec5 w fu) w _ _ _ _ = _
      unfold F_Di_mixInto_16_B
      simp (disch := omega) only [qL, ↓qM, q_le, nI_add]
      rw [if_pos (Nat.le_refl _)]
  refine loopW (fun fu h x => F_Di_mixInto_5 w fu (179 + 2 * v) h x) (g2n S v) some 1461 (fun fu h n hn => ?_) (fun fu h => ?_) 1461 FUEL 0 h (by omega) (by decide)
  · show F_Di_mixInto_5_B (F_Di_mixInto_5 w fu) w _ _ _ = _
    unfold F_Di_mixInto_5_B
    simp (disch := omega) only [qL, ↓qM, q_le, inner _ n hn]
    rw [if_neg (by omega)]
  · show F_Di_mixInto_5_B (F_Di_mixInto_5 w fu) w _ _ _ = _
    unfold F_Di_mixInto_5_B
    simp (disch := omega) only [qL, ↓qM, q_le]
    rw [if_pos (Nat.le_refl _)]
theorem A_Al_mix (I : Inv L xs S w) {a : Nat} (ha : a < 6) (h : Int64) : F_Al_mixInto w (241 + 5 * a) h = some (g5 S h a) := by
  have T := I.1
  have ta := tA T ha
  have al := I.2.2.2.2.2.2.2.2.1
  unfold F_Al_mixInto
  simp only [ta.1, (al a ha).1, gd_true, beq_self_eq_true, bd_s, if_true, if_false, ↓reduceIte, ite_true, ite_false, Bool.and_self, Bool.and_true, Bool.true_and, Nat.reduceBEq, Bool.or_true, Bool.true_or, Bool.or_self]
  refine loopW (fun fu h x => F_Al_mixInto_12 w fu (241 + 5 * a) h x) (g5i S a) some 1461 (fun fu h n hn => ?_) (fun fu h => ?_) 1461 FUEL 0 _ (by omega) (by decide)
  · show F_Al_mixInto_12_B (F_Al_mixInto_12 w fu) w _ _ _ = _
    unfold F_Al_mixInto_12_B g5i
    simp (disch := omega) only [qL, ↓qM, q_le, ta.1, A_foretold T al ha hn, pk_mul, nI_add, gd_true, beq_self_eq_true, bd_s, if_true, if_false, ↓reduceIte, ite_true, ite_false, Bool.and_self, Bool.and_true, Bool.true_and, Nat.reduceBEq, Bool.or_true, Bool.true_or, Bool.or_self]
    rw [if_neg (by omega)]
    split <;> rfl
  · show F_Al_mixInto_12_B (F_Al_mixInto_12 w fu) w _ _ _ = _
    unfold F_Al_mixInto_12_B
    simp (disch := omega) only [qL, ↓qM, q_le]
    rw [if_pos (Nat.le_refl _)]
theorem A_dg5 (I : Inv L xs S w) (h : Int64) : F_A_digest_196 w FUEL 16 h (nI 0) = some (F_A_mixed (foN (g5 S) 0 6 h) (S 0 40)) := by
  have T := I.1
  refine loopW (fun fu h x => F_A_digest_196 w fu 16 h x) (g5 S) (fun h => some (F_A_mixed h (S 0 40))) 6 (fun fu h a ha => ?_) (fun fu h => ?_) 6 FUEL 0 h (by omega) (by decide)
  · show F_A_digest_196_B (F_A_digest_196 w fu) w _ _ _ = _
    unfold F_A_digest_196_B
    have ta := tA T ha
    simp (disch := omega) only [qL, ↓qM, q_le, t16 T, tAl T, q_inb, q_nat, ta.1, ta.2.2.2.1, A_Al_mix I ha, nI_add, gd_true, beq_self_eq_true, bd_s, if_true, if_false, ↓reduceIte, ite_true, ite_false, Bool.and_self, Bool.and_true, Bool.true_and, Nat.reduceBEq, Bool.or_true, Bool.true_or, Bool.or_self]
    rw [if_neg (by omega)]
  · show F_A_digest_196_B (F_A_digest_196 w fu) w _ _ _ = _
    unfold F_A_digest_196_B
    simp (disch := omega) only [qL, ↓qM, q_le, t16 T, t136 T, I.2.2.2.2.2.2.2.1.1, gd_true, beq_self_eq_true, bd_s, if_true, if_false, ↓reduceIte, ite_true, ite_false, Bool.and_self, Bool.and_true, Bool.true_and, Nat.reduceBEq, Bool.or_true, Bool.true_or, Bool.or_self]
    rw [if_pos (Nat.le_refl _)]
theorem A_dg4 (I : Inv L xs S w) (h : Int64) : F_A_digest_142 w FUEL 16 h (nI 0) = some (F_A_mixed (foN (g5 S) 0 6 (foN (g4 S) 0 (nS S) h)) (S 0 40)) := by
  have T := I.1
  have Is := I.2.2.1.2.2.2.2.1
  have As := I.2.2.2.2.2.2.1
  have h8 := Is.2.1
  have inner : ∀ (rec142 : Nat → Int64 → Int32 → Option Int64) k, k < nS S → ∀ h, F_A_digest_159 rec142 w FUEL 16 h (nI k) (nI 0) = rec142 16 (g4 S h k) (nI (k + 1)) := by
    intro rec142 k hk h
    have hS := I.say hk
    refine loopW (fun fu h x => F_A_digest_159 rec142 w fu 16 h (nI k) x) (g4i S k) (fun h => rec142 16 h (nI (k + 1))) 12 (fun fu h m hm => ?_) (fun fu h => ?_) 12 FUEL 0 h (by omega) (by decide)
    · show F_A_digest_159_B rec142 (F_A_digest_159 rec142 w fu) w _ _ _ _ = _
      unfold F_A_digest_159_B
      simp (disch := omega) only [qL, ↓qM, q_le, t16 T, tSy T, q_inb, q_nat, (tY T hS.1).1, Sa_answer T hS.1 (As.2 k hk) (I.k8 hk).2.2.2.2.1 hm, nI_add, gd_true, beq_self_eq_true, bd_s, if_true, if_false, ↓reduceIte, ite_true, ite_false, Bool.and_self, Bool.and_true, Bool.true_and, Nat.reduceBEq, Bool.or_true, Bool.true_or, Bool.or_self]
      rw [if_neg (by omega)]
      rfl
    · show F_A_digest_159_B rec142 (F_A_digest_159 rec142 w fu) w _ _ _ _ = _
      unfold F_A_digest_159_B
      simp (disch := omega) only [qL, ↓qM, q_le, nI_add]
      rw [if_pos (Nat.le_refl _)]
  refine loopW (fun fu h x => F_A_digest_142 w fu 16 h x) (g4 S) (fun h => some (F_A_mixed (foN (g5 S) 0 6 h) (S 0 40))) (nS S) (fun fu h k hk => ?_) (fun fu h => ?_) (nS S) FUEL 0 h (by omega) (Nat.lt_of_le_of_lt h8 (by decide))
  · show F_A_digest_142_B (F_A_digest_142 w fu) w _ _ _ = _
    unfold F_A_digest_142_B
    simp (disch := omega) only [qL, ↓qM, q_le, t16 T, As.1, Is.1, inner _ k hk, gd_true, beq_self_eq_true, bd_s, if_true, if_false, ↓reduceIte, ite_true, ite_false, Bool.and_self, Bool.and_true, Bool.true_and, Nat.reduceBEq, Bool.or_true, Bool.true_or, Bool.or_self]
    rw [if_neg (by omega), if_neg (by omega)]
  · show F_A_digest_142_B (F_A_digest_142 w fu) w _ _ _ = _
    unfold F_A_digest_142_B
    simp (disch := omega) only [qL, ↓qM, q_le, t16 T, As.1, Is.1, A_dg5 I, gd_true, beq_self_eq_true, bd_s, if_true, if_false, ↓reduceIte, ite_true, ite_false, Bool.and_self, Bool.and_true, Bool.true_and, Nat.reduceBEq, Bool.or_true, Bool.true_or, Bool.or_self]
    rw [if_pos (Nat.le_refl _)]
theorem A_letterAt (I : Inv L xs S w) {i : Nat} (hi : i < nP S) : F_Pg_letterAt w 23 (nI i) = some (S 8 i) := by
  have T := I.1
  have hp := I.2.2.1.2.2.2.1.2.1
  have Ap := I.2.2.2.2.2.1
  unfold F_Pg_letterAt
  simp (disch := omega) only [qL, ↓qM, q_lt, q_le, t23 T, q_inb, q_nat, Ap.1, I.2.2.1.2.2.2.1.1, Ap.2 i hi, gd_true, beq_self_eq_true, bd_s, if_true, if_false, ↓reduceIte, ite_true, ite_false, Bool.and_self, Bool.and_true, Bool.true_and, Nat.reduceBEq, Bool.or_true, Bool.true_or, Bool.or_self]
  rw [if_neg (by omega), if_neg (by omega), if_neg (by omega)]
theorem A_dg3 (I : Inv L xs S w) (h : Int64) : F_A_digest_110 w FUEL 16 h (nI 0) = some (F_A_mixed (foN (g5 S) 0 6 (foN (g4 S) 0 (nS S) (foN (g3 S) 0 (nP S) h))) (S 0 40)) := by
  have T := I.1
  have hp := I.2.2.1.2.2.2.1.2.1
  have Ap := I.2.2.2.2.2.1
  refine loopW (fun fu h x => F_A_digest_110 w fu 16 h x) (g3 S) (fun h => some (F_A_mixed (foN (g5 S) 0 6 (foN (g4 S) 0 (nS S) h)) (S 0 40))) (nP S) (fun fu h i hi => ?_) (fun fu h => ?_) (nP S) FUEL 0 h (by omega) (Nat.lt_of_le_of_lt hp (by decide))
  · show F_A_digest_110_B (F_A_digest_110 w fu) w _ _ _ = _
    unfold F_A_digest_110_B
    simp (disch := omega) only [qL, ↓qM, q_le, t16 T, t23 T, Ap.1, I.2.2.1.2.2.2.1.1, A_letterAt I hi, nI_add, gd_true, beq_self_eq_true, bd_s, if_true, if_false, ↓reduceIte, ite_true, ite_false, Bool.and_self, Bool.and_true, Bool.true_and, Nat.reduceBEq, Bool.or_true, Bool.true_or, Bool.or_self]
    rw [if_neg (by omega)]
    rfl
  · show F_A_digest_110_B (F_A_digest_110 w fu) w _ _ _ = _
    unfold F_A_digest_110_B
    simp (disch := omega) only [qL, ↓qM, q_le, t16 T, t23 T, Ap.1, I.2.2.1.2.2.2.1.1, A_dg4 I, gd_true, beq_self_eq_true, bd_s, if_true, if_false, ↓reduceIte, ite_true, ite_false, Bool.and_self, Bool.and_true, Bool.true_and, Nat.reduceBEq, Bool.or_true, Bool.true_or, Bool.or_self]
    rw [if_pos (Nat.le_refl _)]
theorem A_dg2 (I : Inv L xs S w) (h : Int64) : F_A_digest_86 w FUEL 16 h (nI 0) = some (F_A_mixed (foN (g5 S) 0 6 (foN (g4 S) 0 (nS S) (foN (g3 S) 0 (nP S) (foN (g2 S) 0 3 h)))) (S 0 40)) := by
  have T := I.1
  refine loopW (fun fu h x => F_A_digest_86 w fu 16 h x) (g2 S) (fun h => some (F_A_mixed (foN (g5 S) 0 6 (foN (g4 S) 0 (nS S) (foN (g3 S) 0 (nP S) h))) (S 0 40))) 3 (fun fu h v hv => ?_) (fun fu h => ?_) 3 FUEL 0 h (by omega) (by decide)
  · show F_A_digest_86_B (F_A_digest_86 w fu) w _ _ _ = _
    unfold F_A_digest_86_B
    simp (disch := omega) only [qL, ↓qM, q_le, t16 T, tDi T, q_inb, q_nat, tV T hv, A_Di_mix I hv, nI_add, gd_true, beq_self_eq_true, bd_s, if_true, if_false, ↓reduceIte, ite_true, ite_false, Bool.and_self, Bool.and_true, Bool.true_and, Nat.reduceBEq, Bool.or_true, Bool.true_or, Bool.or_self]
    rw [if_neg (by omega)]
  · show F_A_digest_86_B (F_A_digest_86 w fu) w _ _ _ = _
    unfold F_A_digest_86_B
    simp (disch := omega) only [qL, ↓qM, q_le, A_dg3 I]
    rw [if_pos (Nat.le_refl _)]
theorem A_digest (I : Inv L xs S w) : F_A_digest w 16 = some (dgS S) := by
  have T := I.1
  have C := I.2.2.2.1
  unfold F_A_digest
  simp only [t16 T, t17 T, C.1, gd_true, beq_self_eq_true, bd_s, if_true, if_false, ↓reduceIte, ite_true, ite_false, Bool.and_self, Bool.and_true, Bool.true_and, Nat.reduceBEq, Bool.or_true, Bool.true_or, Bool.or_self]
  refine loopW (fun fu h x => F_A_digest_16 w fu 16 h x) (g1 S) (fun h => some (F_A_mixed (foN (g5 S) 0 6 (foN (g4 S) 0 (nS S) (foN (g3 S) 0 (nP S) (foN (g2 S) 0 3 h)))) (S 0 40))) 8 (fun fu h s hs => ?_) (fun fu h => ?_) 8 FUEL 0 _ (by omega) (by decide)
  · show F_A_digest_16_B (F_A_digest_16 w fu) w _ _ _ = _
    unfold F_A_digest_16_B
    obtain ⟨c1, c2, c3, c4⟩ := C.2 s hs
    simp (disch := omega) only [qL, ↓qM, q_le, t16 T, t17 T, q_inb, q_nat, c1, c2, c3, c4, nI_add, gd_true, beq_self_eq_true, bd_s, if_true, if_false, ↓reduceIte, ite_true, ite_false, Bool.and_self, Bool.and_true, Bool.true_and, Nat.reduceBEq, Bool.or_true, Bool.true_or, Bool.or_self]
    rw [if_neg (by omega)]
    rfl
  · show F_A_digest_16_B (F_A_digest_16 w fu) w _ _ _ = _
    unfold F_A_digest_16_B
    simp (disch := omega) only [qL, ↓qM, q_le, A_dg2 I]
    rw [if_pos (Nat.le_refl _)]
theorem M_dg5 (T : Top L xs w) (R : RA S w) (h : Int64) : F_M_digest_241 w FUEL 271 h (nI 0) = some (F_A_mixed (foN (g5 S) 0 6 h) (S 0 40)) := by
  have inner : ∀ (rec241 : Nat → Int64 → Int32 → Option Int64) a, a < 6 → ∀ h, F_M_digest_264 rec241 w FUEL 271 h (nI a) (nI 0) = rec241 271 (foN (g5i S a) 0 1461 h) (nI (a + 1)) := by
    intro rec241 a ha h
    refine loopW (fun fu h x => F_M_digest_264 rec241 w fu 271 h (nI a) x) (g5i S a) (fun h => rec241 271 h (nI (a + 1))) 1461 (fun fu h n hn => ?_) (fun fu h => ?_) 1461 FUEL 0 h (by omega) (by decide)
    · show F_M_digest_264_B rec241 (F_M_digest_264 rec241 w fu) w _ _ _ _ = _
      unfold F_M_digest_264_B g5i
      simp (disch := omega) only [qL, ↓qM, q_le, mK T, mAlm T, pk_mul, nI_add, q_inb, q_nat, ra7 R, mx_def, gd_true, beq_self_eq_true, bd_s, if_true, if_false, ↓reduceIte, ite_true, ite_false, Bool.and_self, Bool.and_true, Bool.true_and, Nat.reduceBEq, Bool.or_true, Bool.true_or, Bool.or_self]
      rw [if_neg (by omega)]
      split <;> rfl
    · show F_M_digest_264_B rec241 (F_M_digest_264 rec241 w fu) w _ _ _ _ = _
      unfold F_M_digest_264_B
      simp (disch := omega) only [qL, ↓qM, q_le, nI_add]
      rw [if_pos (Nat.le_refl _)]
  refine loopW (fun fu h x => F_M_digest_241 w fu 271 h x) (g5 S) (fun h => some (F_A_mixed h (S 0 40))) 6 (fun fu h a ha => ?_) (fun fu h => ?_) 6 FUEL 0 h (by omega) (by decide)
  · show F_M_digest_241_B (F_M_digest_241 w fu) w _ _ _ = _
    unfold F_M_digest_241_B
    simp (disch := omega) only [qL, ↓qM, q_le, mK T, mAlm T, q_inb, q_nat, ra6 R, mx_def, inner _ a ha, gd_true, beq_self_eq_true, bd_s, if_true, if_false, ↓reduceIte, ite_true, ite_false, Bool.and_self, Bool.and_true, Bool.true_and, Nat.reduceBEq, Bool.or_true, Bool.true_or, Bool.or_self]
    rw [if_neg (by omega)]
    rfl
  · show F_M_digest_241_B (F_M_digest_241 w fu) w _ _ _ = _
    unfold F_M_digest_241_B
    simp (disch := omega) only [qL, ↓qM, q_le, mK T, rf40 R, mx_def, gd_true, beq_self_eq_true, bd_s, if_true, if_false, ↓reduceIte, ite_true, ite_false, Bool.and_self, Bool.and_true, Bool.true_and, Nat.reduceBEq, Bool.or_true, Bool.true_or, Bool.or_self]
    rw [if_pos (Nat.le_refl _)]
theorem M_dg4 (T : Top L xs w) (R : RA S w) (Is : IMsy S) (h : Int64) : F_M_digest_208 w FUEL 271 h (nI 0) = some (F_A_mixed (foN (g5 S) 0 6 (foN (g4 S) 0 (nS S) h)) (S 0 40)) := by
  have h8 := Is.2.1
  have e := loopW (fun fu h x => F_M_digest_208 w fu 271 h x) (g4f S) (fun h => some (F_A_mixed (foN (g5 S) 0 6 h) (S 0 40))) (12 * nS S) (fun fu h k hk => ?_) (fun fu h => ?_) (12 * nS S) FUEL 0 h (by omega) (Nat.lt_of_le_of_lt (show 12 * nS S ≤ 96 by omega) (by decide))
  · have q := g4_flat S (nS S) 0 h
    rw [Nat.mul_zero] at q
    rw [← q]; exact e
  · show F_M_digest_208_B (F_M_digest_208 w fu) w _ _ _ = _
    unfold F_M_digest_208_B
    simp (disch := omega) only [qL, ↓qM, q_le, mK T, rf29 R, Is.1, pk_mul, mSay T, q_inb, q_nat, ra13 R, mx_def, nI_add, gd_true, beq_self_eq_true, bd_s, if_true, if_false, ↓reduceIte, ite_true, ite_false, Bool.and_self, Bool.and_true, Bool.true_and, Nat.reduceBEq, Bool.or_true, Bool.true_or, Bool.or_self]
    rw [if_neg (by omega)]
    rfl
  · show F_M_digest_208_B (F_M_digest_208 w fu) w _ _ _ = _
    unfold F_M_digest_208_B
    simp (disch := omega) only [qL, ↓qM, q_le, mK T, rf29 R, Is.1, pk_mul, M_dg5 T R, gd_true, beq_self_eq_true, bd_s, if_true, if_false, ↓reduceIte, ite_true, ite_false, Bool.and_self, Bool.and_true, Bool.true_and, Nat.reduceBEq, Bool.or_true, Bool.true_or, Bool.or_self]
    rw [if_pos (Nat.le_refl _)]
theorem M_dg3 (T : Top L xs w) (R : RA S w) (Is : IMsy S) (Ip : IMpg S) (h : Int64) : F_M_digest_178 w FUEL 271 h (nI 0) = some (F_A_mixed (foN (g5 S) 0 6 (foN (g4 S) 0 (nS S) (foN (g3 S) 0 (nP S) h))) (S 0 40)) := by
  have hp := Ip.2.1
  refine loopW (fun fu h x => F_M_digest_178 w fu 271 h x) (g3 S) (fun h => some (F_A_mixed (foN (g5 S) 0 6 (foN (g4 S) 0 (nS S) h)) (S 0 40))) (nP S) (fun fu h i hi => ?_) (fun fu h => ?_) (nP S) FUEL 0 h (by omega) (Nat.lt_of_le_of_lt hp (by decide))
  · show F_M_digest_178_B (F_M_digest_178 w fu) w _ _ _ = _
    unfold F_M_digest_178_B
    simp (disch := omega) only [qL, ↓qM, q_le, mK T, rf9 R, Ip.1, mPg T, q_inb, q_nat, ra8 R, mx_def, nI_add, gd_true, beq_self_eq_true, bd_s, if_true, if_false, ↓reduceIte, ite_true, ite_false, Bool.and_self, Bool.and_true, Bool.true_and, Nat.reduceBEq, Bool.or_true, Bool.true_or, Bool.or_self]
    rw [if_neg (by omega)]
    rfl
  · show F_M_digest_178_B (F_M_digest_178 w fu) w _ _ _ = _
    unfold F_M_digest_178_B
    simp (disch := omega) only [qL, ↓qM, q_le, mK T, rf9 R, Ip.1, M_dg4 T R Is, gd_true, beq_self_eq_true, bd_s, if_true, if_false, ↓reduceIte, ite_true, ite_false, Bool.and_self, Bool.and_true, Bool.true_and, Nat.reduceBEq, Bool.or_true, Bool.true_or, Bool.or_self]
    rw [if_pos (Nat.le_refl _)]
theorem M_dg2 (T : Top L xs w) (R : RA S w) (Is : IMsy S) (Ip : IMpg S) (h : Int64) : F_M_digest_82 w FUEL 271 h (nI 0) = some (F_A_mixed (foN (g5 S) 0 6 (foN (g4 S) 0 (nS S) (foN (g3 S) 0 (nP S) (foN (g2 S) 0 3 h)))) (S 0 40)) := by
  have in1 : ∀ (rec82 : Nat → Int64 → Int32 → Option Int64) (rec90 : Nat → Int64 → Int32 → Int32 → Option Int64) v n, v < 3 → n < 1461 → ∀ h, F_M_digest_101 rec82 rec90 w FUEL 271 h (nI v) (nI n) (nI 0) = rec90 271 (g2n S v h n) (nI v) (nI (n + 1)) := by
    intro rec82 rec90 v n hv hn h
    refine loopW (fun fu h x => F_M_digest_101 rec82 rec90 w fu 271 h (nI v) (nI n) x) (g2i S v n) (fun h => rec90 271 h (nI v) (nI (n + 1))) 4 (fun fu h f hf => ?_) (fun fu h => ?_) 4 FUEL 0 h (by omega) (by decide)
    · show F_M_digest_101_B rec82 rec90 (F_M_digest_101 rec82 rec90 w fu) w _ _ _ _ _ = _
      unfold F_M_digest_101_B g2i
      have hx := fx_lt hv hn hf
      simp (disch := omega) only [qL, ↓qM, q_le, mK T, mFld T, M_at_n, pk_mul, nI_add, q_inb, q_nat, ra5 R, mx_def, gd_true, beq_self_eq_true, bd_s, if_true, if_false, ↓reduceIte, ite_true, ite_false, Bool.and_self, Bool.and_true, Bool.true_and, Nat.reduceBEq, Bool.or_true, Bool.true_or, Bool.or_self]
      rw [if_neg (by omega)]
      split <;> rfl
    · show F_M_digest_101_B rec82 rec90 (F_M_digest_101 rec82 rec90 w fu) w _ _ _ _ _ = _
      unfold F_M_digest_101_B
      simp (disch := omega) only [qL, ↓qM, q_le, nI_add]
      rw [if_pos (Nat.le_refl _)]
  have in2 : ∀ (rec82 : Nat → Int64 → Int32 → Option Int64) v, v < 3 → ∀ h, F_M_digest_90 rec82 w FUEL 271 h (nI v) (nI 0) = rec82 271 (g2 S h v) (nI (v + 1)) := by
    intro rec82 v hv h
    refine loopW (fun fu h x => F_M_digest_90 rec82 w fu 271 h (nI v) x) (g2n S v) (fun h => rec82 271 h (nI (v + 1))) 1461 (fun fu h n hn => ?_) (fun fu h => ?_) 1461 FUEL 0 h (by omega) (by decide)
    · show F_M_digest_90_B rec82 (F_M_digest_90 rec82 w fu) w _ _ _ _ = _
      unfold F_M_digest_90_B
      simp (disch := omega) only [qL, ↓qM, q_le, in1 _ _ v n hv hn]
      rw [if_neg (by omega)]
    · show F_M_digest_90_B rec82 (F_M_digest_90 rec82 w fu) w _ _ _ _ = _
      unfold F_M_digest_90_B
      simp (disch := omega) only [qL, ↓qM, q_le, nI_add]
      rw [if_pos (Nat.le_refl _)]
  refine loopW (fun fu h x => F_M_digest_82 w fu 271 h x) (g2 S) (fun h => some (F_A_mixed (foN (g5 S) 0 6 (foN (g4 S) 0 (nS S) (foN (g3 S) 0 (nP S) h))) (S 0 40))) 3 (fun fu h v hv => ?_) (fun fu h => ?_) 3 FUEL 0 h (by omega) (by decide)
  · show F_M_digest_82_B (F_M_digest_82 w fu) w _ _ _ = _
    unfold F_M_digest_82_B
    simp (disch := omega) only [qL, ↓qM, q_le, in2 _ v hv]
    rw [if_neg (by omega)]
  · show F_M_digest_82_B (F_M_digest_82 w fu) w _ _ _ = _
    unfold F_M_digest_82_B
    simp (disch := omega) only [qL, ↓qM, q_le, M_dg3 T R Is Ip]
    rw [if_pos (Nat.le_refl _)]
theorem M_digest (I : Inv L xs S w) : F_M_digest w 271 = some (dgS S) := by
  have T := I.1
  have R := I.2.1
  unfold F_M_digest
  have e0 : (6169 : Int64) + Int32.toInt64 (S 0 0) = F_A_mixed 199 (S 0 0) := rfl
  simp only [mK T, rf0 R, e0, gd_true, beq_self_eq_true, bd_s, if_true, if_false, ↓reduceIte, ite_true, ite_false, Bool.and_self, Bool.and_true, Bool.true_and, Nat.reduceBEq, Bool.or_true, Bool.true_or, Bool.or_self]
  refine loopW (fun fu h x => F_M_digest_12 w fu 271 h x) (g1 S) (fun h => some (F_A_mixed (foN (g5 S) 0 6 (foN (g4 S) 0 (nS S) (foN (g3 S) 0 (nP S) (foN (g2 S) 0 3 h)))) (S 0 40))) 8 (fun fu h s hs => ?_) (fun fu h => ?_) 8 FUEL 0 _ (by omega) (by decide)
  · show F_M_digest_12_B (F_M_digest_12 w fu) w _ _ _ = _
    unfold F_M_digest_12_B
    simp (disch := omega) only [qL, ↓qM, q_le, mK T, mCal T, q_inb, q_nat, ra1 R, ra2 R, ra3 R, ra4 R, mx_def, nI_add, gd_true, beq_self_eq_true, bd_s, if_true, if_false, ↓reduceIte, ite_true, ite_false, Bool.and_self, Bool.and_true, Bool.true_and, Nat.reduceBEq, Bool.or_true, Bool.true_or, Bool.or_self]
    rw [if_neg (by omega)]
    rfl
  · show F_M_digest_12_B (F_M_digest_12 w fu) w _ _ _ = _
    unfold F_M_digest_12_B
    simp (disch := omega) only [qL, ↓qM, q_le, M_dg2 T R I.2.2.1.2.2.2.2.1 I.2.2.1.2.2.2.1]
    rw [if_pos (Nat.le_refl _)]
theorem S_digest (I : Inv L xs S w) : F_A_digest w 16 = some (dgS S) ∧ F_M_digest w 271 = some (dgS S) := ⟨A_digest I, M_digest I⟩
end
