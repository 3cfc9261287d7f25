/-! PURE: diaries -/
def b3 (x : Int32) (j : Nat) : Bool := x.toBitVec.getLsbD j
theorem b3_and (x y : Int32) (j : Nat) : b3 (x &&& y) j = (b3 x j && b3 y j) := by unfold b3; rw [Int32.toBitVec_and, BitVec.getLsbD_and]
theorem b3_or (x y : Int32) (j : Nat) : b3 (x ||| y) j = (b3 x j || b3 y j) := by unfold b3; rw [Int32.toBitVec_or, BitVec.getLsbD_or]
theorem b3_xor (x y : Int32) (j : Nat) : b3 (x ^^^ y) j = (b3 x j ^^ b3 y j) := by unfold b3; rw [Int32.toBitVec_xor, BitVec.getLsbD_xor]
theorem b3_m1 {j : Nat} (h : j < 32) : b3 (mI 1) j = true := by
  unfold b3
  rw [show (mI 1).toBitVec = BitVec.allOnes 32 from by decide +kernel, BitVec.getLsbD_allOnes]
  simpa using h
theorem b3_ext {x y : Int32} (h : ∀ j, j < 32 → b3 x j = b3 y j) : x = y := Int32.toBitVec_inj.mp (BitVec.eq_of_getLsbD_eq h)
theorem b3_ge (x : Int32) {j : Nat} (h : 32 ≤ j) : b3 x j = false := BitVec.getLsbD_of_ge _ _ h
theorem b3_nI (n : Nat) {j : Nat} (h : j < 32) : b3 (nI n) j = n.testBit j := by
  unfold b3
  show (BitVec.ofNat 32 n).getLsbD j = _
  rw [BitVec.getLsbD_ofNat]
  simp [h]
theorem b3_mask {k j : Nat} (hj : j < 32) : b3 (nI (2 ^ k - 1)) j = decide (j < k) := by
  rw [b3_nI _ hj, Nat.testBit_two_pow_sub_one]
theorem b3_shl (x : Int32) {m j : Nat} (hm : m < 32) (hj : j < 32) : b3 (x <<< nI m) j = (decide (m ≤ j) && b3 x (j - m)) := by
  unfold b3
  have h1 : ∀ m, m < 32 → ((nI m).toBitVec.smod 32).toNat = m := by decide +kernel
  rw [Int32.toBitVec_shiftLeft, BitVec.shiftLeft_eq', h1 m hm, BitVec.getLsbD_shiftLeft]
  by_cases h : j < m
  · rw [decide_eq_true h, decide_eq_false (by omega : ¬ m ≤ j)]; simp
  · rw [decide_eq_false h, decide_eq_true (by omega : m ≤ j), decide_eq_true hj]; simp
theorem b3_shr (x : Int32) {m j : Nat} (hm : m + j < 32) : b3 (x >>> nI m) j = b3 x (m + j) := by
  unfold b3
  have h1 : ∀ m, m < 32 → ((nI m).toBitVec.smod 32).toNat = m := by decide +kernel
  rw [Int32.toBitVec_shiftRight, BitVec.getLsbD_sshiftRight', h1 m (by omega)]
  simp only [decide_eq_false (by omega : ¬ 32 ≤ j), Bool.not_false, Bool.true_and]
  rw [if_pos (by omega)]
def shf (f : Nat) : Nat := if f = 0 then 0 else if f = 1 then 3 else if f = 2 then 7 else 14
def wid (f : Nat) : Nat := if f = 0 then 3 else if f = 1 then 4 else 7
def msk (f : Nat) : Nat := 2 ^ wid f - 1
theorem fsep : ∀ f, f < 4 → ∀ g, g < 4 → f ≠ g → shf f + wid f ≤ shf g ∨ shf g + wid g ≤ shf f := by decide +kernel
theorem frng : ∀ f, f < 4 → shf f + wid f ≤ 21 ∧ shf f < 32 ∧ wid f < 8 ∧ msk f < 128 := by decide +kernel
/-- a field of a day's number -/
def gf (X : Int32) (f : Nat) : Int32 := (X >>> nI (shf f)) &&& nI (msk f)
theorem b3_gf (X : Int32) {f j : Nat} (hf : f < 4) (hj : j < 32) : b3 (gf X f) j = (decide (j < wid f) && b3 X (shf f + j)) := by
  have r := frng f hf
  unfold gf msk
  rw [b3_and, b3_mask hj]
  by_cases h : j < wid f
  · rw [b3_shr _ (by omega), decide_eq_true h]; simp
  · rw [decide_eq_false h]; simp
def pf (X : Int32) (f p : Nat) : Int32 := (X &&& ((nI (msk f) <<< nI (shf f)) ^^^ mI 1)) ||| ((nI p &&& nI (msk f)) <<< nI (shf f))
theorem b3_pf (X : Int32) {f j : Nat} (p : Nat) (hf : f < 4) (hj : j < 32) : b3 (pf X f p) j = if shf f ≤ j ∧ j < shf f + wid f then p.testBit (j - shf f) else b3 X j := by
  have r := frng f hf
  unfold pf msk
  rw [b3_or, b3_and, b3_xor, b3_m1 hj, b3_shl _ r.2.1 hj, b3_shl _ r.2.1 hj]
  by_cases h : shf f ≤ j
  · rw [decide_eq_true h, b3_and, b3_mask (by omega), b3_nI _ (by omega)]
    by_cases h2 : j < shf f + wid f
    · rw [if_pos ⟨h, h2⟩, decide_eq_true (by omega : j - shf f < wid f)]; simp
    · rw [if_neg (by omega), decide_eq_false (by omega : ¬ j - shf f < wid f)]; simp
  · rw [decide_eq_false h, if_neg (by omega)]; simp
theorem gf_pf (X : Int32) {f g p : Nat} (hf : f < 4) (hg : g < 4) (hp : p ≤ msk f) : gf (pf X f p) g = if g = f then nI p else gf X g := by
  have r := frng f hf
  have r2 := frng g hg
  apply b3_ext
  intro j hj
  rw [b3_gf _ hg hj]
  by_cases h : g = f
  · subst h
    rw [if_pos rfl, b3_nI _ hj]
    by_cases h2 : j < wid g
    · rw [decide_eq_true h2, b3_pf _ _ hf (by omega), if_pos (by omega), show shf g + j - shf g = j by omega]; simp
    · rw [decide_eq_false h2, Nat.testBit_lt_two_pow]
      · rfl
      · unfold msk at hp
        have := Nat.pow_le_pow_right (show 0 < 2 by omega) (show wid g ≤ j by omega)
        have := Nat.two_pow_pos (wid g)
        omega
  · rw [if_neg h, b3_gf _ hg hj]
    by_cases h2 : j < wid g
    · have := fsep f hf g hg (Ne.symm h)
      rw [b3_pf _ _ hf (by omega), if_neg (by omega)]
    · rw [decide_eq_false h2]; rfl
theorem gf_zero (X : Int32) {f : Nat} (hf : f < 4) : (X &&& (nI (msk f) <<< nI (shf f)) = nI 0) = (gf X f = nI 0) := by
  have r := frng f hf
  apply propext
  constructor
  · intro h
    apply b3_ext
    intro j hj
    rw [b3_gf _ hf hj, b3_nI _ hj, Nat.zero_testBit]
    by_cases h2 : j < wid f
    · have e := congrArg (fun y => b3 y (shf f + j)) h
      simp only [b3_and] at e
      rw [b3_shl _ r.2.1 (by omega), b3_nI 0 (by omega), Nat.zero_testBit] at e
      unfold msk at e
      rw [b3_mask (by omega), decide_eq_true (by omega : shf f ≤ shf f + j), decide_eq_true (by omega : shf f + j - shf f < wid f)] at e
      rw [decide_eq_true h2]
      simpa using e
    · rw [decide_eq_false h2]; rfl
  · intro h
    apply b3_ext
    intro j hj
    rw [b3_and, b3_shl _ r.2.1 hj, b3_nI 0 hj, Nat.zero_testBit]
    unfold msk
    rw [b3_mask (by omega)]
    by_cases h1 : shf f ≤ j
    · by_cases h2 : j - shf f < wid f
      · have e : b3 (gf X f) (j - shf f) = b3 (nI 0) (j - shf f) := congrArg (fun y => b3 y (j - shf f)) h
        rw [b3_gf _ hf (by omega), b3_nI 0 (by omega), Nat.zero_testBit, decide_eq_true h2, show shf f + (j - shf f) = j by omega] at e
        simp at e
        simp [e]
      · rw [decide_eq_false h2]; simp
    · rw [decide_eq_false h1]; simp
def lo (f : Nat) : Int := if f = 3 then -30 else 0
def hi (f : Nat) : Int := if f = 0 then 3 else if f = 1 then 9 else if f = 2 then 99 else 40
def vf (f : Nat) (x : Int32) : Prop := x = mI 1000 ∨ (lo f ≤ x.toInt ∧ x.toInt ≤ hi f)
/-- a field's place above the lowest; a gap's is 0 -/
def pl (f : Nat) (x : Int32) : Nat := if x = mI 1000 then 0 else (x.toInt - lo f + 1).toNat
theorem vrng : ∀ f, f < 4 → hi f - lo f + 1 ≤ (msk f : Int) ∧ -30 ≤ lo f ∧ lo f ≤ hi f ∧ hi f ≤ 99 := by decide +kernel
theorem pl_le {f : Nat} {x : Int32} (hf : f < 4) (h : vf f x) : pl f x ≤ msk f := by
  have r := vrng f hf
  unfold pl
  split
  · omega
  · rename_i hx
    rcases h with h | h
    · exact absurd h hx
    · omega
theorem mI1000 : (mI 1000).toInt = -1000 := by decide
theorem pl_0 {f : Nat} {x : Int32} (hf : f < 4) (h : vf f x) : (pl f x = 0) ↔ x = mI 1000 := by
  have r := vrng f hf
  unfold pl
  constructor
  · intro e
    by_cases hx : x = mI 1000
    · exact hx
    · rw [if_neg hx] at e
      rcases h with h | h
      · exact h
      · omega
  · intro hx; rw [if_pos hx]
theorem th5 {L : Nat} {xs : Nat → Int32} {w : AW} (T : Top L xs w) : ∀ f, f < 4 → wi w 5 f = nI (shf f) := by
  intro f hf
  have : f = 0 ∨ f = 1 ∨ f = 2 ∨ f = 3 := by omega
  rcases this with h | h | h | h <;> subst h <;> simp [s5 T, shf]
theorem th6 {L : Nat} {xs : Nat → Int32} {w : AW} (T : Top L xs w) : ∀ f, f < 4 → wi w 6 f = nI (msk f) := by
  intro f hf
  have : f = 0 ∨ f = 1 ∨ f = 2 ∨ f = 3 := by omega
  rcases this with h | h | h | h <;> subst h <;> simp [s6 T, msk, wid]
theorem th3 {L : Nat} {xs : Nat → Int32} {w : AW} (T : Top L xs w) : ∀ f, f < 4 → (wi w 3 f).toInt = lo f := by
  intro f hf
  have : f = 0 ∨ f = 1 ∨ f = 2 ∨ f = 3 := by omega
  rcases this with h | h | h | h <;> subst h <;> simp only [s3 T] <;> decide
theorem th4 {L : Nat} {xs : Nat → Int32} {w : AW} (T : Top L xs w) : ∀ f, f < 4 → (wi w 4 f).toInt = hi f := by
  intro f hf
  have : f = 0 ∨ f = 1 ∨ f = 2 ∨ f = 3 := by omega
  rcases this with h | h | h | h <;> subst h <;> simp only [s4 T] <;> decide
theorem pl_back {f : Nat} {x l : Int32} (hf : f < 4) (hl : l.toInt = lo f) (h : vf f x) (h0 : x ≠ mI 1000) : (nI (pl f x) - nI 1) + l = x := by
  have r := vrng f hf
  have r2 := frng f hf
  have r3 := pl_le hf h
  rcases h with h | h
  · exact absurd h h0
  · apply Int32.toInt.inj
    have e : (pl f x : Int) = x.toInt - lo f + 1 := by unfold pl; rw [if_neg h0]; omega
    rw [pk_sub (by omega), Int32.toInt_add, nI_toInt (by omega), hl]
    rw [Int.bmod_eq_of_le (by omega) (by omega)]
    omega
theorem pl_fwd {f : Nat} {x l : Int32} (hf : f < 4) (hl : l.toInt = lo f) (h : vf f x) (h0 : x ≠ mI 1000) : (x - l) + nI 1 = nI (pl f x) := by
  have r := vrng f hf
  have r2 := frng f hf
  have r3 := pl_le hf h
  rcases h with h | h
  · exact absurd h h0
  · apply Int32.toInt.inj
    have e : (pl f x : Int) = x.toInt - lo f + 1 := by unfold pl; rw [if_neg h0]; omega
    have e1 : (x - l).toInt = x.toInt - lo f := by
      rw [Int32.toInt_sub, hl]
      exact Int.bmod_eq_of_le (by omega) (by omega)
    rw [Int32.toInt_add, e1, nI_toInt (by omega), nI_toInt (by omega)]
    rw [Int.bmod_eq_of_le (by omega) (by omega)]
    omega
def fx (v n f : Nat) : Nat := (v * 1461 + n) * 4 + f
def uS (S : Nat → Nat → Int32) (r i : Nat) (x : Int32) : Nat → Nat → Int32 := fun q j => if q = r ∧ j = i then x else S q j
def IMd (S : Nat → Nat → Int32) : Prop := ∀ v, v < 3 → ∀ n, n < 1461 → ∀ f, f < 4 → vf f (S 5 (fx v n f))
def DiaA (S : Nat → Nat → Int32) (w : AW) : Prop := ∀ v, v < 3 → ∀ n, n < 1461 → ∀ f, f < 4 → gf (wi w (180 + 2 * v) n) f = nI (pl f (S 5 (fx v n f)))
theorem A_isDay_n {n : Nat} (h : n < 1461) : F_A_isDay (nI n) = nI 1 := by
  unfold F_A_isDay
  simp (disch := omega) only [qL, ↓qM, A_within_b, q_int]
  rw [decide_eq_true (by omega)]; rfl
theorem A_isField_n {n : Nat} (h : n < 4) : F_A_isField (nI n) = nI 1 := by
  unfold F_A_isField
  simp (disch := omega) only [qL, ↓qM, A_within_b, q_int]
  rw [decide_eq_true (by omega)]; rfl
theorem q_10 : (nI 1 = nI 0) = False := by apply propext; constructor; (intro h; exact absurd h (by decide)); (exact False.elim)
theorem A_fieldAt {L : Nat} {xs : Nat → Int32} {w : AW} (T : Top L xs w) {S : Nat → Nat → Int32} (D : DiaA S w) (I : IMd S) {v n f : Nat} (hv : v < 3) (hn : n < 1461) (hf : f < 4) : F_Di_fieldAt w (179 + 2 * v) (nI n) (nI f) = some (S 5 (fx v n f)) := by
  have r := frng f hf
  have r3 := pl_le hf (I v hv n hn f hf)
  unfold F_Di_fieldAt
  rw [A_isDay_n hn, A_isField_n hf]
  simp (disch := omega) only [qL, ↓qM, q_10, tV T hv, s5 T, s6 T, s3 T, q_inb, q_nat, th5 T, th6 T, q_and31, gd_true, beq_self_eq_true, bd_s, if_true, if_false, ↓reduceIte, ite_true, ite_false, Bool.and_self, Bool.and_true, Bool.true_and, Nat.reduceBEq, Bool.or_true, Bool.true_or, Bool.or_self]
  have e := D v hv n hn f hf
  unfold gf at e
  rw [e]
  simp (disch := omega) only [q_eq]
  by_cases h : S 5 (fx v n f) = mI 1000
  · rw [if_pos ((pl_0 hf (I v hv n hn f hf)).mpr h), h]
  · rw [if_neg (fun e => h ((pl_0 hf (I v hv n hn f hf)).mp e)), pl_back hf (th3 T f hf) (I v hv n hn f hf) h]
theorem fx_inj {v n f v' n' f' : Nat} (hn : n < 1461) (hn' : n' < 1461) (hf : f < 4) (hf' : f' < 4) (h : fx v n f = fx v' n' f') : v = v' ∧ n = n' ∧ f = f' := by unfold fx at h; omega
theorem A_putField {L : Nat} {xs : Nat → Int32} {w : AW} (T : Top L xs w) {S : Nat → Nat → Int32} (D : DiaA S w) {v n f : Nat} {x : Int32} (hv : v < 3) (hn : n < 1461) (hf : f < 4) (hx : vf f x) : ∃ g, F_Di_putField (179 + 2 * v) (nI n) (nI f) x w = some (rowI w (180 + 2 * v) g) ∧ DiaA (uS S 5 (fx v n f) x) (rowI w (180 + 2 * v) g) := by
  have r := frng f hf
  have r3 := pl_le hf hx
  refine ⟨fun j => if j = n then pf (wi w (180 + 2 * v) n) f (pl f x) else wi w (180 + 2 * v) j, ?_, ?_⟩
  · unfold F_Di_putField F_Di_putField_35
    rw [A_isDay_n hn, A_isField_n hf]
    simp (disch := omega) only [qL, ↓qM, q_10, tV T hv, s5 T, s6 T, s3 T, q_inb, q_nat, th5 T, th6 T, q_and31, gd_true, beq_self_eq_true, bd_s, if_true, if_false, ↓reduceIte, ite_true, ite_false, Bool.and_self, Bool.and_true, Bool.true_and, Nat.reduceBEq, Bool.or_true, Bool.true_or, Bool.or_self]
    unfold pf
    by_cases h : x = mI 1000
    · rw [if_pos h, upI_row, show pl f x = 0 by unfold pl; rw [if_pos h]]
    · rw [if_neg h, pl_fwd hf (th3 T f hf) hx h, upI_row]
  · intro v' hv' n' hn' f' hf'
    rw [wi_rowI]
    unfold uS
    by_cases h1 : v' = v ∧ n' = n
    · obtain ⟨rfl, rfl⟩ := h1
      rw [if_pos rfl, if_pos rfl, gf_pf _ hf hf' r3]
      by_cases h2 : f' = f
      · subst h2; rw [if_pos rfl, if_pos ⟨rfl, rfl⟩]
      · rw [if_neg h2, if_neg (fun e => h2 (fx_inj hn hn' hf' hf e.2).2.2), D v' hv' n' hn' f' hf']
    · rw [if_neg (fun e : 5 = 5 ∧ fx v' n' f' = fx v n f => h1 ⟨(fx_inj hn' hn hf' hf e.2).1, (fx_inj hn' hn hf' hf e.2).2.1⟩)]
      rw [← D v' hv' n' hn' f' hf']
      by_cases h3 : v' = v
      · subst h3
        rw [if_pos rfl, if_neg (fun e => h1 ⟨rfl, e⟩)]
      · rw [if_neg (by omega)]
