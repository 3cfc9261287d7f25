/-! PURE: what diaries answer -/
theorem M_at_n (v n f : Nat) : F_M_at (nI v) (nI n) (nI f) = nI (fx v n f) := by
  unfold F_M_at fx
  simp only [qL, ↓qM, pk_mul, nI_add]
theorem fx_lt {v n f : Nat} (hv : v < 3) (hn : n < 1461) (hf : f < 4) : fx v n f < 17532 := by unfold fx; omega
/-- a field is a number, counted from a place of the row on -/
def isN (S : Nat → Nat → Int32) (b t : Nat) : Bool := !decide (S 5 (b + t) = mI 1000)
theorem A_numbersIn {L : Nat} {xs : Nat → Int32} {w : AW} (T : Top L xs w) {S : Nat → Nat → Int32} (D : DiaA S w) (I : IMd S) {v from' till : Nat} (hv : v < 3) (h1 : from' ≤ till) (h2 : till ≤ 1461) : F_Di_numbersIn w (179 + 2 * v) (nI from') (nI till) = some (nI (cnt (isN S (fx v from' 0)) (4 * (till - from')))) := by
  have inner : ∀ (rec5 : Nat → Int32 → Int32 → Int32 → Option Int32) (n : Nat), from' ≤ n → n < till → ∀ k fu f, f + k = 4 → k < fu → F_Di_numbersIn_14 rec5 w fu (179 + 2 * v) (nI till) (nI (cnt (isN S (fx v from' 0)) (4 * (n - from') + f))) (nI n) (nI f) = rec5 (179 + 2 * v) (nI till) (nI (cnt (isN S (fx v from' 0)) (4 * (n + 1 - from')))) (nI (n + 1)) := by
    intro rec5 n hn1 hn2 k
    induction k with
    | zero =>
      intro fu f hf hfu
      obtain ⟨fu, rfl⟩ : ∃ m, fu = m + 1 := ⟨fu - 1, by omega⟩
      show F_Di_numbersIn_14_B rec5 (F_Di_numbersIn_14 rec5 w fu) w _ _ _ _ _ = _
      unfold F_Di_numbersIn_14_B
      simp (disch := omega) only [qL, ↓qM, q_le, nI_add]
      rw [if_pos (by omega), show 4 * (n + 1 - from') = 4 * (n - from') + f by omega]
    | succ k ih =>
      intro fu f hf hfu
      obtain ⟨fu, rfl⟩ : ∃ m, fu = m + 1 := ⟨fu - 1, by omega⟩
      show F_Di_numbersIn_14_B rec5 (F_Di_numbersIn_14 rec5 w fu) w _ _ _ _ _ = _
      unfold F_Di_numbersIn_14_B
      rw [A_fieldAt T D I hv (by omega) (by omega)]
      simp (disch := omega) only [qL, ↓qM, q_le, nI_add, tV T hv, gd_true, beq_self_eq_true, bd_s, if_true, if_false, ↓reduceIte, ite_true, ite_false, Bool.and_self, Bool.and_true, Bool.true_and, Nat.reduceBEq, Bool.or_true, Bool.true_or, Bool.or_self]
      rw [if_neg (by omega), ← ih fu (f + 1) (by omega) (by omega), show cnt (isN S (fx v from' 0)) (4 * (n - from') + (f + 1)) = cnt (isN S (fx v from' 0)) (4 * (n - from') + f) + (if isN S (fx v from' 0) (4 * (n - from') + f) = true then 1 else 0) from rfl]
      have e : fx v from' 0 + (4 * (n - from') + f) = fx v n f := by unfold fx; omega
      unfold isN
      rw [e]
      by_cases h : S 5 (fx v n f) = mI 1000
      · simp [h]
      · simp [h]
  have outer : ∀ k fu n, from' ≤ n → n + k = till → k < fu → F_Di_numbersIn_5 w fu (179 + 2 * v) (nI till) (nI (cnt (isN S (fx v from' 0)) (4 * (n - from')))) (nI n) = some (nI (cnt (isN S (fx v from' 0)) (4 * (till - from')))) := by
    intro k
    induction k with
    | zero =>
      intro fu n hn hk hf
      obtain ⟨fu, rfl⟩ : ∃ m, fu = m + 1 := ⟨fu - 1, by omega⟩
      obtain rfl : n = till := by omega
      show F_Di_numbersIn_5_B (F_Di_numbersIn_5 w fu) w _ _ _ _ = _
      unfold F_Di_numbersIn_5_B
      simp (disch := omega) only [q_le]
      rw [if_pos (Nat.le_refl _)]
    | succ k ih =>
      intro fu n hn hk hf
      obtain ⟨fu, rfl⟩ : ∃ m, fu = m + 1 := ⟨fu - 1, by omega⟩
      show F_Di_numbersIn_5_B (F_Di_numbersIn_5 w fu) w _ _ _ _ = _
      unfold F_Di_numbersIn_5_B
      simp (disch := omega) only [q_le]
      rw [if_neg (by omega), ← ih fu (n + 1) (by omega) (by omega) (by omega), l_0]
      exact inner _ n hn (by omega) 4 FUEL 0 (by omega) (by decide)
  have := outer (till - from') FUEL from' (Nat.le_refl _) (by omega) (Nat.lt_of_le_of_lt (by omega : till - from' ≤ 1461) (by decide))
  rw [Nat.sub_self] at this
  exact this
theorem M_kept_in {L : Nat} {xs : Nat → Int32} {w : AW} (T : Top L xs w) {S : Nat → Nat → Int32} (R : RA S w) (I : IMf S) {v y : Nat} (hv : v < 3) (hy : y < 4) : F_M_kept w 271 (nI v) (nI y) = some (nI (cnt (isN S (fx v (yst (sF S) y) 0)) (4 * (yst (sF S) (y + 1) - yst (sF S) y)))) := by
  have hm := yst_mono (sF S) (show y ≤ y + 1 by omega)
  have hm2 := yst_mono (sF S) (show y + 1 ≤ 4 by omega)
  have hm3 := yst_4 _ I.2
  generalize hfrom : yst (sF S) y = from' at *
  generalize htill : yst (sF S) (y + 1) = till at *
  have inner : ∀ (rec5 : Nat → Int32 → Int32 → Int32 → Int32 → Option Int32) (n : Nat), from' ≤ n → n < till → ∀ k fu f, f + k = 4 → k < fu → F_M_kept_45 rec5 w fu 271 (nI v) (nI y) (nI (cnt (isN S (fx v from' 0)) (4 * (n - from') + f))) (nI n) (nI f) = rec5 271 (nI v) (nI y) (nI (cnt (isN S (fx v from' 0)) (4 * (n + 1 - from')))) (nI (n + 1)) := by
    intro rec5 n hn1 hn2 k
    induction k with
    | zero =>
      intro fu f hf hfu
      obtain ⟨fu, rfl⟩ : ∃ m, fu = m + 1 := ⟨fu - 1, by omega⟩
      show F_M_kept_45_B rec5 (F_M_kept_45 rec5 w fu) w _ _ _ _ _ _ = _
      unfold F_M_kept_45_B
      simp (disch := omega) only [qL, ↓qM, q_le, nI_add]
      rw [if_pos (by omega), show 4 * (n + 1 - from') = 4 * (n - from') + f by omega]
    | succ k ih =>
      intro fu f hf hfu
      obtain ⟨fu, rfl⟩ : ∃ m, fu = m + 1 := ⟨fu - 1, by omega⟩
      have hx := fx_lt hv (show n < 1461 by omega) (show f < 4 by omega)
      show F_M_kept_45_B rec5 (F_M_kept_45 rec5 w fu) w _ _ _ _ _ _ = _
      unfold F_M_kept_45_B
      simp (disch := omega) only [qL, ↓qM, q_le, nI_add, mK T, mFld T, M_at_n, q_inb, q_nat, ra5 R, gd_true, beq_self_eq_true, bd_s, if_true, if_false, ↓reduceIte, ite_true, ite_false, Bool.and_self, Bool.and_true, Bool.true_and, Nat.reduceBEq, Bool.or_true, Bool.true_or, Bool.or_self]
      rw [if_neg (by omega), ← ih fu (f + 1) (by omega) (by omega), show cnt (isN S (fx v from' 0)) (4 * (n - from') + (f + 1)) = cnt (isN S (fx v from' 0)) (4 * (n - from') + f) + (if isN S (fx v from' 0) (4 * (n - from') + f) = true then 1 else 0) from rfl]
      have e : fx v from' 0 + (4 * (n - from') + f) = fx v n f := by unfold fx; omega
      unfold isN
      rw [e]
      by_cases h : S 5 (fx v n f) = mI 1000
      · simp [h]
      · simp [h]
  have outer : ∀ k fu n, from' ≤ n → n + k = till → k < fu → F_M_kept_32 w fu 271 (nI v) (nI y) (nI (cnt (isN S (fx v from' 0)) (4 * (n - from')))) (nI n) = some (nI (cnt (isN S (fx v from' 0)) (4 * (till - from')))) := by
    intro k
    induction k with
    | zero =>
      intro fu n hn hk hf
      obtain ⟨fu, rfl⟩ : ∃ m, fu = m + 1 := ⟨fu - 1, by omega⟩
      obtain rfl : n = till := by omega
      show F_M_kept_32_B (F_M_kept_32 w fu) w _ _ _ _ _ = _
      unfold F_M_kept_32_B
      rw [M_yearEnd T R I hy, htill]
      simp (disch := omega) only [mK T, q_le, gd_true, beq_self_eq_true, bd_s, if_true, if_false, ↓reduceIte, ite_true, ite_false, Bool.and_self, Bool.and_true, Bool.true_and, Nat.reduceBEq, Bool.or_true, Bool.true_or, Bool.or_self]
      rw [if_pos (Nat.le_refl _)]
    | succ k ih =>
      intro fu n hn hk hf
      obtain ⟨fu, rfl⟩ : ∃ m, fu = m + 1 := ⟨fu - 1, by omega⟩
      show F_M_kept_32_B (F_M_kept_32 w fu) w _ _ _ _ _ = _
      unfold F_M_kept_32_B
      rw [M_yearEnd T R I hy, htill]
      simp (disch := omega) only [mK T, q_le, gd_true, beq_self_eq_true, bd_s, if_true, if_false, ↓reduceIte, ite_true, ite_false, Bool.and_self, Bool.and_true, Bool.true_and, Nat.reduceBEq, Bool.or_true, Bool.true_or, Bool.or_self]
      rw [if_neg (by omega), ← ih fu (n + 1) (by omega) (by omega) (by omega), l_0]
      exact inner _ n hn (by omega) 4 FUEL 0 (by omega) (by decide)
  have := outer (till - from') FUEL from' (Nat.le_refl _) (by omega) (Nat.lt_of_le_of_lt (by omega : till - from' ≤ 1461) (by decide))
  rw [Nat.sub_self] at this
  unfold F_M_kept F_M_isValley
  simp (disch := omega) only [qL, ↓qM, M_in_b, qLJ, q_int, q_b0, mK T, M_begin T R I, bg_1, hfrom, gd_true, beq_self_eq_true, bd_s, if_true, if_false, ↓reduceIte, ite_true, ite_false, Bool.and_self, Bool.and_true, Bool.true_and, Nat.reduceBEq, Bool.or_true, Bool.true_or, Bool.or_self]
  rw [if_neg (by simp; omega), if_neg (by simp; omega)]
  exact this
/-! writing a year -/
def nx (x : Int32) : Int32 := F_A_nextSeed x
def sd (x : Int32) : Nat → Int32
  | 0 => x
  | t + 1 => nx (sd x t)
/-- the row of four numbers a day, by seed and gaps -/
def wv (g : Nat) (f : Nat) (z : Int32) : Int32 :=
  if f = 0 then irem z (nI 4) else if f = 1 then irem z (nI 10) else if f = 2 then (if irem z (nI 3) = nI 0 then nI 0 else irem z (nI 100)) else irem z (nI 71) - nI 30
def wgap (g : Nat) (x : Int32) : Bool := decide (0 < g) && decide (irem (x / nI 256) (nI g) = nI 0)
def wnv (g : Nat) (x : Int32) (t : Nat) : Int32 := if wgap g (sd x (t + 1)) = true then mI 1000 else wv g (t % 4) (sd x (t + 1) / nI 65536)
/-- the state with t numbers of a year written -/
def wS (S : Nat → Nat → Int32) (b g : Nat) (x : Int32) (t : Nat) : Nat → Nat → Int32 := fun r i => if r = 5 ∧ b ≤ i ∧ i < b + t then wnv g x (i - b) else S r i
theorem wS_0 (S : Nat → Nat → Int32) (b g : Nat) (x : Int32) : wS S b g x 0 = S := by
  funext r i; unfold wS; rw [if_neg (by omega)]
theorem wS_s (S : Nat → Nat → Int32) (b g : Nat) (x : Int32) (t : Nat) : wS S b g x (t + 1) = uS (wS S b g x t) 5 (b + t) (wnv g x t) := by
  funext r i
  show (if r = 5 ∧ b ≤ i ∧ i < b + (t + 1) then wnv g x (i - b) else S r i) = (if r = 5 ∧ i = b + t then wnv g x t else (if r = 5 ∧ b ≤ i ∧ i < b + t then wnv g x (i - b) else S r i))
  by_cases h : r = 5 ∧ i = b + t
  · rw [if_pos h, if_pos (by omega), show i - b = t by omega]
  · rw [if_neg h]
    by_cases h2 : r = 5 ∧ b ≤ i ∧ i < b + t
    · rw [if_pos h2, if_pos (by omega)]
    · rw [if_neg h2, if_neg (by omega)]
theorem nx_pos (x : Int32) : 0 ≤ (nx x).toInt := by
  unfold nx F_A_nextSeed
  have h : ∀ y : Int32, 0 ≤ (y &&& 2147483647).toInt := by
    intro y
    have hb : b3 (y &&& 2147483647) 31 = false := by
      rw [b3_and]
      rw [show (2147483647 : Int32) = nI (2 ^ 31 - 1) from rfl, b3_mask (by omega)]; simp
    unfold b3 at hb
    rw [← Int32.toInt_toBitVec]
    have hm : (y &&& 2147483647).toBitVec.msb = false := by
      rw [BitVec.msb_eq_getLsbD_last]; exact hb
    have := BitVec.toInt_eq_toNat_of_msb hm
    omega
  exact h _
theorem sd_nI (x : Int32) (t : Nat) : ∃ k, sd x (t + 1) = nI k ∧ k < 2147483648 := by
  refine ⟨(sd x (t + 1)).toInt.toNat, q_ofI (nx_pos _), ?_⟩
  have := Int32.toInt_lt (sd x (t + 1))
  omega
theorem wv_vf {g f k : Nat} (hf : f < 4) (hk : k < 2147483648) : vf f (wv g f (nI k)) ∧ wv g f (nI k) ≠ mI 1000 := by
  have h : ∀ m : Nat, m < 100 → f ≤ 2 → (m : Int) ≤ hi f → vf f (nI m) ∧ nI m ≠ mI 1000 := by
    intro m hm hf2 hh
    refine ⟨.inr ?_, fun e => ?_⟩
    · rw [nI_toInt (by omega)]
      unfold lo
      rw [if_neg (by omega)]
      omega
    · rw [q_nm (by omega) (by omega) (by omega)] at e; exact e
  unfold wv
  simp (disch := omega) only [q_rem, q_eq]
  have : f = 0 ∨ f = 1 ∨ f = 2 ∨ f = 3 := by omega
  rcases this with e | e | e | e <;> subst e
  · rw [if_pos rfl]; exact h _ (by omega) (by omega) (by unfold hi; rw [if_pos rfl]; omega)
  · rw [if_neg (by omega), if_pos rfl]; exact h _ (by omega) (by omega) (by unfold hi; rw [if_neg (by omega), if_pos rfl]; omega)
  · rw [if_neg (by omega), if_neg (by omega), if_pos rfl]
    split
    · exact h _ (by omega) (by omega) (by decide)
    · exact h _ (by omega) (by omega) (by unfold hi; rw [if_neg (by omega), if_neg (by omega), if_pos rfl]; omega)
  · rw [if_neg (by omega), if_neg (by omega), if_neg (by omega)]
    have e : (nI (k % 71) - nI 30).toInt = ((k % 71 : Nat) : Int) - 30 := by
      rw [Int32.toInt_sub, nI_toInt (by omega), nI_toInt (by omega)]
      exact Int.bmod_eq_of_le (by omega) (by omega)
    refine ⟨.inr ?_, fun e2 => ?_⟩
    · rw [e]
      rw [show lo 3 = -30 from rfl, show hi 3 = 40 from rfl]
      omega
    · rw [e2, mI1000] at e; omega
theorem wnv_vf (g : Nat) (x : Int32) (t : Nat) : vf (t % 4) (wnv g x t) := by
  obtain ⟨k, hk, hk2⟩ := sd_nI x t
  unfold wnv
  split
  · exact .inl rfl
  · rw [hk, q_div hk2 (by omega) (by omega)]
    exact (wv_vf (by omega) (Nat.lt_of_le_of_lt (Nat.div_le_self _ _) hk2)).1
theorem wnv_gap (g : Nat) (x : Int32) (t : Nat) : (wnv g x t = mI 1000) ↔ wgap g (sd x (t + 1)) = true := by
  obtain ⟨k, hk, hk2⟩ := sd_nI x t
  unfold wnv
  constructor
  · intro h
    by_cases h2 : wgap g (sd x (t + 1)) = true
    · exact h2
    · rw [if_neg h2, hk, q_div hk2 (by omega) (by omega)] at h
      exact absurd h (wv_vf (by omega) (Nat.lt_of_le_of_lt (Nat.div_le_self _ _) hk2)).2
  · intro h; rw [if_pos h]
theorem IMd_wS {S : Nat → Nat → Int32} (I : IMd S) (v n g : Nat) (x : Int32) (t : Nat) : IMd (wS S (fx v n 0) g x t) := by
  intro v' hv' n' hn' f' hf'
  unfold wS
  split
  · rename_i h
    have := wnv_vf g x (fx v' n' f' - fx v n 0)
    rw [show (fx v' n' f' - fx v n 0) % 4 = f' by unfold fx at *; omega] at this
    exact this
  · exact I v' hv' n' hn' f' hf'
theorem A_written {w : AW} {f : Nat} (z : Int32) (g : Nat) (hf : f < 4) : F_Di_written w (nI f) z = some (wv g f z) := by
  unfold F_Di_written wv
  simp (disch := omega) only [qL, ↓qM, q_int, q_eq]
  have : f = 0 ∨ f = 1 ∨ f = 2 ∨ f = 3 := by omega
  rcases this with e | e | e | e <;> subst e <;> simp
  split <;> rfl
