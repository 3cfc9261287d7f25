/-! PURE: the reference's calendar; feasts -/
/-- the reference's state: what its calls leave for later ones -/
def KRow (r : Nat) : Bool := decide (1 ≤ r ∧ r ≤ 8) || decide (13 ≤ r ∧ r ≤ 16) || decide (23 ≤ r ∧ r ≤ 26)
def KFld (i : Nat) : Bool := decide (i = 0 ∨ i = 9 ∨ i = 29 ∨ i = 40 ∨ i = 41 ∨ i = 45)
def RS (w : AW) : Nat → Nat → Int32 := fun r i => if r = 0 then (if KFld i = true then wi w 271 i else 0) else if KRow r = true then wi w (271 + r) i else 0
def RA (S : Nat → Nat → Int32) (w : AW) : Prop := RS w = S
theorem RA.row {S : Nat → Nat → Int32} {w : AW} (h : RA S w) (r : Nat) (hr : (r ≠ 0 ∧ KRow r = true)) (i : Nat) : wi w (271 + r) i = S r i := by
  rw [← show RS w = S from h]
  unfold RS
  rw [if_neg hr.1, if_pos hr.2]
theorem RA.fld {S : Nat → Nat → Int32} {w : AW} (h : RA S w) (i : Nat) (hi : KFld i = true) : wi w 271 i = S 0 i := by
  rw [← show RS w = S from h]
  unfold RS
  rw [if_pos rfl, if_pos hi]
theorem ra1 {S : Nat → Nat → Int32} {w : AW} (h : RA S w) (i : Nat) : wi w 272 i = S 1 i := h.row 1 (by decide) i
theorem ra2 {S : Nat → Nat → Int32} {w : AW} (h : RA S w) (i : Nat) : wi w 273 i = S 2 i := h.row 2 (by decide) i
theorem ra3 {S : Nat → Nat → Int32} {w : AW} (h : RA S w) (i : Nat) : wi w 274 i = S 3 i := h.row 3 (by decide) i
theorem ra4 {S : Nat → Nat → Int32} {w : AW} (h : RA S w) (i : Nat) : wi w 275 i = S 4 i := h.row 4 (by decide) i
theorem ra5 {S : Nat → Nat → Int32} {w : AW} (h : RA S w) (i : Nat) : wi w 276 i = S 5 i := h.row 5 (by decide) i
theorem ra6 {S : Nat → Nat → Int32} {w : AW} (h : RA S w) (i : Nat) : wi w 277 i = S 6 i := h.row 6 (by decide) i
theorem ra7 {S : Nat → Nat → Int32} {w : AW} (h : RA S w) (i : Nat) : wi w 278 i = S 7 i := h.row 7 (by decide) i
theorem ra8 {S : Nat → Nat → Int32} {w : AW} (h : RA S w) (i : Nat) : wi w 279 i = S 8 i := h.row 8 (by decide) i
theorem ra13 {S : Nat → Nat → Int32} {w : AW} (h : RA S w) (i : Nat) : wi w 284 i = S 13 i := h.row 13 (by decide) i
theorem ra14 {S : Nat → Nat → Int32} {w : AW} (h : RA S w) (i : Nat) : wi w 285 i = S 14 i := h.row 14 (by decide) i
theorem ra15 {S : Nat → Nat → Int32} {w : AW} (h : RA S w) (i : Nat) : wi w 286 i = S 15 i := h.row 15 (by decide) i
theorem ra16 {S : Nat → Nat → Int32} {w : AW} (h : RA S w) (i : Nat) : wi w 287 i = S 16 i := h.row 16 (by decide) i
theorem ra23 {S : Nat → Nat → Int32} {w : AW} (h : RA S w) (i : Nat) : wi w 294 i = S 23 i := h.row 23 (by decide) i
theorem ra24 {S : Nat → Nat → Int32} {w : AW} (h : RA S w) (i : Nat) : wi w 295 i = S 24 i := h.row 24 (by decide) i
theorem ra25 {S : Nat → Nat → Int32} {w : AW} (h : RA S w) (i : Nat) : wi w 296 i = S 25 i := h.row 25 (by decide) i
theorem ra26 {S : Nat → Nat → Int32} {w : AW} (h : RA S w) (i : Nat) : wi w 297 i = S 26 i := h.row 26 (by decide) i
theorem rf0 {S : Nat → Nat → Int32} {w : AW} (h : RA S w) : wi w 271 0 = S 0 0 := h.fld 0 (by decide)
theorem rf9 {S : Nat → Nat → Int32} {w : AW} (h : RA S w) : wi w 271 9 = S 0 9 := h.fld 9 (by decide)
theorem rf29 {S : Nat → Nat → Int32} {w : AW} (h : RA S w) : wi w 271 29 = S 0 29 := h.fld 29 (by decide)
theorem rf40 {S : Nat → Nat → Int32} {w : AW} (h : RA S w) : wi w 271 40 = S 0 40 := h.fld 40 (by decide)
theorem rf41 {S : Nat → Nat → Int32} {w : AW} (h : RA S w) : wi w 271 41 = S 0 41 := h.fld 41 (by decide)
theorem rf45 {S : Nat → Nat → Int32} {w : AW} (h : RA S w) : wi w 271 45 = S 0 45 := h.fld 45 (by decide)
/-- all that lies outside the reference is the same -/
def AF (w v : AW) : Prop := wz v = wz w ∧ wq v = wq w ∧ (∀ a, wk v a = wk w a) ∧ (∀ a, wn v a = wn w a) ∧ (∀ a i, wr v a i = wr w a i) ∧ (∀ a i, wj v a i = wj w a i) ∧ (∀ a i, a < 271 → wi v a i = wi w a i)
theorem AF.refl (w : AW) : AF w w := ⟨rfl, rfl, fun _ => rfl, fun _ => rfl, fun _ _ => rfl, fun _ _ => rfl, fun _ _ _ => rfl⟩
theorem AF.trans {u v w : AW} (h : AF u v) (g : AF v w) : AF u w := ⟨g.1.trans h.1, g.2.1.trans h.2.1, fun a => (g.2.2.1 a).trans (h.2.2.1 a), fun a => (g.2.2.2.1 a).trans (h.2.2.2.1 a), fun a i => (g.2.2.2.2.1 a i).trans (h.2.2.2.2.1 a i), fun a i => (g.2.2.2.2.2.1 a i).trans (h.2.2.2.2.2.1 a i), fun a i ha => (g.2.2.2.2.2.2 a i ha).trans (h.2.2.2.2.2.2 a i ha)⟩
theorem AF.sh {w v : AW} (h : AF w v) : Sh w v := ⟨h.1, h.2.1, h.2.2.1, h.2.2.2.1, h.2.2.2.2.1, fun a i ha => h.2.2.2.2.2.2 a i (by omega)⟩
theorem AF.upI (w : AW) {a : Nat} (i : Nat) (x : Int32) (h : 271 ≤ a) : AF w (upI w a i x) := ⟨rfl, rfl, fun _ => rfl, fun _ => rfl, fun _ _ => rfl, fun _ _ => rfl, fun b j hb => by rw [wi_upI, if_neg (fun e => by omega)]⟩
theorem AF.rowI (w : AW) {a : Nat} (f : Nat → Int32) (h : 271 ≤ a) : AF w (rowI w a f) := ⟨rfl, rfl, fun _ => rfl, fun _ => rfl, fun _ _ => rfl, fun _ _ => rfl, fun b j hb => by rw [wi_rowI, if_neg (fun e => by omega)]⟩
/-- a row that is no state -/
theorem RA.ri {S : Nat → Nat → Int32} {w : AW} (h : RA S w) (r : Nat) (f : Nat → Int32) (hr : (1 ≤ r ∧ KRow r = false)) : RA S (rowI w (271 + r) f) := by
  rw [← show RS w = S from h]
  show RS _ = RS w
  unfold RS
  funext q i
  simp only [wi_rowI]
  by_cases h0 : q = 0
  · rw [if_pos h0, if_pos h0, if_neg (by omega : ¬ 271 = 271 + r)]
  · rw [if_neg h0, if_neg h0]
    by_cases h1 : KRow q = true
    · rw [if_pos h1, if_pos h1, if_neg (fun e => by rw [show q = r by omega] at h1; rw [hr.2] at h1; cases h1)]
    · rw [if_neg h1, if_neg h1]
theorem RA.ui {S : Nat → Nat → Int32} {w : AW} (h : RA S w) (r i : Nat) (x : Int32) (hr : (1 ≤ r ∧ KRow r = false)) : RA S (upI w (271 + r) i x) := by
  rw [upI_row]; exact h.ri r _ hr
theorem RA.uf {S : Nat → Nat → Int32} {w : AW} (h : RA S w) (i : Nat) (x : Int32) (hr : KFld i = false) : RA S (upI w 271 i x) := by
  rw [← show RS w = S from h]
  show RS _ = RS w
  unfold RS
  funext q j
  simp only [wi_upI]
  by_cases h0 : q = 0
  · rw [if_pos h0, if_pos h0]
    by_cases h1 : KFld j = true
    · rw [if_pos h1, if_pos h1, if_neg (fun e => by rw [e.2, hr] at h1; cases h1)]
    · rw [if_neg h1, if_neg h1]
  · rw [if_neg h0, if_neg h0, if_neg (fun e : 271 + q = 271 ∧ j = i => by omega)]
def nat (x : Int32) : Nat := x.toInt.toNat
theorem nat_nI {k : Nat} (h : k < 2147483648) : nat (nI k) = k := by unfold nat; rw [nI_toInt h]; rfl
/-- FIRST -/
def sF (S : Nat → Nat → Int32) : Nat := nat (S 0 0)
def IMf (S : Nat → Nat → Int32) : Prop := S 0 0 = nI (sF S) ∧ sF S < 4
theorem M_isLong {L : Nat} {xs : Nat → Int32} {w : AW} (T : Top L xs w) {S : Nat → Nat → Int32} (R : RA S w) (I : IMf S) {y : Nat} (hy : y < 8) : F_M_isLong w 271 (nI y) = some (nI (isL (sF S) y).toNat) := by
  have hf := I.2
  unfold F_M_isLong isL
  simp (disch := omega) only [qL, ↓qM, mK T, rf0 R, I.1, nI_add, q_rem, q_eq, gd_true, beq_self_eq_true, bd_s, if_true, if_false, ↓reduceIte, ite_true, ite_false, Bool.and_self, Bool.and_true, Bool.true_and, Nat.reduceBEq, Bool.or_true, Bool.true_or, Bool.or_self]
  by_cases h : (sF S + y) % 4 = 0
  · rw [if_pos h, h]; rfl
  · rw [if_neg h, show ((sF S + y) % 4 == 0) = false by simpa using h]; rfl
theorem M_length {L : Nat} {xs : Nat → Int32} {w : AW} (T : Top L xs w) {S : Nat → Nat → Int32} (R : RA S w) (I : IMf S) {y m : Nat} (hy : y < 8) (hm : m < 100) : F_M_length w 271 (nI y) (nI m) = some (nI (mln (sF S) y m)) := by
  unfold F_M_length
  rw [M_isLong T R I hy]
  simp (disch := omega) only [qL, ↓qM, mK T, q_eq, q_b0, gd_true, beq_self_eq_true, bd_s, if_true, if_false, ↓reduceIte, ite_true, ite_false, Bool.and_self, Bool.and_true, Bool.true_and, Nat.reduceBEq, Bool.or_true, Bool.true_or, Bool.or_self]
  unfold mln
  by_cases h2 : m = 2
  · rw [if_pos h2, if_pos h2]; cases isL (sF S) y <;> rfl
  · rw [if_neg h2, if_neg h2]
    by_cases h : m = 4 ∨ m = 6 ∨ m = 9 ∨ m = 11
    · rw [if_pos h]; rcases h with h | h | h | h <;> subst h <;> rfl
    · rw [if_neg h, if_neg (by omega), if_neg (by omega), if_neg (by omega), if_neg (by omega)]
theorem M_begin {L : Nat} {xs : Nat → Int32} {w : AW} (T : Top L xs w) {S : Nat → Nat → Int32} (R : RA S w) (I : IMf S) {y m : Nat} (hy : y < 4) (h1 : 1 ≤ m) (hm : m ≤ 13) : F_M_begin w 271 (nI y) (nI m) = some (nI (bg (sF S) y m)) := by
  have inner : ∀ k fu i, 1 ≤ i → i + k = m → k < fu → F_M_begin_41 w fu 271 (nI y) (nI m) (nI (bg (sF S) y i)) (nI i) = some (nI (bg (sF S) y m)) := by
    intro k
    induction k with
    | zero =>
      intro fu i hi1 hi hf
      obtain ⟨fu, rfl⟩ : ∃ m, fu = m + 1 := ⟨fu - 1, by omega⟩
      obtain rfl : i = m := by omega
      show F_M_begin_41_B (F_M_begin_41 w fu) w 271 _ _ _ _ = _
      unfold F_M_begin_41_B
      simp (disch := omega) only [qL, ↓qM, q_le]
      rw [if_pos (Nat.le_refl _)]
    | succ k ih =>
      intro fu i hi1 hi hf
      obtain ⟨fu, rfl⟩ : ∃ m, fu = m + 1 := ⟨fu - 1, by omega⟩
      show F_M_begin_41_B (F_M_begin_41 w fu) w 271 _ _ _ _ = _
      unfold F_M_begin_41_B
      rw [M_length T R I (by omega) (by omega)]
      simp (disch := omega) only [qL, ↓qM, q_le, nI_add, mK T, gd_true, beq_self_eq_true, bd_s, if_true, if_false, ↓reduceIte, ite_true, ite_false, Bool.and_self, Bool.and_true, Bool.true_and, Nat.reduceBEq, Bool.or_true, Bool.true_or, Bool.or_self]
      rw [if_neg (by omega), ← bg_s (sF S) y i hi1]
      exact ih fu (i + 1) (by omega) (by omega) (by omega)
  have outer : ∀ k fu i, i + k = y → k < fu → F_M_begin_5 w fu 271 (nI y) (nI m) (nI (yst (sF S) i)) (nI i) = some (nI (bg (sF S) y m)) := by
    intro k
    induction k with
    | zero =>
      intro fu i hi hf
      obtain ⟨fu, rfl⟩ : ∃ m, fu = m + 1 := ⟨fu - 1, by omega⟩
      obtain rfl : i = y := by omega
      show F_M_begin_5_B (F_M_begin_5 w fu) w 271 _ _ _ _ = _
      unfold F_M_begin_5_B
      simp (disch := omega) only [qL, ↓qM, q_le]
      rw [if_pos (Nat.le_refl _), ← bg_1]
      exact inner (m - 1) FUEL 1 (by omega) (by omega) (Nat.lt_of_le_of_lt (by omega : m - 1 ≤ 12) (by decide))
    | succ k ih =>
      intro fu i hi hf
      obtain ⟨fu, rfl⟩ : ∃ m, fu = m + 1 := ⟨fu - 1, by omega⟩
      show F_M_begin_5_B (F_M_begin_5 w fu) w 271 _ _ _ _ = _
      unfold F_M_begin_5_B
      rw [M_isLong T R I (by omega)]
      simp (disch := omega) only [qL, ↓qM, q_le, nI_add, mK T, q_b0, gd_true, beq_self_eq_true, bd_s, if_true, if_false, ↓reduceIte, ite_true, ite_false, Bool.and_self, Bool.and_true, Bool.true_and, Nat.reduceBEq, Bool.or_true, Bool.true_or, Bool.or_self]
      rw [if_neg (by omega), ← ih fu (i + 1) (by omega) (by omega), show yst (sF S) (i + 1) = yst (sF S) i + (if isL (sF S) i = true then 366 else 365) from rfl]
      cases isL (sF S) i <;> simp
  exact outer y FUEL 0 (by omega) (Nat.lt_of_lt_of_le (by omega : y < 4) (by decide))
theorem M_dayOf {L : Nat} {xs : Nat → Int32} {w : AW} (T : Top L xs w) {S : Nat → Nat → Int32} (R : RA S w) (I : IMf S) {y m d : Nat} (hy : y < 4) (h1 : 1 ≤ m) (hm : m ≤ 12) (hd : 1 ≤ d) (hd2 : d ≤ 31) : F_M_dayOf w 271 (nI y) (nI m) (nI d) = some (if d ≤ mln (sF S) y m then nI (bg (sF S) y m + (d - 1)) else mI 1) := by
  have hl := mln_le (sF S) y m
  have hb := bg_le (sF S) y m
  unfold F_M_dayOf
  rw [M_length T R I (by omega) (by omega), M_begin T R I hy h1 (by omega)]
  simp (disch := omega) only [qL, ↓qM, q_lt, nI_add, mK T, pk_sub, gd_true, beq_self_eq_true, bd_s, if_true, if_false, ↓reduceIte, ite_true, ite_false, Bool.and_self, Bool.and_true, Bool.true_and, Nat.reduceBEq, Bool.or_true, Bool.true_or, Bool.or_self]
  by_cases h : d ≤ mln (sF S) y m
  · rw [if_neg (by omega), if_pos h, show bg (sF S) y m + d - 1 = bg (sF S) y m + (d - 1) by omega]
  · rw [if_pos (by omega), if_neg h]
theorem M_yearOf {L : Nat} {xs : Nat → Int32} {w : AW} (T : Top L xs w) {S : Nat → Nat → Int32} (R : RA S w) (I : IMf S) {n : Nat} (hn : n < 1461) : F_M_yearOf w 271 (nI n) = some (nI (yr (sF S) n)) := by
  have st : ∀ fu y, y < 4 → F_M_yearOf_2 w (fu + 1) 271 (nI n) (nI y) = if yst (sF S) y ≤ n then some (nI y) else F_M_yearOf_2 w fu 271 (nI n) (nI y + mI 1) := by
    intro fu y hy
    have := yst_le (sF S) y
    show F_M_yearOf_2_B (F_M_yearOf_2 w fu) w 271 _ _ = _
    unfold F_M_yearOf_2_B
    simp (disch := omega) only [qL, ↓qM, M_begin T R I, bg_1, q_le, mK T, gd_true, beq_self_eq_true, bd_s, if_true, if_false, ↓reduceIte, ite_true, ite_false, Bool.and_self, Bool.and_true, Bool.true_and, Nat.reduceBEq, Bool.or_true, Bool.true_or, Bool.or_self]
  have hy := yr_le (sF S) n
  have s := yr_spec I.2 hn
  have go : ∀ k fu, k < fu → yr (sF S) n + k < 4 → F_M_yearOf_2 w fu 271 (nI n) (nI (yr (sF S) n + k)) = some (nI (yr (sF S) n)) := by
    intro k
    induction k with
    | zero =>
      intro fu hf _
      obtain ⟨fu, rfl⟩ : ∃ m, fu = m + 1 := ⟨fu - 1, by omega⟩
      rw [st _ _ (by omega), Nat.add_zero, if_pos s.1]
    | succ k ih =>
      intro fu hf h4
      obtain ⟨fu, rfl⟩ : ∃ m, fu = m + 1 := ⟨fu - 1, by omega⟩
      rw [st _ _ (by omega), if_neg (by have := yst_mono (sF S) (show yr (sF S) n + 1 ≤ yr (sF S) n + (k + 1) by omega); omega), q_am (by omega)]
      exact ih fu (by omega) (by omega)
  unfold F_M_yearOf
  rw [l_3]
  have := go (3 - yr (sF S) n) FUEL (Nat.lt_of_le_of_lt (by omega : 3 - yr (sF S) n ≤ 3) (by decide)) (by omega)
  rw [show yr (sF S) n + (3 - yr (sF S) n) = 3 by omega] at this
  exact this
theorem M_monthOf {L : Nat} {xs : Nat → Int32} {w : AW} (T : Top L xs w) {S : Nat → Nat → Int32} (R : RA S w) (I : IMf S) {n : Nat} (hn : n < 1461) : F_M_monthOf w 271 (nI n) = some (nI (mo (sF S) n)) := by
  have hy := yr_le (sF S) n
  have st : ∀ fu m, 1 ≤ m → m ≤ 12 → F_M_monthOf_9 w (fu + 1) 271 (nI n) (nI (yr (sF S) n)) (nI m) = if bg (sF S) (yr (sF S) n) m ≤ n then some (nI m) else F_M_monthOf_9 w fu 271 (nI n) (nI (yr (sF S) n)) (nI m + mI 1) := by
    intro fu m h1 hm
    have := bg_le (sF S) (yr (sF S) n) m
    show F_M_monthOf_9_B (F_M_monthOf_9 w fu) w 271 _ _ _ = _
    unfold F_M_monthOf_9_B
    simp (disch := omega) only [qL, ↓qM, M_begin T R I, q_le, mK T, gd_true, beq_self_eq_true, bd_s, if_true, if_false, ↓reduceIte, ite_true, ite_false, Bool.and_self, Bool.and_true, Bool.true_and, Nat.reduceBEq, Bool.or_true, Bool.true_or, Bool.or_self]
  have s := mo_spec I.2 hn
  have go : ∀ k fu, k < fu → mo (sF S) n + k ≤ 12 → F_M_monthOf_9 w fu 271 (nI n) (nI (yr (sF S) n)) (nI (mo (sF S) n + k)) = some (nI (mo (sF S) n)) := by
    intro k
    induction k with
    | zero =>
      intro fu hf _
      obtain ⟨fu, rfl⟩ : ∃ m, fu = m + 1 := ⟨fu - 1, by omega⟩
      rw [st _ _ (by omega) (by omega), Nat.add_zero, if_pos s.1]
    | succ k ih =>
      intro fu hf h4
      obtain ⟨fu, rfl⟩ : ∃ m, fu = m + 1 := ⟨fu - 1, by omega⟩
      rw [st _ _ (by omega) (by omega), if_neg (by have := bg_mono (sF S) (yr (sF S) n) (show 1 ≤ mo (sF S) n + 1 by omega) (show mo (sF S) n + 1 ≤ mo (sF S) n + (k + 1) by omega); omega), q_am (by omega)]
      exact ih fu (by omega) (by omega)
  unfold F_M_monthOf
  simp (disch := omega) only [qL, ↓qM, mK T, M_yearOf T R I hn, gd_true, beq_self_eq_true, bd_s, if_true, if_false, ↓reduceIte, ite_true, ite_false, Bool.and_self, Bool.and_true, Bool.true_and, Nat.reduceBEq, Bool.or_true, Bool.true_or, Bool.or_self]
  have := go (12 - mo (sF S) n) FUEL (Nat.lt_of_le_of_lt (by omega : 12 - mo (sF S) n ≤ 12) (by decide)) (by omega)
  rw [show mo (sF S) n + (12 - mo (sF S) n) = 12 by omega] at this
  exact this
theorem M_dateOf {L : Nat} {xs : Nat → Int32} {w : AW} (T : Top L xs w) {S : Nat → Nat → Int32} (R : RA S w) (I : IMf S) {n : Nat} (hn : n < 1461) : F_M_dateOf w 271 (nI n) = some (nI (n - bg (sF S) (yr (sF S) n) (mo (sF S) n) + 1)) := by
  have hy := yr_le (sF S) n
  have hm := mo_spec I.2 hn
  unfold F_M_dateOf
  simp (disch := omega) only [qL, ↓qM, mK T, M_yearOf T R I hn, M_monthOf T R I hn, M_begin T R I, pk_sub, nI_add, gd_true, beq_self_eq_true, bd_s, if_true, if_false, ↓reduceIte, ite_true, ite_false, Bool.and_self, Bool.and_true, Bool.true_and, Nat.reduceBEq, Bool.or_true, Bool.true_or, Bool.or_self]
theorem M_yearEnd {L : Nat} {xs : Nat → Int32} {w : AW} (T : Top L xs w) {S : Nat → Nat → Int32} (R : RA S w) (I : IMf S) {y : Nat} (hy : y < 4) : F_M_yearEnd w 271 (nI y) = some (nI (yst (sF S) (y + 1))) := by
  unfold F_M_yearEnd
  simp (disch := omega) only [qL, ↓qM, q_eq, nI_add, mK T, gd_true, beq_self_eq_true, bd_s, if_true, if_false, ↓reduceIte, ite_true, ite_false, Bool.and_self, Bool.and_true, Bool.true_and, Nat.reduceBEq, Bool.or_true, Bool.true_or, Bool.or_self]
  by_cases h : y = 3
  · rw [if_pos h, h, yst_4 _ I.2]
  · rw [if_neg h]
    simp (disch := omega) only [M_begin T R I, bg_1, gd_true, beq_self_eq_true, bd_s, if_true, if_false, ↓reduceIte, ite_true, ite_false, Bool.and_self, Bool.and_true, Bool.true_and, Nat.reduceBEq, Bool.or_true, Bool.true_or, Bool.or_self]
/-- a feast's day: none is -1 -/
def fday (f y m d y0 : Nat) (k : Int) : Int :=
  if d ≤ mln f y m then (if 0 ≤ ((bg f y m + (d - 1) : Nat) : Int) + (if y0 ≤ y then k else 0) ∧ ((bg f y m + (d - 1) : Nat) : Int) + (if y0 ≤ y then k else 0) ≤ 1460 then ((bg f y m + (d - 1) : Nat) : Int) + (if y0 ≤ y then k else 0) else -1) else -1
def fv (v : Int) : Int32 := if 0 ≤ v then nI v.toNat else mI 1
def feS (S : Nat → Nat → Int32) (s y : Nat) : Int := fday (sF S) y (nat (S 1 s)) (nat (S 2 s)) (nat (S 3 s)) (S 4 s).toInt
def IMs (S : Nat → Nat → Int32) : Prop := ∀ s, s < 8 → (S 1 s = nI (nat (S 1 s)) ∧ 1 ≤ nat (S 1 s) ∧ nat (S 1 s) ≤ 12) ∧ (S 2 s = nI (nat (S 2 s)) ∧ 1 ≤ nat (S 2 s) ∧ nat (S 2 s) ≤ 31) ∧ (S 3 s = nI (nat (S 3 s)) ∧ nat (S 3 s) < 4) ∧ (-30 ≤ (S 4 s).toInt ∧ (S 4 s).toInt ≤ 30)
theorem fday_le (f y m d y0 : Nat) (k : Int) : fday f y m d y0 k ≤ 1460 := by
  unfold fday
  split
  · split <;> omega
  · omega
theorem fday_ge (f y m d y0 : Nat) (k : Int) : -1 ≤ fday f y m d y0 k := by
  unfold fday
  split
  · split <;> omega
  · omega
theorem q_addk {n : Nat} {k : Int32} (hn : n < 2000) (h1 : -30 ≤ k.toInt) (h2 : k.toInt ≤ 30) : (nI n + k).toInt = (n : Int) + k.toInt := by
  rw [Int32.toInt_add, nI_toInt (by omega)]
  exact Int.bmod_eq_of_le (by omega) (by omega)
theorem feast_end {n : Nat} {k : Int32} (hn : n < 2000) (h1 : -30 ≤ k.toInt) (h2 : k.toInt ≤ 30) : (if decide (0 ≤ (nI n + k).toInt ∧ (nI n + k).toInt ≤ 1460) = false then some (mI 1) else some (nI n + k)) = some (fv (if 0 ≤ (n : Int) + k.toInt ∧ (n : Int) + k.toInt ≤ 1460 then (n : Int) + k.toInt else -1)) := by
  have e := q_addk hn h1 h2
  rw [e]
  by_cases h : 0 ≤ (n : Int) + k.toInt ∧ (n : Int) + k.toInt ≤ 1460
  · rw [if_neg (by simpa using h), if_pos h]
    unfold fv
    rw [if_pos h.1, ← e]
    exact congrArg some (q_ofI (by rw [e]; exact h.1))
  · rw [if_pos (by simpa using h), if_neg h]; rfl
theorem M_feastOf {L : Nat} {xs : Nat → Int32} {w : AW} (T : Top L xs w) {S : Nat → Nat → Int32} (R : RA S w) (I : IMf S) (I2 : IMs S) {s y : Nat} (hs : s < 8) (hy : y < 4) : F_M_feastOf w 271 (nI s) (nI y) = some (fv (feS S s y)) := by
  obtain ⟨a1, a2, a3, a4⟩ := I2 s hs
  have hb := bg_le (sF S) y (nat (S 1 s))
  unfold F_M_feastOf F_M_feastOf_46
  simp (disch := omega) only [qL, ↓qM, mK T, mCal T, q_inb, q_nat, ra1 R, ra2 R, ra3 R, ra4 R, gd_true, beq_self_eq_true, bd_s, if_true, if_false, ↓reduceIte, ite_true, ite_false, Bool.and_self, Bool.and_true, Bool.true_and, Nat.reduceBEq, Bool.or_true, Bool.true_or, Bool.or_self]
  rw [a1.1, a2.1, a3.1, M_dayOf T R I hy a1.2.1 a1.2.2 a2.2.1 a2.2.2]
  unfold feS fday
  simp only [bd_s]
  by_cases h : nat (S 2 s) ≤ mln (sF S) y (nat (S 1 s))
  · rw [if_pos h, if_pos h]
    simp (disch := omega) only [q_nm, q_lt, gd_true, beq_self_eq_true, bd_s, if_true, if_false, ↓reduceIte, ite_true, ite_false, Bool.and_self, Bool.and_true, Bool.true_and, Nat.reduceBEq, Bool.or_true, Bool.true_or, Bool.or_self]
    unfold F_M_isDay
    simp only [M_in_b, qLJ, q_b0, qL, ↓qM]
    by_cases hy0 : nat (S 3 s) ≤ y
    · rw [if_neg (by omega), if_pos hy0]
      exact feast_end (by omega) a4.1 a4.2
    · rw [if_pos (by omega), if_neg hy0]
      exact feast_end (k := nI 0) (by omega) (by decide) (by decide)
  · rw [if_neg h, if_neg h]
    simp only [gd_true, beq_self_eq_true, bd_s, if_true, if_false, ↓reduceIte, ite_true, ite_false, Bool.and_self, Bool.and_true, Bool.true_and, Nat.reduceBEq, Bool.or_true, Bool.true_or, Bool.or_self]
    rfl
/-- the class's calendar holds what the reference holds -/
def CalA (S : Nat → Nat → Int32) (w : AW) : Prop := wi w 17 0 = S 0 0 ∧ ∀ s, s < 8 → wi w 18 s = S 1 s ∧ wi w 19 s = S 2 s ∧ wi w 20 s = S 3 s ∧ wi w 21 s = S 4 s
theorem CalA.cf {S : Nat → Nat → Int32} {w : AW} (C : CalA S w) (I : IMf S) : CF w (sF S) := ⟨C.1.trans I.1, I.2⟩
theorem A_feastDay {L : Nat} {xs : Nat → Int32} {w : AW} (T : Top L xs w) {S : Nat → Nat → Int32} (C : CalA S w) (I : IMf S) (I2 : IMs S) {s y : Nat} (hs : s < 8) (hy : y < 4) : F_Ca_feastDay w 17 (nI s) (nI y) = some (fv (feS S s y)) := by
  obtain ⟨a1, a2, a3, a4⟩ := I2 s hs
  obtain ⟨c1, c2, c3, c4⟩ := C.2 s hs
  have hb := bg_le (sF S) y (nat (S 1 s))
  unfold F_Ca_feastDay F_Ca_feastDay_59 F_A_isDay
  simp (disch := omega) only [qL, ↓qM, t17 T, q_inb, q_nat, c1, c2, c3, c4, A_within_b, q_int, q_b0, gd_true, beq_self_eq_true, bd_s, if_true, if_false, ↓reduceIte, ite_true, ite_false, Bool.and_self, Bool.and_true, Bool.true_and, Nat.reduceBEq, Bool.or_true, Bool.true_or, Bool.or_self]
  rw [if_neg (by simp; omega), a1.1, a2.1, a3.1, A_dayOf T (C.cf I) hy a1.2.1 a1.2.2 a2.2.1 a2.2.2]
  unfold feS fday
  simp only [bd_s]
  by_cases h : nat (S 2 s) ≤ mln (sF S) y (nat (S 1 s))
  · rw [if_pos h, if_pos h]
    simp (disch := omega) only [q_nm, q_lt, gd_true, beq_self_eq_true, bd_s, if_true, if_false, ↓reduceIte, ite_true, ite_false, Bool.and_self, Bool.and_true, Bool.true_and, Nat.reduceBEq, Bool.or_true, Bool.true_or, Bool.or_self]
    by_cases hy0 : nat (S 3 s) ≤ y
    · rw [if_neg (by omega), if_pos hy0]
      exact feast_end (by omega) a4.1 a4.2
    · rw [if_pos (by omega), if_neg hy0]
      have e := feast_end (n := bg (sF S) y (nat (S 1 s)) + (nat (S 2 s) - 1)) (k := nI 0) (by omega) (by decide) (by decide)
      rw [nI_add, Nat.add_zero] at e
      rw [show (nI 0).toInt = 0 from rfl] at e
      exact e
  · rw [if_neg h, if_neg h]
    simp only [gd_true, beq_self_eq_true, bd_s, if_true, if_false, ↓reduceIte, ite_true, ite_false, Bool.and_self, Bool.and_true, Bool.true_and, Nat.reduceBEq, Bool.or_true, Bool.true_or, Bool.or_self]
    rfl
