/-! PURE: THE INVARIANT between the class's cells, the reference's state, and what that state may be -/
def nS (S : Nat → Nat → Int32) : Nat := nat (S 0 29)
def nP (S : Nat → Nat → Int32) : Nat := nat (S 0 9)
def IMsy (S : Nat → Nat → Int32) : Prop := S 0 29 = nI (nS S) ∧ nS S ≤ 8 ∧ ∀ k, k < nS S → IMk S k
def IMpg (S : Nat → Nat → Int32) : Prop := S 0 9 = nI (nP S) ∧ nP S ≤ 80 ∧ ∀ i, i < nP S → S 8 i = nI (nat (S 8 i)) ∧ 1 ≤ nat (S 8 i) ∧ nat (S 8 i) ≤ 126
def IMle (S : Nat → Nat → Int32) : Prop := S 0 40 = nI (nat (S 0 40)) ∧ nat (S 0 40) ≤ 12 ∧ S 0 45 = nI (nat (S 0 45)) ∧ nat (S 0 45) ≤ 2 ∧ S 0 41 = nI (if nat (S 0 40) = 0 then 0 else 1) ∧ (nat (S 0 40) = 0 → nat (S 0 45) = 0) ∧ (nat (S 0 40) ≠ 0 → S 26 1 = S 0 45 ∧ (S 26 0 = nI 0 ∨ S 26 0 = nI 1))
/-- what the reference's state may be -/
def IM (S : Nat → Nat → Int32) : Prop := IMf S ∧ IMs S ∧ IMd S ∧ IMpg S ∧ IMsy S ∧ IMle S
def PgA (S : Nat → Nat → Int32) (w : AW) : Prop := wi w 23 0 = S 0 9 ∧ ∀ i, i < nP S → wi w 24 i = S 8 i
def SyA (S : Nat → Nat → Int32) (w : AW) : Prop := wi w 16 4 = S 0 29 ∧ ∀ k, k < nS S → SyK S w k (wr w 37 k)
def LeA (S : Nat → Nat → Int32) (w : AW) : Prop := wi w 136 0 = S 0 40 ∧ wi w 136 11 = S 0 45 ∧ (nat (S 0 40) ≠ 0 → wi w 136 12 = S 26 0 ∧ wi w 136 13 = S 26 2 ∧ wi w 136 1 = S 26 3 ∧ wi w 136 14 = S 26 4 ∧ wi w 136 15 = S 26 5) ∧ ∀ i, i < nat (S 0 45) → (nI 2 * wi w 149 i) + (if wi w 150 i = nI 0 then nI 0 else nI 1) = S 25 i
def wvl (t x : Bool) : Int32 := if t = true then nI x.toNat else mI 1
def AlA (S : Nat → Nat → Int32) (w : AW) : Prop := ∀ a, a < 6 → wi w (241 + 5 * a) 0 = S 6 a ∧ ∀ n, n < 1461 → S 7 (1461 * a + n) = wvl (gD w (242 + 5 * a) n) (gD w (244 + 5 * a) n)
/-- the class holds what the reference holds -/
def IA (S : Nat → Nat → Int32) (w : AW) : Prop := CalA S w ∧ DiaA S w ∧ PgA S w ∧ SyA S w ∧ LeA S w ∧ AlA S w ∧ WFs w
def Inv (L : Nat) (xs : Nat → Int32) (S : Nat → Nat → Int32) (w : AW) : Prop := Top L xs w ∧ RA S w ∧ IM S ∧ IA S w
/-- the class's state is the same -/
def KF (w v : AW) : Prop := (∀ a i, a < 271 → wi v a i = wi w a i) ∧ (∀ a i, wr v a i = wr w a i) ∧ (∀ a, 241 ≤ a → ∀ n, gD v a n = gD w a n) ∧ (WFs w → WFs v)
theorem CP_kf {w v : AW} {c : Nat} {P : List (Nat × Int)} (h : KF w v) (hc : c < 269) (hP : CP w c P) : CP v c P := by
  unfold CP at *
  rw [h.1 c _ (by omega)]
  refine ⟨hP.1, hP.2.1, fun i m z hi => ?_⟩
  rw [h.1 (c + 1) _ (by omega), h.1 (c + 2) _ (by omega)]
  exact hP.2.2 i m z hi
theorem SyK_kf {S : Nat → Nat → Int32} {w v : AW} {k s : Nat} (h : KF w v) (hs : s < 265) (K : SyK S w k s) : SyK S v k s := by
  obtain ⟨⟨P, p1, p2⟩, ⟨Q, q1, q2⟩, k3⟩ := K
  refine ⟨⟨P, CP_kf h (by omega) p1, p2⟩, ⟨Q, CP_kf h (by omega) q1, q2⟩, ?_⟩
  rw [h.1 (s + 1) _ (by omega), h.1 (s + 4) _ (by omega), h.1 s _ (by omega), h.1 s _ (by omega), h.1 s _ (by omega), h.1 s _ (by omega), h.1 s _ (by omega), h.1 s _ (by omega), h.1 (s + 1) _ (by omega), h.1 (s + 4) _ (by omega), h.1 (s + 1) _ (by omega), h.1 (s + 4) _ (by omega)]
  exact k3
theorem IA_kf {L : Nat} {xs : Nat → Int32} {S : Nat → Nat → Int32} {w v : AW} (T : Top L xs w) (Is : IMsy S) (h : KF w v) (A : IA S w) : IA S v := by
  obtain ⟨a1, a2, a3, a4, a5, a6, a7⟩ := A
  refine ⟨?_, ?_, ?_, ?_, ?_, ?_, h.2.2.2 a7⟩
  · refine ⟨by rw [h.1 17 _ (by omega)]; exact a1.1, fun s hs => ?_⟩
    rw [h.1 18 _ (by omega), h.1 19 _ (by omega), h.1 20 _ (by omega), h.1 21 _ (by omega)]
    exact a1.2 s hs
  · intro u hu n hn f hf
    rw [h.1 (180 + 2 * u) _ (by omega)]
    exact a2 u hu n hn f hf
  · refine ⟨by rw [h.1 23 _ (by omega)]; exact a3.1, fun i hi => ?_⟩
    rw [h.1 24 _ (by omega)]
    exact a3.2 i hi
  · refine ⟨by rw [h.1 16 _ (by omega)]; exact a4.1, fun k hk => ?_⟩
    rw [h.2.1 37 k]
    have r := STab_rng _ (T.p.1 k (by have := Is.2.1; omega))
    exact SyK_kf h (by omega) (a4.2 k hk)
  · unfold LeA at *
    simp only [h.1 136 _ (by omega), h.1 149 _ (by omega), h.1 150 _ (by omega)]
    exact a5
  · intro a ha
    rw [h.1 (241 + 5 * a) _ (by omega)]
    refine ⟨(a6 a ha).1, fun n hn => ?_⟩
    rw [h.2.2.1 (242 + 5 * a) (by omega), h.2.2.1 (244 + 5 * a) (by omega)]
    exact (a6 a ha).2 n hn
theorem RS_eq {w v : AW} (h : ∀ a i, 271 ≤ a → wi v a i = wi w a i) : RS v = RS w := by
  unfold RS
  funext r i
  rw [h 271 _ (by omega), h (271 + r) _ (by omega)]
theorem Inv.df {L : Nat} {xs : Nat → Int32} {S : Nat → Nat → Int32} {w v : AW} {A : Nat → Prop} (I : Inv L xs S w) (h : DF A w v) (hA : ∀ a, A a → a < 200) : Inv L xs S v := by
  obtain ⟨T, R, M, B⟩ := I
  refine ⟨T.sh h.sh, ?_, M, IA_kf T M.2.2.2.2.1 ⟨fun a i _ => h.wi a i, h.2.2.2.2.1, fun a ha n => h.g (fun q => by have := hA a q; omega) n, fun W => h.wfs W⟩ B⟩
  unfold RA
  rw [RS_eq (fun a i _ => h.wi a i)]
  exact R
theorem AF.kf {w v : AW} (h : AF w v) : KF w v := by
  refine ⟨h.2.2.2.2.2.2, h.2.2.2.2.1, fun a _ n => ?_, fun W a ha => ?_⟩
  · unfold gD; rw [h.2.2.2.2.2.1]
  · intro j hj; rw [h.2.2.2.2.2.1]; exact W a ha j hj
/-- behind the reference's call: its new state, if the class holds that one already -/
theorem Inv.mq {L : Nat} {xs : Nat → Int32} {S' : Nat → Nat → Int32} {w v : AW} (T : Top L xs w) (M : IM S') (B : IA S' w) (h : AF w v) (R : RA S' v) : Inv L xs S' v :=
  ⟨T.sh h.sh, R, M, IA_kf T M.2.2.2.2.1 h.kf B⟩
/-- one call on both sides: the same answer, and the invariant again -/
def STEP (L : Nat) (xs : Nat → Int32) (w : AW) (FA FM : AW → Option (Int32 × AW)) : Prop := ∃ r w1 w2 S', FA w = some (r, w1) ∧ Top L xs w1 ∧ FM w1 = some (r, w2) ∧ Inv L xs S' w2
/-- a call that neither side writes at -/
theorem STEP.pure {L : Nat} {xs : Nat → Int32} {S : Nat → Nat → Int32} {w : AW} (I : Inv L xs S w) {FA FM : AW → Option (Int32 × AW)} {r : Int32} (h1 : FA w = some (r, w)) (h2 : FM w = some (r, w)) : STEP L xs w FA FM := ⟨r, w, w, S, h1, I.1, h2, I⟩
theorem STEP.query {L : Nat} {xs : Nat → Int32} {S : Nat → Nat → Int32} {w w1 w2 : AW} {FA FM : AW → Option (Int32 × AW)} {r : Int32} {A : Nat → Prop} (I : Inv L xs S w) (h1 : FA w = some (r, w1)) (hd : DF A w w1) (hA : ∀ a, A a → a < 200) (h2 : FM w1 = some (r, w2)) (hq : MQs S w1 w2) : STEP L xs w FA FM :=
  have J := I.df hd hA
  ⟨r, w1, w2, S, h1, J.1, h2, Inv.mq J.1 J.2.2.1 J.2.2.2 hq.1 hq.2⟩
/-! arguments -/
theorem isLit : (0 : Int32).toInt = 0 ∧ (1 : Int32).toInt = 1 ∧ (2 : Int32).toInt = 2 ∧ (3 : Int32).toInt = 3 ∧ (5 : Int32).toInt = 5 ∧ (7 : Int32).toInt = 7 ∧ (12 : Int32).toInt = 12 ∧ (31 : Int32).toInt = 31 ∧ (1460 : Int32).toInt = 1460 ∧ (1000 : Int32).toInt = 1000 ∧ (15 : Int32).toInt = 15 ∧ (9999 : Int32).toInt = 9999 ∧ (400 : Int32).toInt = 400 ∧ (100 : Int32).toInt = 100 ∧ (-30 : Int32).toInt = -30 ∧ (30 : Int32).toInt = 30 ∧ (-1 : Int32).toInt = -1 := by decide +kernel
theorem A_year (x : Int32) : (F_A_isYear x = nI 0) = ¬ (0 ≤ x.toInt ∧ x.toInt ≤ 3) := by
  unfold F_A_isYear; rw [A_within_b, isLit.1, isLit.2.2.2.1, q_b0]; simp
theorem A_month (x : Int32) : (F_A_isMonth x = nI 0) = ¬ (1 ≤ x.toInt ∧ x.toInt ≤ 12) := by
  unfold F_A_isMonth; rw [A_within_b, isLit.2.1, isLit.2.2.2.2.2.2.1, q_b0]; simp
theorem A_date (x : Int32) : (F_A_isDate x = nI 0) = ¬ (1 ≤ x.toInt ∧ x.toInt ≤ 31) := by
  unfold F_A_isDate; rw [A_within_b, isLit.2.1, isLit.2.2.2.2.2.2.2.1, q_b0]; simp
theorem A_day (x : Int32) : (F_A_isDay x = nI 0) = ¬ (0 ≤ x.toInt ∧ x.toInt ≤ 1460) := by
  unfold F_A_isDay; rw [A_within_b, isLit.1, isLit.2.2.2.2.2.2.2.2.1, q_b0]; simp
theorem A_field (x : Int32) : (F_A_isField x = nI 0) = ¬ (0 ≤ x.toInt ∧ x.toInt ≤ 3) := by
  unfold F_A_isField; rw [A_within_b, isLit.1, isLit.2.2.2.1, q_b0]; simp
theorem A_wi (x a b : Int32) : (F_A_within x a b = nI 0) = ¬ (a.toInt ≤ x.toInt ∧ x.toInt ≤ b.toInt) := by
  rw [A_within_b, q_b0]; simp
theorem M_wi (x : Int32) (a b : Int64) : (F_M_in (Int32.toInt64 x) a b = nI 0) = ¬ (a.toInt ≤ x.toInt ∧ x.toInt ≤ b.toInt) := by
  rw [M_in_b, q_b0]; simp
theorem M_valley (x : Int32) : (F_M_isValley x = nI 0) = ¬ (0 ≤ x.toInt ∧ x.toInt ≤ 2) := by
  unfold F_M_isValley; rw [M_wi]; simp only [qLJ]
theorem M_day (x : Int32) : (F_M_isDay x = nI 0) = ¬ (0 ≤ x.toInt ∧ x.toInt ≤ 1460) := by
  unfold F_M_isDay; rw [M_wi]; simp only [qLJ]
/-- a diary's object, or none -/
theorem A_diaryOf {L : Nat} {xs : Nat → Int32} {w : AW} (T : Top L xs w) (x : Int32) : F_A_diaryOf w 16 x = some (if 0 ≤ x.toInt ∧ x.toInt ≤ 2 then 179 + 2 * nat x else 0) := by
  unfold F_A_diaryOf
  simp only [show (0 : Int32) = nI 0 from rfl, A_wi, show (2 : Int32).toInt = 2 from rfl, show (nI 0).toInt = 0 from rfl]
  by_cases h : 0 ≤ x.toInt ∧ x.toInt ≤ 2
  · rw [if_neg (not_not_intro h), if_pos h]
    obtain ⟨v, rfl, hv⟩ := q_of h.1 (n := 2) h.2 (by omega)
    rw [nat_nI (by omega)]
    have tv := tV T (show v < 3 by omega)
    simp (disch := omega) only [t16 T, tDi T, q_inb, q_nat, tv, gd_true, beq_self_eq_true, bd_s, if_true, if_false, ↓reduceIte, ite_true, ite_false, Bool.and_self, Bool.and_true, Bool.true_and, Nat.reduceBEq, Bool.or_true, Bool.true_or, Bool.or_self]
  · rw [if_pos h, if_neg h]
theorem A_sayingOf {L : Nat} {xs : Nat → Int32} {w : AW} (T : Top L xs w) {S : Nat → Nat → Int32} (Is : IMsy S) (A : SyA S w) (x : Int32) : F_A_sayingOf w 16 x = some (if 0 ≤ x.toInt ∧ x.toInt < nS S then wr w 37 (nat x) else 0) := by
  have h8 := Is.2.1
  unfold F_A_sayingOf
  by_cases h0 : 0 ≤ x.toInt
  · rw [q_ofI h0]
    have hx := Int32.toInt_lt x
    simp (disch := omega) only [qL, ↓qM, q_lt, q_le, t16 T, tSy T, A.1, Is.1, gd_true, beq_self_eq_true, bd_s, if_true, if_false, ↓reduceIte, ite_true, ite_false, Bool.and_self, Bool.and_true, Bool.true_and, Nat.reduceBEq, Bool.or_true, Bool.true_or, Bool.or_self]
    rw [if_neg (by omega)]
    by_cases h1 : nS S ≤ x.toInt.toNat
    · rw [if_pos h1, if_neg (by rw [nI_toInt (by omega)]; omega)]
    · rw [if_neg h1, if_neg (by omega), if_pos (by rw [nI_toInt (by omega)]; omega), gd_t (q_inb (by omega) (by omega)), q_nat (by omega), nat_nI (by omega)]
  · have : x < 0 := by rw [Int32.lt_iff_toInt_lt]; show x.toInt < 0; omega
    rw [if_pos this, if_neg (by omega)]
theorem M_isSaying {L : Nat} {xs : Nat → Int32} {w : AW} (T : Top L xs w) {S : Nat → Nat → Int32} (R : RA S w) (Is : IMsy S) (x : Int32) : F_M_isSaying w 271 x = some (nI (decide (0 ≤ x.toInt ∧ x.toInt < nS S)).toNat) := by
  have h8 := Is.2.1
  unfold F_M_isSaying
  simp only [mK T, M_in_b, qLJ, rf29 R, Is.1, Int32.toInt_toInt64, qL, ↓qM, gd_true, beq_self_eq_true, bd_s, if_true, if_false, ↓reduceIte, ite_true, ite_false, Bool.and_self, Bool.and_true, Bool.true_and, Nat.reduceBEq, Bool.or_true, Bool.true_or, Bool.or_self]
  have e : (nI (nS S) - nI 1).toInt = (nS S : Int) - 1 := by
    rw [Int32.toInt_sub, nI_toInt (by omega), nI_toInt (by omega)]
    exact Int.bmod_eq_of_le (by omega) (by omega)
  rw [e]
  exact congrArg (fun b : Bool => some (nI b.toNat)) (decide_eq_decide.mpr (by omega))
