/-! PURE: conditions as programs on a stack; the class weighs them on sets of days -/
/-- one step on a stack, the uppermost first -/
def stp (c : Nat → Int → Bool) (m : Nat × Int) (st : List Bool) : List Bool :=
  if m.1 < 12 then c m.1 m.2 :: st
  else if m.1 = 12 then (match st with
    | b :: r => (!b) :: r
    | [] => [])
  else (match st with
    | a :: b :: r => (if m.1 = 13 then b && a else b || a) :: r
    | r => r)
def run (c : Nat → Int → Bool) : List (Nat × Int) → List Bool → List Bool
  | [], st => st
  | m :: r, st => run c r (stp c m st)
/-- the stack never runs dry nor over, and one is left -/
def okh (cap : Nat) : List (Nat × Int) → Nat → Prop
  | [], h => h = 1
  | m :: r, h => if m.1 < 12 then h < cap ∧ okh cap r (h + 1) else if m.1 = 12 then 1 ≤ h ∧ h ≤ cap ∧ okh cap r h else 2 ≤ h ∧ h ≤ cap ∧ okh cap r (h - 1)
/-- days' sets: what may have changed lies in A -/
def DF (A : Nat → Prop) (w v : AW) : Prop := wz v = wz w ∧ wq v = wq w ∧ (∀ a, wk v a = wk w a) ∧ (∀ a, wn v a = wn w a) ∧ (∀ a i, wr v a i = wr w a i) ∧ (∀ a i, wi v a i = wi w a i) ∧ (∀ b i, (∀ a, A a → b ≠ a + 1) → wj v b i = wj w b i) ∧ (∀ b, WF w b → WF v b)
theorem DF.refl (A : Nat → Prop) (w : AW) : DF A w w := ⟨rfl, rfl, fun _ => rfl, fun _ => rfl, fun _ _ => rfl, fun _ _ => rfl, fun _ _ _ => rfl, fun _ h => h⟩
theorem DF.trans {A : Nat → Prop} {u v w : AW} (h : DF A u v) (g : DF A v w) : DF A u w := ⟨g.1.trans h.1, g.2.1.trans h.2.1, fun a => (g.2.2.1 a).trans (h.2.2.1 a), fun a => (g.2.2.2.1 a).trans (h.2.2.2.1 a), fun a i => (g.2.2.2.2.1 a i).trans (h.2.2.2.2.1 a i), fun a i => (g.2.2.2.2.2.1 a i).trans (h.2.2.2.2.2.1 a i), fun b i hb => (g.2.2.2.2.2.2.1 b i hb).trans (h.2.2.2.2.2.2.1 b i hb), fun b hb => g.2.2.2.2.2.2.2 b (h.2.2.2.2.2.2.2 b hb)⟩
theorem DF.mono {A B : Nat → Prop} {w v : AW} (h : DF A w v) (hAB : ∀ a, A a → B a) : DF B w v := ⟨h.1, h.2.1, h.2.2.1, h.2.2.2.1, h.2.2.2.2.1, h.2.2.2.2.2.1, fun b i hb => h.2.2.2.2.2.2.1 b i (fun a ha => hb a (hAB a ha)), h.2.2.2.2.2.2.2⟩
theorem DF.set {A : Nat → Prop} (w : AW) {a : Nat} (P : Nat → Bool) (ha : A a) : DF A w (setD w a P) := ⟨rfl, rfl, fun _ => rfl, fun _ => rfl, fun _ _ => rfl, fun _ _ => rfl, fun b i hb => by rw [wj_setD, if_neg (hb a ha)], fun b hb => WF_setD a P (.inr hb)⟩
theorem DF.sh {A : Nat → Prop} {w v : AW} (h : DF A w v) : Sh w v := ⟨h.1, h.2.1, h.2.2.1, h.2.2.2.1, h.2.2.2.2.1, fun a i _ => h.2.2.2.2.2.1 a i⟩
theorem DF.g {A : Nat → Prop} {w v : AW} (h : DF A w v) {b : Nat} (hb : ¬ A b) (n : Nat) : gD v b n = gD w b n := by
  unfold gD
  rw [h.2.2.2.2.2.2.1 (b + 1) _ (fun a ha e => hb (by rw [show b = a by omega]; exact ha))]
theorem DF.wi {A : Nat → Prop} {w v : AW} (h : DF A w v) (a i : Nat) : wi v a i = wi w a i := h.2.2.2.2.2.1 a i
theorem DF.wf {A : Nat → Prop} {w v : AW} (h : DF A w v) {b : Nat} (hb : WF w b) : WF v b := h.2.2.2.2.2.2.2 b hb
theorem DF.dia {A : Nat → Prop} {w v : AW} {S : Nat → Nat → Int32} (h : DF A w v) (D : DiaA S w) : DiaA S v := fun u hu n hn f hf => by rw [h.wi]; exact D u hu n hn f hf
theorem DF.cal {A : Nat → Prop} {w v : AW} {S : Nat → Nat → Int32} (h : DF A w v) (C : CalA S w) : CalA S v := by
  unfold CalA at *
  simp only [h.wi]
  exact C
/-- the rows of Scales -/
def scA (a : Nat) : Prop := 40 ≤ a ∧ a ≤ 86
/-- a stack of days' sets -/
def SK (w : AW) (h : Nat) (st : Nat → List Bool) : Prop := ∀ n, n < 1461 → (st n).length = h ∧ ∀ j, j < h → gD w (40 + 2 * j) n = (st n).getD (h - 1 - j) false
/-- a comparison on sets: false where the field is a gap -/
def cA (S : Nat → Nat → Int32) (v n : Nat) (m : Nat) (z : Int) : Bool := !gp S v n (m / 3) && cmS S v n (m / 3) (m % 3) z
theorem cA_def (S : Nat → Nat → Int32) (v n m : Nat) (z : Int) : cA S v n m z = (!gp S v n (m / 3) && cmS S v n (m / 3) (m % 3) z) := rfl
/-- every set is whole -/
def WFs (w : AW) : Prop := ∀ a, a ∈ DTab → WF w a
theorem DF.wfs {A : Nat → Prop} {w v : AW} (h : DF A w v) (W : WFs w) : WFs v := fun a ha => h.wf (W a ha)
theorem sc_in {h : Nat} (hh : h < 24) : 40 + 2 * h ∈ DTab := (Sc_ok h hh).2
theorem A_take1 {L : Nat} {xs : Nat → Int32} {w : AW} (T : Top L xs w) (W : WFs w) {S : Nat → Nat → Int32} (D : DiaA S w) (I : IMd S) {v h m : Nat} {num : Int32} {st : Nat → List Bool} (hv : v < 3) (hn1 : -999 ≤ num.toInt) (hn2 : num.toInt ≤ 999) (K : SK w h st) (h12 : m < 12) (hh : h < 24) : ∃ w', F_Sc_take 38 (nI m) num (179 + 2 * v) (nI h) w = some (nI (h + 1), w') ∧ DF scA w w' ∧ SK w' (h + 1) (fun n => stp (cA S v n) (m, num.toInt) (st n)) := by
  have t := tS T hh
  refine ⟨setD w (40 + 2 * h) (fun n => !gp S v n (m / 3) && cmS S v n (m / 3) (m % 3) num.toInt), ?_, DF.set w _ ⟨by omega, by omega⟩, ?_⟩
  · unfold F_Sc_take F_Co_fieldOf F_Co_orderOf
    simp (disch := omega) only [qL, ↓qM, q_le, q_lt, q_div, q_rem, t38 T, q_inb, q_nat, t.1, tV T hv, nI_add, gd_true, beq_self_eq_true, bd_s, if_true, if_false, ↓reduceIte, ite_true, ite_false, Bool.and_self, Bool.and_true, Bool.true_and, Nat.reduceBEq, Bool.or_true, Bool.true_or, Bool.or_self]
    rw [if_neg (by omega), if_neg (by omega), if_pos hh]
    rw [A_findCompared T D I hv (show m / 3 < 4 by omega) (show m % 3 < 3 by omega) hn1 hn2 t.2, Option.bind_some]
  · intro n hn
    obtain ⟨k1, k2⟩ := K n hn
    have e : stp (cA S v n) (m, num.toInt) (st n) = cA S v n m num.toInt :: st n := by unfold stp; rw [if_pos h12]
    dsimp only
    rw [e]
    refine ⟨by rw [List.length_cons, k1], fun j hj => ?_⟩
    by_cases hjh : j = h
    · subst hjh
      rw [gD_eq _ _ _ hn, show j + 1 - 1 - j = 0 by omega, List.getD_cons_zero, cA_def]
    · rw [gD_ne _ _ _ (by omega), k2 j (by omega), show h + 1 - 1 - j = (h - 1 - j) + 1 by omega]; rfl
theorem A_take2 {L : Nat} {xs : Nat → Int32} {w : AW} (T : Top L xs w) (W : WFs w) {S : Nat → Nat → Int32} (D : DiaA S w) (I : IMd S) {v h m : Nat} {num : Int32} {st : Nat → List Bool} (hv : v < 3) (K : SK w h st) (he : m = 12) (hh : 1 ≤ h ∧ h ≤ 24) : ∃ w', F_Sc_take 38 (nI m) num (179 + 2 * v) (nI h) w = some (nI h, w') ∧ DF scA w w' ∧ SK w' h (fun n => stp (cA S v n) (m, num.toInt) (st n)) := by
  subst he
  have t := tS T (show h - 1 < 24 by omega)
  have wt := W _ (sc_in (show h - 1 < 24 by omega))
  refine ⟨setD w (40 + 2 * (h - 1)) (fun n => !gD w (40 + 2 * (h - 1)) n), ?_, DF.set w _ ⟨by omega, by omega⟩, ?_⟩
  · unfold F_Sc_take
    simp (disch := omega) only [qL, ↓qM, q_le, q_lt, A_within_b, q_int, q_b0, t38 T, pk_sub, q_inb, q_nat, t.1, t.2.1, D_turnOver t.2 wt, gd_true, beq_self_eq_true, bd_s, if_true, if_false, ↓reduceIte, ite_true, ite_false, Bool.and_self, Bool.and_true, Bool.true_and, Nat.reduceBEq, Bool.or_true, Bool.true_or, Bool.or_self]
    rw [if_pos (by omega), if_neg (by simp; omega)]
  · intro n hn
    obtain ⟨k1, k2⟩ := K n hn
    cases hs : st n with
    | nil => rw [hs] at k1; simp at k1; omega
    | cons b r =>
      have e : stp (cA S v n) (12, num.toInt) (b :: r) = (!b) :: r := by unfold stp; rfl
      rw [hs] at k1 k2
      dsimp only
      rw [hs, e]
      refine ⟨by simpa using k1, fun j hj => ?_⟩
      have k3 := k2 (h - 1) (by omega)
      rw [show h - 1 - (h - 1) = 0 by omega] at k3
      by_cases hjh : j = h - 1
      · rw [hjh, gD_eq _ _ _ hn, k3, show h - 1 - (h - 1) = 0 by omega]; rfl
      · rw [gD_ne _ _ _ (by omega), k2 j hj]
        obtain ⟨q, hq⟩ : ∃ q, h - 1 - j = q + 1 := ⟨h - 1 - j - 1, by omega⟩
        rw [hq]; rfl
theorem A_take3 {L : Nat} {xs : Nat → Int32} {w : AW} (T : Top L xs w) (W : WFs w) {S : Nat → Nat → Int32} (D : DiaA S w) (I : IMd S) {v h m : Nat} {num : Int32} {st : Nat → List Bool} (hv : v < 3) (K : SK w h st) (hm : m ≤ 14) (h12 : ¬ m < 12) (he : ¬ m = 12) (hh : 2 ≤ h ∧ h ≤ 24) : ∃ w', F_Sc_take 38 (nI m) num (179 + 2 * v) (nI h) w = some (nI (h - 1), w') ∧ DF scA w w' ∧ SK w' (h - 1) (fun n => stp (cA S v n) (m, num.toInt) (st n)) := by
  have t1 := tS T (show h - 1 < 24 by omega)
  have t2 := tS T (show h - 2 < 24 by omega)
  have wt1 := W _ (sc_in (show h - 1 < 24 by omega))
  have wt2 := W _ (sc_in (show h - 2 < 24 by omega))
  refine ⟨setD w (40 + 2 * (h - 2)) (fun n => if m = 13 then gD w (40 + 2 * (h - 2)) n && gD w (40 + 2 * (h - 1)) n else gD w (40 + 2 * (h - 2)) n || gD w (40 + 2 * (h - 1)) n), ?_, DF.set w _ ⟨by omega, by omega⟩, ?_⟩
  · unfold F_Sc_take
    simp (disch := omega) only [qL, ↓qM, q_le, q_lt, q_eq, A_within_b, q_int, q_b0, t38 T, pk_sub, q_inb, q_nat, t1.1, t2.1, t1.2.1, t2.2.1, D_meet t2.2 t1.2 wt2 wt1, D_join t2.2 t1.2 wt2 wt1, gd_true, beq_self_eq_true, bd_s, if_true, if_false, ↓reduceIte, ite_true, ite_false, Bool.and_self, Bool.and_true, Bool.true_and, Nat.reduceBEq, Bool.or_true, Bool.true_or, Bool.or_self]
    rw [if_pos (by omega), if_neg he, if_neg (by simp; omega)]
    by_cases h13 : m = 13
    · rw [if_pos h13]; simp only [if_pos h13]
    · rw [if_neg h13]; simp only [if_neg h13]
  · intro n hn
    obtain ⟨k1, k2⟩ := K n hn
    cases hs : st n with
    | nil => rw [hs] at k1; simp at k1; omega
    | cons a r0 =>
      cases r0 with
      | nil => rw [hs] at k1; simp at k1; omega
      | cons b r =>
        have e : stp (cA S v n) (m, num.toInt) (a :: b :: r) = (if m = 13 then b && a else b || a) :: r := by
          unfold stp; rw [if_neg h12, if_neg he]
        rw [hs] at k1 k2
        dsimp only
        rw [hs, e]
        refine ⟨by simp at k1 ⊢; omega, fun j hj => ?_⟩
        have k3 := k2 (h - 1) (by omega)
        rw [show h - 1 - (h - 1) = 0 by omega] at k3
        have k4 := k2 (h - 2) (by omega)
        rw [show h - 1 - (h - 2) = 1 by omega] at k4
        by_cases hjh : j = h - 2
        · rw [hjh, gD_eq _ _ _ hn, k3, k4, show h - 1 - 1 - (h - 2) = 0 by omega]; rfl
        · rw [gD_ne _ _ _ (by omega), k2 j (by omega)]
          obtain ⟨q, hq⟩ : ∃ q, h - 1 - j = q + 2 := ⟨h - 1 - j - 2, by omega⟩
          rw [hq, show h - 1 - 1 - j = q + 1 by omega]; rfl
theorem A_take {L : Nat} {xs : Nat → Int32} {w : AW} (T : Top L xs w) (W : WFs w) {S : Nat → Nat → Int32} (D : DiaA S w) (I : IMd S) {v h m : Nat} {num : Int32} {st : Nat → List Bool} (hv : v < 3) (hm : m ≤ 14) (hn1 : -999 ≤ num.toInt) (hn2 : num.toInt ≤ 999) (K : SK w h st) (hh : if m < 12 then h < 24 else if m = 12 then 1 ≤ h ∧ h ≤ 24 else 2 ≤ h ∧ h ≤ 24) : ∃ w', F_Sc_take 38 (nI m) num (179 + 2 * v) (nI h) w = some (nI (if m < 12 then h + 1 else if m = 12 then h else h - 1), w') ∧ DF scA w w' ∧ SK w' (if m < 12 then h + 1 else if m = 12 then h else h - 1) (fun n => stp (cA S v n) (m, num.toInt) (st n)) := by
  by_cases h12 : m < 12
  · rw [if_pos h12] at hh ⊢
    exact A_take1 T W D I hv hn1 hn2 K h12 hh
  · by_cases he : m = 12
    · rw [if_neg h12, if_pos he] at hh ⊢
      exact A_take2 T W D I hv K he hh
    · rw [if_neg h12, if_neg he] at hh ⊢
      exact A_take3 T W D I hv K hm h12 he hh
/-- a condition of the class holds a program -/
def CP (w : AW) (c : Nat) (P : List (Nat × Int)) : Prop := wi w c 2 = nI P.length ∧ P.length ≤ 80 ∧ ∀ i m z, P[i]? = some (m, z) → wi w (c + 1) i = nI m ∧ (wi w (c + 2) i).toInt = z ∧ m ≤ 14 ∧ -999 ≤ z ∧ z ≤ 999
theorem A_stepAt {w : AW} {c i m : Nat} {z : Int} {P : List (Nat × Int)} (tc : TC w c) (hP : CP w c P) (hi : P[i]? = some (m, z)) : F_Co_stepAt w c (nI i) = some (nI m) ∧ ∃ num, F_Co_numberAt w c (nI i) = some num ∧ num.toInt = z := by
  have hlt : i < P.length := by
    rw [List.getElem?_eq_some_iff] at hi; exact hi.1
  have h80 := hP.2.1
  obtain ⟨p1, p2, p3⟩ := hP.2.2 i m z hi
  constructor
  · unfold F_Co_stepAt
    simp (disch := omega) only [qL, ↓qM, A_within_b, q_int, q_b0, tc.1, tc.2.1, tc.2.2.2.1, tc.2.2.2.2.1, q_inb, q_nat, p1, gd_true, beq_self_eq_true, bd_s, if_true, if_false, ↓reduceIte, ite_true, ite_false, Bool.and_self, Bool.and_true, Bool.true_and, Nat.reduceBEq, Bool.or_true, Bool.true_or, Bool.or_self]
    rw [if_neg (by simp; omega)]
  · refine ⟨wi w (c + 2) i, ?_, p2⟩
    unfold F_Co_numberAt
    simp (disch := omega) only [qL, ↓qM, A_within_b, q_int, q_b0, tc.1, tc.2.2.1, tc.2.2.2.2.2.1, tc.2.2.2.2.2.2, q_inb, q_nat, gd_true, beq_self_eq_true, bd_s, if_true, if_false, ↓reduceIte, ite_true, ite_false, Bool.and_self, Bool.and_true, Bool.true_and, Nat.reduceBEq, Bool.or_true, Bool.true_or, Bool.or_self]
    rw [if_neg (by simp; omega)]
theorem A_weigh {L : Nat} {xs : Nat → Int32} {w : AW} (T : Top L xs w) (W : WFs w) {S : Nat → Nat → Int32} (D : DiaA S w) (I : IMd S) {v c a b k : Nat} {P : List (Nat × Int)} (hv : v < 3) (hc : c ∈ CTab) (hP : CP w c P) (hk : wi w c 3 = nI k) (hk2 : k < 16) (hok : okh 24 P 0) (ha : a ∈ DTab) (hb : b ∈ DTab) (hab : a ≠ b) (ha2 : ¬ scA a) (hb2 : ¬ scA b) : ∃ w', F_Sc_weigh 38 c (179 + 2 * v) a b w = some w' ∧ DF (fun x => scA x ∨ x = a ∨ x = b) w w' ∧ (∀ n, n < 1461 → gD w' a n = !opn S v k n 4) ∧ (∀ n, n < 1461 → gD w' b n = ((run (cA S v n) P []).getD 0 false && !opn S v k n 4)) := by
  have loop : ∀ (Q : List (Nat × Int)) fu i h (u : AW) (st : Nat → List Bool), P.drop i = Q → Q.length < fu → i ≤ P.length → okh 24 Q h → DF scA w u → SK u h st → ∃ w', F_Sc_weigh_6 fu 38 c (179 + 2 * v) a b (nI h) (nI i) u = some w' ∧ DF (fun x => scA x ∨ x = a ∨ x = b) w w' ∧ (∀ n, n < 1461 → gD w' a n = !opn S v k n 4) ∧ (∀ n, n < 1461 → gD w' b n = ((run (cA S v n) Q (st n)).getD 0 false && !opn S v k n 4)) := by
    intro Q
    induction Q with
    | nil =>
      intro fu i h u st hd hf hi ho hu K
      obtain ⟨fu, rfl⟩ : ∃ m, fu = m + 1 := ⟨fu - 1, by omega⟩
      have hil : P.length ≤ i := by
        have := congrArg List.length hd
        simp at this; omega
      have h80 := hP.2.1
      have h1 : h = 1 := ho
      have T1 := T.sh hu.sh
      have tc := tC T1 hc
      have ta := tD T1 ha
      have tb := tD T1 hb
      have t0 := tS T1 (show 0 < 24 by omega)
      have wa := hu.wf (W a ha)
      have wb := hu.wf (W b hb)
      have w0 := hu.wf (W _ (sc_in (show 0 < 24 by omega)))
      refine ⟨setD (setD u a (fun n => !opn S v k n 4)) b (fun n => gD u 40 n && !opn S v k n 4), ?_, ?_, ?_, ?_⟩
      · show F_Sc_weigh_6_B (F_Sc_weigh_6 fu) _ _ _ _ _ _ _ u = _
        unfold F_Sc_weigh_6_B
        simp (disch := omega) only [qL, ↓qM, hu.wi, hP.1, q_le, hk, tc.1, tV T1 hv, A_findKnown T1 (hu.dia D) I hv hk2 ta, wk_setD, wr_setD, wn_setD, t38 T1, q_inb, q_nat, t0.1, tb.1, ta.1, gd_true, beq_self_eq_true, bd_s, if_true, if_false, ↓reduceIte, ite_true, ite_false, Bool.and_self, Bool.and_true, Bool.true_and, Nat.reduceBEq, Bool.or_true, Bool.true_or, Bool.or_self]
        rw [if_pos (by omega), D_take (TD_setD _ _ tb) (TD_setD _ _ t0.2) (WF_setD _ _ (.inr w0)), Option.bind_some]
        simp only [wk_setD, tb.1, gd_true, beq_self_eq_true, bd_s, if_true, if_false, ↓reduceIte, ite_true, ite_false, Bool.and_self, Bool.and_true, Bool.true_and, Nat.reduceBEq, Bool.or_true, Bool.true_or, Bool.or_self]
        rw [D_meet (TD_setD _ _ (TD_setD _ _ tb)) (TD_setD _ _ (TD_setD _ _ ta)) (WF_setD _ _ (.inl rfl)) (WF_setD _ _ (.inr (WF_setD _ _ (.inl rfl)))), Option.bind_some, setD_setD]
        refine congrArg some (setD_congr _ _ (fun n hn => ?_))
        rw [gD_eq _ _ _ hn, gD_ne _ _ _ hab, gD_eq _ _ _ hn, gD_ne _ _ _ (fun e => ha2 (by rw [← e]; exact ⟨by omega, by omega⟩))]
      · exact (hu.mono (fun x hx => .inl hx)).trans ((DF.set u _ (.inr (.inl rfl))).trans (DF.set _ _ (.inr (.inr rfl))))
      · intro n hn; rw [gD_ne _ _ _ hab, gD_eq _ _ _ hn]
      · intro n hn
        rw [gD_eq _ _ _ hn]
        have k2 := (K n hn).2 0 (by omega)
        rw [h1] at k2
        show (gD u (40 + 2 * 0) n && _) = _
        rw [k2]; rfl
    | cons q Q ih =>
      intro fu i h u st hd hf hi ho hu K
      obtain ⟨m, z⟩ := q
      obtain ⟨fu, rfl⟩ : ∃ m, fu = m + 1 := ⟨fu - 1, by omega⟩
      have hPi : P[i]? = some (m, z) := by
        have := congrArg (fun l => l[0]?) hd
        simpa using this
      have hlt : i < P.length := by rw [List.getElem?_eq_some_iff] at hPi; exact hPi.1
      have hd2 : P.drop (i + 1) = Q := by
        rw [← List.drop_drop, hd]; rfl
      have h80 := hP.2.1
      obtain ⟨p1, p2, p3, p4, p5⟩ := hP.2.2 i m z hPi
      have T1 := T.sh hu.sh
      have tc := tC T1 hc
      have hP1 : CP u c P := by unfold CP at *; simp only [hu.wi]; exact hP
      obtain ⟨s1, num, s2, s3⟩ := A_stepAt tc hP1 hPi
      have ho2 : (if m < 12 then h < 24 else if m = 12 then 1 ≤ h ∧ h ≤ 24 else 2 ≤ h ∧ h ≤ 24) ∧ okh 24 Q (if m < 12 then h + 1 else if m = 12 then h else h - 1) := by
        unfold okh at ho
        by_cases h12 : m < 12
        · simp only [if_pos h12] at ho ⊢; exact ho
        · by_cases he : m = 12
          · simp only [if_neg h12, if_pos he] at ho ⊢; exact ⟨⟨ho.1, ho.2.1⟩, ho.2.2⟩
          · simp only [if_neg h12, if_neg he] at ho ⊢; exact ⟨⟨ho.1, ho.2.1⟩, ho.2.2⟩
      obtain ⟨u2, q1, q2, q3⟩ := A_take T1 (hu.wfs W) (hu.dia D) I hv p3 (by omega) (by omega) K ho2.1 (num := num)
      rw [s3] at q3
      obtain ⟨w', r1, r2, r3, r4⟩ := ih fu (i + 1) _ u2 _ hd2 (by simp at hf; omega) hlt ho2.2 (hu.trans q2) q3
      refine ⟨w', ?_, r2, r3, r4⟩
      show F_Sc_weigh_6_B (F_Sc_weigh_6 fu) _ _ _ _ _ _ _ u = _
      unfold F_Sc_weigh_6_B
      rw [s1, s2]
      simp (disch := omega) only [qL, ↓qM, hu.wi, hP.1, q_le, tc.1, t38 T1, q1, nI_add, gd_true, beq_self_eq_true, bd_s, if_true, if_false, ↓reduceIte, ite_true, ite_false, Bool.and_self, Bool.and_true, Bool.true_and, Nat.reduceBEq, Bool.or_true, Bool.true_or, Bool.or_self]
      rw [if_neg (by omega)]
      exact r1
  have h80 := hP.2.1
  exact loop P FUEL 0 0 w (fun _ => []) rfl (Nat.lt_of_le_of_lt h80 (by decide)) (Nat.zero_le _) hok (DF.refl _ _) (fun n hn => ⟨rfl, fun j hj => by omega⟩)
