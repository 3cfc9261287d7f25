/-! PURE: likeness -/
def knw (S : Nat → Nat → Int32) (v n : Nat) : Bool := !gp S v n 2
def rnd (S : Nat → Nat → Int32) (v n : Nat) : Bool := decide (0 < (S 5 (fx v n 2)).toInt)
def tld (S : Nat → Nat → Int32) (a n : Nat) : Bool := decide (S 7 (1461 * a + n) ≠ mI 1)
def rn1 (S : Nat → Nat → Int32) (a n : Nat) : Bool := decide (S 7 (1461 * a + n) = nI 1)
def wrg (S : Nat → Nat → Int32) (v a n : Nat) : Bool := rn1 S a n ^^ rnd S v n
def bth (S : Nat → Nat → Int32) (v a b n : Nat) : Bool := knw S v n && (tld S a n && tld S b n)
/-- the days that a count counts -/
def shP (S : Nat → Nat → Int32) (v a b m n : Nat) : Bool := bth S v a b n && (if m = 0 then true else if m = 1 then wrg S v a n && wrg S v b n else if m = 2 then wrg S v a n else wrg S v b n)
def shN (S : Nat → Nat → Int32) (v a b m : Nat) : Nat := cnt (shP S v a b m) 1461
/-- the class is the same but for its likeness -/
def LF (w v : AW) : Prop := Sh w v ∧ (∀ a i, a ≠ 168 → wi v a i = wi w a i) ∧ (∀ a, ¬ (169 ≤ a ∧ a ≤ 177) → ∀ n, gD v a n = gD w a n) ∧ (WFs w → WFs v)
theorem LF.refl (w : AW) : LF w w := ⟨Sh.refl w, fun _ _ _ => rfl, fun _ _ _ => rfl, fun h => h⟩
theorem LF.trans {u v w : AW} (h : LF u v) (g : LF v w) : LF u w := ⟨h.1.trans g.1, fun a i ha => (g.2.1 a i ha).trans (h.2.1 a i ha), fun a ha n => (g.2.2.1 a ha n).trans (h.2.2.1 a ha n), fun W => g.2.2.2 (h.2.2.2 W)⟩
theorem LF.df {A : Nat → Prop} {w v : AW} (h : DF A w v) (hA : ∀ a, A a → 169 ≤ a ∧ a ≤ 177) : LF w v := ⟨h.sh, fun a i _ => h.wi a i, fun a ha n => h.g (fun q => ha (hA a q)) n, fun W => h.wfs W⟩
theorem LF.upI (w : AW) (i : Nat) (x : Int32) : LF w (upI w 168 i x) := ⟨Sh.upI w i x (by omega), fun a j ha => by rw [wi_upI, if_neg (fun e => ha e.1)], fun a _ n => gD_j (fun _ _ => rfl) a n, fun W => WFs_j (w := w) (fun _ _ => rfl) W⟩
theorem LF.ia {L : Nat} {xs : Nat → Int32} {S : Nat → Nat → Int32} {w v : AW} (I : Inv L xs S w) (h : LF w v) : IA S v := by
  obtain ⟨a1, a2, a3, a4, a5, a6, a7⟩ := I.2.2.2
  refine ⟨?_, ?_, ?_, ?_, ?_, ?_, h.2.2.2 a7⟩
  · exact CalA_w (fun a i h1 h2 => h.2.1 a i (by omega)) a1
  · exact DiaA_w (fun a i h1 h2 => h.2.1 a i (by omega)) a2
  · exact PgA_w (h.2.1 23 0 (by omega)) (fun i => h.2.1 24 i (by omega)) a3
  · exact SyA_w (h.2.1 16 4 (by omega)) (fun k _ => h.1.2.2.2.2.1 37 k) (fun k hk a i h1 h2 => h.2.1 a i (by have := I.sr hk; omega)) a4
  · exact LeA_w (fun a i h1 => h.2.1 a i (by omega)) a5
  · exact AlA_w (fun a i h1 h2 => h.2.1 a i (by omega)) (fun a n h1 h2 => h.2.2.1 a (by omega) n) a6
theorem Inv.lf {L : Nat} {xs : Nat → Int32} {S : Nat → Nat → Int32} {w v : AW} (I : Inv L xs S w) (h : LF w v) : Inv L xs S v := by
  refine ⟨I.1.sh h.1, ?_, I.2.2.1, LF.ia I h⟩
  unfold RA
  rw [RS_eq (w := w) (fun a i ha => h.2.1 a i (by omega))]
  exact I.2.1
/-- the two sets of a diary's rain -/
def RN (S : Nat → Nat → Int32) (v : Nat) (w : AW) : Prop := (∀ n, n < 1461 → gD w 169 n = knw S v n) ∧ (∀ n, n < 1461 → gD w 171 n = (knw S v n && rnd S v n))
theorem tL {L : Nat} {xs : Nat → Int32} {w : AW} (T : Top L xs w) : TD w 169 ∧ TD w 171 ∧ TD w 173 ∧ TD w 175 ∧ TD w 177 := ⟨tD T (by decide +kernel), tD T (by decide +kernel), tD T (by decide +kernel), tD T (by decide +kernel), tD T (by decide +kernel)⟩
theorem L_in : 169 ∈ DTab ∧ 171 ∈ DTab ∧ 173 ∈ DTab ∧ 175 ∈ DTab ∧ 177 ∈ DTab := by decide +kernel
theorem A_readRain {L : Nat} {xs : Nat → Int32} {S : Nat → Nat → Int32} {w : AW} (I : Inv L xs S w) {v : Nat} (hv : v < 3) : ∃ w', F_Li_readRain 168 (179 + 2 * v) w = some w' ∧ LF w w' ∧ RN S v w' := by
  have T := I.1
  have tl := tL T
  have d1 : DF (fun x => x = 169) w (setD w 169 (fun n => !opn S v 4 n 4)) := DF.set _ _ rfl
  have T1 := T.sh d1.sh
  have I1 := I.lf (LF.df d1 (fun a h => by omega))
  have tl1 := tL T1
  have e1 := A_findKnown T I.2.2.2.2.1 I.2.2.1.2.2.1 (m := 4) hv (by omega) tl.1
  have e2 := A_findCompared T1 I1.2.2.2.2.1 I.2.2.1.2.2.1 (f := 2) (o := 2) (num := nI 0) hv (by omega) (by omega) (by decide) (by decide) tl1.2.1
  have d2 : DF (fun x => x = 171) (setD w 169 (fun n => !opn S v 4 n 4)) (setD (setD w 169 (fun n => !opn S v 4 n 4)) 171 (fun n => !gp S v n 2 && cmS S v n 2 2 (nI 0).toInt)) := DF.set _ _ rfl
  refine ⟨_, ?_, (LF.df d1 (fun a h => by omega)).trans (LF.df d2 (fun a h => by omega)), fun n hn => ?_, fun n hn => ?_⟩
  · unfold F_Li_readRain
    simp only [qL, ↓qM, t168 T, tV T hv, t168 T1, tV T1 hv, e1, gd_true, beq_self_eq_true, bd_s, if_true, if_false, ↓reduceIte, ite_true, ite_false, Bool.and_self, Bool.and_true, Bool.true_and, Nat.reduceBEq, Bool.or_true, Bool.true_or, Bool.or_self]
    rw [show nI 1 = nI 2 - nI 1 by decide, e2, bd_s]
  · rw [gD_ne _ _ _ (by omega), gD_eq _ _ _ hn]
    unfold knw opn opn opn opn opn
    have e1 : Nat.testBit 4 1 = false := by decide
    have e2 : Nat.testBit 4 2 = true := by decide
    have e3 : Nat.testBit 4 3 = false := by decide
    simp [e1, e2, e3]
  · rw [gD_eq _ _ _ hn]
    unfold knw rnd cmS cmpI
    rfl
theorem AlA.hb {S : Nat → Nat → Int32} {w : AW} (A : AlA S w) {a n : Nat} (ha : a < 6) (hn : n < 1461) : gD w (242 + 5 * a) n = tld S a n ∧ (tld S a n = true → gD w (244 + 5 * a) n = rn1 S a n) := by
  unfold tld rn1
  rw [(A a ha).2 n hn]
  cases gD w (242 + 5 * a) n <;> cases gD w (244 + 5 * a) n <;> decide +kernel
theorem A_findWrong {L : Nat} {xs : Nat → Int32} {S : Nat → Nat → Int32} {w : AW} (I : Inv L xs S w) {v a b c : Nat} (hv : v < 3) (ha : a < 6) (hb : b < 6) (R : RN S v w) (hab : ∀ n, n < 1461 → gD w 173 n = bth S v a b n) {d : Nat} (hd : d = a ∨ d = b) (hd6 : d < 6) (hc : c = 175 ∨ c = 177) : ∃ w', F_Li_findWrong 168 (241 + 5 * d) c w = some w' ∧ DF (fun x => x = c) w w' ∧ (∀ n, n < 1461 → gD w' c n = (bth S v a b n && wrg S v d n)) := by
  have T := I.1
  have W := I.2.2.2.2.2.2.2.2.2
  have tl := tL T
  have ta := tA T hd6
  have hcD : c ∈ DTab := by rcases hc with e | e <;> subst e <;> decide +kernel
  obtain ⟨w1, p1, d1, g1⟩ := X_take (tD T hcD) ta.2.2.2.2.2 (W _ (Al_ok2 d hd6).2.2)
  have T1 := T.sh d1.sh
  have W1 := d1.wfs W
  obtain ⟨w2, p2, d2, g2⟩ := X_differ (tD T1 hcD) (tL T1).2.1 (W1 _ hcD) (W1 _ L_in.2.1)
  have T2 := T1.sh d2.sh
  have W2 := d2.wfs W1
  obtain ⟨w3, p3, d3, g3⟩ := X_meet (tD T2 hcD) (tL T2).2.2.1 (W2 _ hcD) (W2 _ L_in.2.2.1)
  refine ⟨w3, ?_, (d1.trans d2).trans d3, fun n hn => ?_⟩
  · unfold F_Li_findWrong
    simp only [ta.1, ta.2.2.1, (tD T hcD).1, p1, t168 T1, (tD T1 hcD).1, p2, t168 T2, (tD T2 hcD).1, p3, gd_true, beq_self_eq_true, bd_s, if_true, if_false, ↓reduceIte, ite_true, ite_false, Bool.and_self, Bool.and_true, Bool.true_and, Nat.reduceBEq, Bool.or_true, Bool.true_or, Bool.or_self]
  · rw [g3 n hn, g2 n hn, g1 n hn, d2.g (by omega), d1.g (by omega), d1.g (by omega), hab n hn, R.2 n hn]
    have ht := (I.2.2.2.2.2.2.2.2.1.hb hd6 hn).2
    unfold wrg
    have hk : bth S v a b n = true → knw S v n = true ∧ tld S d n = true := by
      unfold bth
      intro h
      simp only [Bool.and_eq_true] at h
      rcases hd with e | e <;> subst e
      · exact ⟨h.1, h.2.1⟩
      · exact ⟨h.1, h.2.2⟩
    cases hbt : bth S v a b n
    · simp
    · rw [ht (hk hbt).2, (hk hbt).1]; simp
theorem A_compare {L : Nat} {xs : Nat → Int32} {S : Nat → Nat → Int32} {w : AW} (I : Inv L xs S w) {v a b : Nat} (hv : v < 3) (ha : a < 6) (hb : b < 6) (R : RN S v w) : ∃ w', F_Li_compare 168 (241 + 5 * a) (241 + 5 * b) w = some w' ∧ LF w w' ∧ RN S v w' ∧ (∀ m, m < 4 → wi w' 168 m = nI (shN S v a b m)) := by
  have T := I.1
  have W := I.2.2.2.2.2.2.2.2.2
  have tl := tL T
  have ta := tA T ha
  have tb := tA T hb
  obtain ⟨w1, p1, d1, g1⟩ := X_take tl.2.2.1 tl.1 (W _ L_in.1)
  have T1 := T.sh d1.sh
  have W1 := d1.wfs W
  have ta1 := tA T1 ha
  obtain ⟨w2, p2, d2, g2⟩ := X_meet (tL T1).2.2.1 ta1.2.2.2.2.1 (W1 _ L_in.2.2.1) (W1 _ (Al_ok2 a ha).2.1)
  have T2 := T1.sh d2.sh
  have W2 := d2.wfs W1
  have tb2 := tA T2 hb
  obtain ⟨w3, p3, d3, g3⟩ := X_meet (tL T2).2.2.1 tb2.2.2.2.2.1 (W2 _ L_in.2.2.1) (W2 _ (Al_ok2 b hb).2.1)
  have T3 := T2.sh d3.sh
  have W3 := d3.wfs W2
  have f3 : LF w w3 := LF.df ((d1.trans d2).trans d3) (fun x h => by omega)
  have I3 := I.lf f3
  have h3 : ∀ n, n < 1461 → gD w3 173 n = bth S v a b n := fun n hn => by
    rw [g3 n hn, g2 n hn, g1 n hn, d2.g (by omega), d1.g (by omega), d1.g (by omega), R.1 n hn, (I.2.2.2.2.2.2.2.2.1.hb ha hn).1, (I.2.2.2.2.2.2.2.2.1.hb hb hn).1, Bool.and_assoc]; rfl
  have R3 : RN S v w3 := ⟨fun n hn => by rw [d3.g (by omega), d2.g (by omega), d1.g (by omega)]; exact R.1 n hn, fun n hn => by rw [d3.g (by omega), d2.g (by omega), d1.g (by omega)]; exact R.2 n hn⟩
  obtain ⟨w4, p4, d4, g4⟩ := A_findWrong I3 hv ha hb R3 h3 (d := a) (.inl rfl) ha (.inl rfl)
  have f4 : LF w w4 := f3.trans (LF.df d4 (fun x h => by omega))
  have I4 := I.lf f4
  have T4 := I4.1
  have h4 : ∀ n, n < 1461 → gD w4 173 n = bth S v a b n := fun n hn => by rw [d4.g (by omega)]; exact h3 n hn
  have R4 : RN S v w4 := ⟨fun n hn => by rw [d4.g (by omega)]; exact R3.1 n hn, fun n hn => by rw [d4.g (by omega)]; exact R3.2 n hn⟩
  obtain ⟨w5, p5, d5, g5⟩ := A_findWrong I4 hv ha hb R4 h4 (d := b) (.inr rfl) hb (.inr rfl)
  have f5 : LF w w5 := f4.trans (LF.df d5 (fun x h => by omega))
  have I5 := I.lf f5
  have T5 := I5.1
  have W5 := I5.2.2.2.2.2.2.2.2.2
  have k173 : ∀ n, n < 1461 → gD w5 173 n = bth S v a b n := fun n hn => by rw [d5.g (by omega)]; exact h4 n hn
  have k175 : ∀ n, n < 1461 → gD w5 175 n = (bth S v a b n && wrg S v a n) := fun n hn => by rw [d5.g (by omega)]; exact g4 n hn
  have k177 : ∀ n, n < 1461 → gD w5 177 n = (bth S v a b n && wrg S v b n) := g5
  have tl5 := tL T5
  have c0 := D_size tl5.2.2.1 (W5 _ L_in.2.2.1)
  have e0 : cnt (gD w5 173) 1461 = shN S v a b 0 := cnt_congr 1461 (fun n hn => by rw [k173 n hn]; unfold shP; simp)
  rw [e0] at c0
  generalize hA : upI w5 168 0 (nI (shN S v a b 0)) = wA
  have fA : LF w5 wA := by rw [← hA]; exact LF.upI _ _ _
  have TA := T5.sh fA.1
  have WA := fA.2.2.2 W5
  have gA : ∀ x n, gD wA x n = gD w5 x n := fun x n => by rw [← hA]; exact gD_j (fun _ _ => rfl) x n
  have c1 := D_sizeWith (tL TA).2.2.2.1 (tL TA).2.2.2.2 (WA _ L_in.2.2.2.1)
  have e1 : cnt (fun n => gD wA 175 n && gD wA 177 n) 1461 = shN S v a b 1 := cnt_congr 1461 (fun n hn => by
    show (gD wA 175 n && gD wA 177 n) = _
    rw [gA, gA, k175 n hn, k177 n hn]; unfold shP; cases bth S v a b n <;> simp)
  rw [e1] at c1
  generalize hB : upI wA 168 1 (nI (shN S v a b 1)) = wB
  have fB : LF wA wB := by rw [← hB]; exact LF.upI _ _ _
  have TB := TA.sh fB.1
  have WB := fB.2.2.2 WA
  have gB : ∀ x n, gD wB x n = gD w5 x n := fun x n => by rw [← gA, ← hB]; exact gD_j (fun _ _ => rfl) x n
  have c2 := D_size (tL TB).2.2.2.1 (WB _ L_in.2.2.2.1)
  have e2 : cnt (gD wB 175) 1461 = shN S v a b 2 := cnt_congr 1461 (fun n hn => by rw [gB, k175 n hn]; unfold shP; simp)
  rw [e2] at c2
  generalize hC : upI wB 168 2 (nI (shN S v a b 2)) = wC
  have fC : LF wB wC := by rw [← hC]; exact LF.upI _ _ _
  have TC := TB.sh fC.1
  have WC := fC.2.2.2 WB
  have gC : ∀ x n, gD wC x n = gD w5 x n := fun x n => by rw [← gB, ← hC]; exact gD_j (fun _ _ => rfl) x n
  have c3 := D_size (tL TC).2.2.2.2 (WC _ L_in.2.2.2.2)
  have e3 : cnt (gD wC 177) 1461 = shN S v a b 3 := cnt_congr 1461 (fun n hn => by rw [gC, k177 n hn]; unfold shP; simp)
  rw [e3] at c3
  have fD := LF.upI wC 3 (nI (shN S v a b 3))
  have gDD : ∀ x n, gD (upI wC 168 3 (nI (shN S v a b 3))) x n = gD w5 x n := fun x n => by rw [← gC]; exact gD_j (fun _ _ => rfl) x n
  refine ⟨upI wC 168 3 (nI (shN S v a b 3)), ?_, (((f5.trans fA).trans fB).trans fC).trans fD, ⟨fun n hn => ?_, fun n hn => ?_⟩, fun m hm => ?_⟩
  · unfold F_Li_compare
    simp only [t168 T, tl.2.2.1.1, p1, t168 T1, ta1.1, ta1.2.1, (tL T1).2.2.1.1, p2, t168 T2, tb2.1, tb2.2.1, (tL T2).2.2.1.1, p3, t168 T3, p4, t168 T4, p5, t168 T5, tl5.2.2.1.1, c0, hA, t168 TA, (tL TA).2.2.2.1.1, c1, hB, t168 TB, (tL TB).2.2.2.1.1, c2, hC, t168 TC, (tL TC).2.2.2.2.1, c3, gd_true, beq_self_eq_true, bd_s, if_true, if_false, ↓reduceIte, ite_true, ite_false, Bool.and_self, Bool.and_true, Bool.true_and, Nat.reduceBEq, Bool.or_true, Bool.true_or, Bool.or_self]
  · rw [gDD, d5.g (by omega)]; exact R4.1 n hn
  · rw [gDD, d5.g (by omega)]; exact R4.2 n hn
  · rw [← hC, ← hB, ← hA]
    simp only [wi_upI]
    have : m = 0 ∨ m = 1 ∨ m = 2 ∨ m = 3 := by omega
    rcases this with e | e | e | e <;> subst e <;> simp
