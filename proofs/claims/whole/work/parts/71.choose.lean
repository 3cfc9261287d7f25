/-! PURE: the learner's lists -/
def lf (x y i : Nat) : Nat := if i = 0 then x else y
theorem wi_cpI (w : AW) (a0 a sp dp n b j : Nat) : wi (cpI w a0 a sp dp n) b j = if b = a ∧ dp ≤ j ∧ j < dp + n then wi w a0 (sp + (j - dp)) else wi w b j := rfl
theorem EF.cp (w : AW) : EF w (cpI w 148 149 0 0 2) := ⟨⟨rfl, rfl, fun _ => rfl, fun _ => rfl, fun _ _ => rfl, fun a i h => by rw [wi_cpI, if_neg (by omega)]⟩, fun b j hb => by rw [wi_cpI, if_neg (by omega)], fun b _ n => gD_j (fun _ _ => rfl) b n, fun W => WFs_j (w := w) (fun _ _ => rfl) W⟩
/-- the best list so far: how right, how long, its sayings -/
def BS (S : Nat → Nat → Int32) (w : AW) (cur : Int32) (z x y : Nat) : Prop := wi w 136 1 = cur ∧ wi w 136 11 = nI z ∧ z ≤ 2 ∧ (1 ≤ z → wi w 149 0 = nI x ∧ x < nS S) ∧ (2 ≤ z → wi w 149 1 = nI y ∧ y < nS S)
section
variable {L : Nat} {xs : Nat → Int32} {S : Nat → Nat → Int32}
def rgS (S : Nat → Nat → Int32) (v s a z x y : Nat) : Nat := rgR (tru S v s) (lrn S v s a) (tel S v) (lf x y) z
theorem rgS_le (S : Nat → Nat → Int32) (v s a z x y : Nat) (hz : z ≤ 2) : rgS S v s a z x y ≤ 4383 := by
  unfold rgS rgR
  have h := mxR_le (tru S v s)
  have : z = 0 ∨ z = 1 ∨ z = 2 := by omega
  rcases this with e | e | e <;> subst e
  · have := h (rst (lrn S v s a) (tel S v) (lf x y) 0)
    unfold smR; omega
  · have := h (rst (lrn S v s a) (tel S v) (lf x y) 1)
    have := h (tdS (lrn S v s a) (tel S v) (lf x y) 0)
    unfold smR smR; omega
  · have := h (rst (lrn S v s a) (tel S v) (lf x y) 2)
    have := h (tdS (lrn S v s a) (tel S v) (lf x y) 0)
    have := h (tdS (lrn S v s a) (tel S v) (lf x y) 1)
    unfold smR smR smR; omega
theorem smR_le (tr D : Nat → Bool) (tl : Nat → Nat → Bool) (l : Nat → Nat) : ∀ i, smR tr D tl l i ≤ 1461 * i
  | 0 => by unfold smR; omega
  | i + 1 => by
    have := smR_le tr D tl l i
    have := mxR_le tr (tdS D tl l i)
    unfold smR; omega
theorem A_try {w : AW} (T : Top L xs w) (W : WFs w) (h8 : nS S ≤ 8) {v s a z x y : Nat} (hL : LT S v s a w) (hz : z ≤ 2) (hx : 1 ≤ z → wi w 148 0 = nI x ∧ x < nS S) (hy : 2 ≤ z → wi w 148 1 = nI y ∧ y < nS S) {cur : Int32} {z' x' y' : Nat} (hB : BS S w cur z' x' y') : ∃ w', F_Le_tryList 136 (nI z) w = some w' ∧ EF w w' ∧ LT S v s a w' ∧ (∀ i, wi w' 148 i = wi w 148 i) ∧ (∀ i, i ≠ 1 → i ≠ 11 → wi w' 136 i = wi w 136 i) ∧ (if nI (rgS S v s a z x y) ≤ cur then BS S w' cur z' x' y' else BS S w' (nI (rgS S v s a z x y)) z x y) := by
  obtain ⟨i138, i140, i142, i144, i146⟩ := Ln_in
  have hl : ∀ i, i < z → wi w 148 i = nI (lf x y i) ∧ lf x y i < nS S := by
    intro i hi
    have : i = 0 ∨ i = 1 := by omega
    rcases this with e | e <;> subst e
    · exact hx (by omega)
    · exact hy (by omega)
  generalize hl' : lf x y = l at hl
  generalize hD : lrn S v s a = D
  generalize htr : tru S v s = tr
  have hr : rgS S v s a z x y = smR tr D (tel S v) l z + mxR tr (rst D (tel S v) l z) := by unfold rgS rgR; rw [hl', hD, htr]
  have hrl := rgS_le S v s a z x y hz
  rw [hr] at hrl ⊢
  have loop : ∀ k fu i (u : AW), Top L xs u → WFs u → LT S v s a u → DF (fun q => q = 144 ∨ q = 146) w u → (∀ n, n < 1461 → gD u 144 n = rst D (tel S v) l i n) → i + k = z → k < fu → ∃ w', F_Le_tryList_15 fu 136 (nI z) (nI (smR tr D (tel S v) l i)) (nI i) u = some w' ∧ EF w w' ∧ LT S v s a w' ∧ (∀ i, wi w' 148 i = wi w 148 i) ∧ (∀ i, i ≠ 1 → i ≠ 11 → wi w' 136 i = wi w 136 i) ∧ (if nI (smR tr D (tel S v) l z + mxR tr (rst D (tel S v) l z)) ≤ cur then BS S w' cur z' x' y' else BS S w' (nI (smR tr D (tel S v) l z + mxR tr (rst D (tel S v) l z))) z x y) := by
    intro k
    induction k with
    | zero =>
      intro fu i u T1 W1 hL1 d1 hg hi hf
      obtain ⟨fu, rfl⟩ : ∃ m, fu = m + 1 := ⟨fu - 1, by omega⟩
      obtain rfl : i = z := by omega
      have m := A_mx T1 W1 i144 (P := rst D (tel S v) l i) (tr := tr) hg (by rw [← htr]; exact hL1.2.1)
      have e77 : F_Le_tryList_15 (fu + 1) 136 (nI i) (nI (smR tr D (tel S v) l i)) (nI i) u = (if nI (smR tr D (tel S v) l i + mxR tr (rst D (tel S v) l i)) ≤ cur then some u else some (cpI (upI (upI u 136 1 (nI (smR tr D (tel S v) l i + mxR tr (rst D (tel S v) l i)))) 136 11 (nI i)) 148 149 0 0 2)) := by
        show F_Le_tryList_15_B (F_Le_tryList_15 fu) _ _ _ _ u = _
        unfold F_Le_tryList_15_B F_Le_tryList_77
        have ec : cpok (nI 0) (nI 0) (nI 2) 2 2 = true := by decide +kernel
        simp (disch := omega) only [qL, ↓qM, q_le, t136 T1, (tD T1 i144).1, m, nI_add, d1.wi, hB.1, wk_upI, wn_upI, wr_upI, ec, q_nat, gd_true, beq_self_eq_true, bd_s, if_true, if_false, ↓reduceIte, ite_true, ite_false, Bool.and_self, Bool.and_true, Bool.true_and, Nat.reduceBEq, Bool.or_true, Bool.true_or, Bool.or_self]
        rw [if_pos (Nat.le_refl _)]
      rw [e77]
      by_cases hc : nI (smR tr D (tel S v) l i + mxR tr (rst D (tel S v) l i)) ≤ cur
      · rw [if_pos hc]
        refine ⟨u, rfl, EF.df d1 (fun q h => by omega), hL1, fun i => d1.wi _ _, fun i _ _ => d1.wi _ _, ?_⟩
        rw [if_pos hc]
        unfold BS; simp only [d1.wi]; exact hB
      · rw [if_neg hc]
        have f1 := EF.upI u 1 (nI (smR tr D (tel S v) l i + mxR tr (rst D (tel S v) l i))) (a := 136) (.inl rfl)
        have f2 := EF.upI (upI u 136 1 (nI (smR tr D (tel S v) l i + mxR tr (rst D (tel S v) l i)))) 11 (nI i) (a := 136) (.inl rfl)
        have f3 := EF.cp (upI (upI u 136 1 (nI (smR tr D (tel S v) l i + mxR tr (rst D (tel S v) l i)))) 136 11 (nI i))
        refine ⟨_, rfl, (EF.df d1 (fun q h => by omega)).trans ((f1.trans f2).trans f3), hL1.same (fun q _ _ n => gD_j (fun _ _ => rfl) q n), fun j => ?_, fun j h1 h11 => ?_, ?_⟩
        · rw [wi_cpI, if_neg (by omega), wi_upI, if_neg (by omega), wi_upI, if_neg (by omega), d1.wi]
        · rw [wi_cpI, if_neg (by omega), wi_upI, if_neg (by omega), wi_upI, if_neg (by omega), d1.wi]
        · have e149 : ∀ j, j < 2 → wi (cpI (upI (upI u 136 1 (nI (smR tr D (tel S v) l i + mxR tr (rst D (tel S v) l i)))) 136 11 (nI i)) 148 149 0 0 2) 149 j = wi w 148 j := fun j hj => by
            rw [wi_cpI, if_pos (by omega), wi_upI, if_neg (by omega), wi_upI, if_neg (by omega), d1.wi]; simp
          rw [if_neg hc]
          refine ⟨?_, ?_, hz, fun h => ?_, fun h => ?_⟩
          · rw [wi_cpI, if_neg (by omega), wi_upI, if_neg (by omega), wi_upI, if_pos ⟨rfl, rfl⟩]
          · rw [wi_cpI, if_neg (by omega), wi_upI, if_pos ⟨rfl, rfl⟩]
          · rw [e149 0 (by omega)]; exact hx h
          · rw [e149 1 (by omega)]; exact hy h
    | succ k ih =>
      intro fu i u T1 W1 hL1 d1 hg hi hf
      obtain ⟨fu, rfl⟩ : ∃ m, fu = m + 1 := ⟨fu - 1, by omega⟩
      have hli := hl i (by omega)
      obtain ⟨u2, p2, d2, g146, g144⟩ := A_tellBy T1 W1 (k := l i) (by omega)
      have T2 := T1.sh d2.sh
      have W2 := d2.wfs W1
      have hL2 : LT S v s a u2 := hL1.same (fun q h1 h2 n => d2.g (by omega) n)
      have t146 : ∀ n, n < 1461 → gD u2 146 n = tdS D (tel S v) l i n := fun n hn => by rw [g146 n hn, hg n hn, hL1.1 (l i) hli.2 n hn]; rfl
      have t144 : ∀ n, n < 1461 → gD u2 144 n = rst D (tel S v) l (i + 1) n := fun n hn => by rw [g144 n hn, hg n hn, hL1.1 (l i) hli.2 n hn]; rfl
      have m := A_mx T2 W2 i146 (P := tdS D (tel S v) l i) (tr := tr) t146 (by rw [← htr]; exact hL2.2.1)
      obtain ⟨w', q1, q2⟩ := ih fu (i + 1) u2 T2 W2 hL2 (d1.trans d2) t144 (by omega) (by omega)
      refine ⟨w', ?_, q2⟩
      show F_Le_tryList_15_B (F_Le_tryList_15 fu) _ _ _ _ u = _
      unfold F_Le_tryList_15_B
      simp (disch := omega) only [qL, ↓qM, q_le, t136 T1, q_inb, q_nat, d1.wi, hli.1, p2, t136 T2, (tD T2 i146).1, m, nI_add, gd_true, beq_self_eq_true, bd_s, if_true, if_false, ↓reduceIte, ite_true, ite_false, Bool.and_self, Bool.and_true, Bool.true_and, Nat.reduceBEq, Bool.or_true, Bool.true_or, Bool.or_self]
      rw [if_neg (by omega), if_neg (by omega)]
      exact q1
  obtain ⟨w0, p0, d0, g0⟩ := X_take (tD T i144) (tD T i138) (W _ i138)
  have T0 := T.sh d0.sh
  obtain ⟨w', q1, q2⟩ := loop z FUEL 0 w0 T0 (d0.wfs W) (hL.same (fun q h1 h2 n => d0.g (by omega) n)) (d0.mono (fun q h => .inl h)) (fun n hn => by rw [g0 n hn, hL.2.2.1 n hn, ← hD]; rfl) (by omega) (Nat.lt_of_le_of_lt hz (by decide))
  refine ⟨w', ?_, q2⟩
  unfold F_Le_tryList
  simp only [qL, ↓qM, t136 T, (tD T i144).1, p0, gd_true, beq_self_eq_true, bd_s, if_true, if_false, ↓reduceIte, ite_true, ite_false, Bool.and_self, Bool.and_true, Bool.true_and, Nat.reduceBEq, Bool.or_true, Bool.true_or, Bool.or_self]
  exact q1
/-- the best list, counted: right, length, sayings -/
def tr3 (S : Nat → Nat → Int32) (v s a z x y : Nat) (b : Nat × Nat × Nat × Nat) : Nat × Nat × Nat × Nat := if rgS S v s a z x y ≤ b.1 then b else (rgS S v s a z x y, z, x, y)
def ch1 (S : Nat → Nat → Int32) (v s a : Nat) : Nat → Nat × Nat × Nat × Nat
  | 0 => (rgS S v s a 0 0 0, 0, 0, 0)
  | k + 1 => tr3 S v s a 1 k 0 (ch1 S v s a k)
def ch2 (S : Nat → Nat → Int32) (v s a k : Nat) (b : Nat × Nat × Nat × Nat) : Nat → Nat × Nat × Nat × Nat
  | 0 => b
  | j + 1 => if j = k then ch2 S v s a k b j else tr3 S v s a 2 k j (ch2 S v s a k b j)
def ch3 (S : Nat → Nat → Int32) (v s a : Nat) : Nat → Nat × Nat × Nat × Nat
  | 0 => ch1 S v s a (nS S)
  | k + 1 => ch2 S v s a k (ch3 S v s a k) (nS S)
def chF (S : Nat → Nat → Int32) (v s a sz : Nat) : Nat × Nat × Nat × Nat := if sz = 0 then ch1 S v s a 0 else if sz = 1 then ch1 S v s a (nS S) else ch3 S v s a (nS S)
def bok (b : Nat × Nat × Nat × Nat) : Prop := b.1 ≤ 4383 ∧ b.2.1 ≤ 2
theorem tr3_ok {S : Nat → Nat → Int32} {v s a z x y : Nat} {b : Nat × Nat × Nat × Nat} (hz : z ≤ 2) (h : bok b) : bok (tr3 S v s a z x y b) := by
  have := rgS_le S v s a z x y hz
  unfold tr3
  split
  · exact h
  · exact ⟨by omega, hz⟩
theorem ch1_ok (S : Nat → Nat → Int32) (v s a : Nat) : ∀ k, bok (ch1 S v s a k)
  | 0 => ⟨rgS_le S v s a 0 0 0 (by omega), by show 0 ≤ 2; omega⟩
  | k + 1 => tr3_ok (by omega) (ch1_ok S v s a k)
theorem ch2_ok {S : Nat → Nat → Int32} {v s a k : Nat} {b : Nat × Nat × Nat × Nat} (h : bok b) : ∀ j, bok (ch2 S v s a k b j)
  | 0 => h
  | j + 1 => by
    unfold ch2
    split
    · exact ch2_ok h j
    · exact tr3_ok (by omega) (ch2_ok h j)
theorem ch3_ok (S : Nat → Nat → Int32) (v s a : Nat) : ∀ k, bok (ch3 S v s a k)
  | 0 => ch1_ok S v s a _
  | k + 1 => ch2_ok (ch3_ok S v s a k) _
end
