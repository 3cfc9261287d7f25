/-! PURE: the learner's judgement -/
section
variable {L : Nat} {xs : Nat → Int32} {S : Nat → Nat → Int32}
/-- a list that is settled -/
def SL (S : Nat → Nat → Int32) (w : AW) (z x y : Nat) : Prop := wi w 136 11 = nI z ∧ z ≤ 2 ∧ ∀ i, i < z → wi w 149 i = nI (lf x y i) ∧ lf x y i < nS S
theorem SL.of {w : AW} {cur : Int32} {z x y : Nat} (B : BS S w cur z x y) : SL S w z x y := by
  refine ⟨B.2.1, B.2.2.1, fun i hi => ?_⟩
  have hz := B.2.2.1
  have : i = 0 ∨ i = 1 := by omega
  rcases this with e | e <;> subst e
  · exact B.2.2.2.1 (by omega)
  · exact B.2.2.2.2 (by omega)
/-- what a list's settling leaves -/
def FN (S : Nat → Nat → Int32) (v s a z x y : Nat) (w0 w : AW) : Prop := EF w0 w ∧ (∀ i, (i = 0 ∨ i = 1 ∨ i = 11) → wi w 136 i = wi w0 136 i) ∧ (∀ i, wi w 149 i = wi w0 149 i) ∧ (∀ i, i < z → wi w 150 i = nI (mst (tru S v s) (tdS (lrn S v s a) (tel S v) (lf x y) i)).toNat) ∧ wi w 136 12 = nI (mst (tru S v s) (rst (lrn S v s a) (tel S v) (lf x y) z)).toNat ∧ wi w 136 13 = nI (cnt (lrn S v s a) 1461) ∧ wi w 136 14 = nI (cnt (lrn S v s (15 - a)) 1461) ∧ wi w 136 15 = nI (jrR (tru S v s) (lrn S v s a) (lrn S v s (15 - a)) (tel S v) (lf x y) z + ron (tru S v s) (rst (lrn S v s (15 - a)) (tel S v) (lf x y) z) (mst (tru S v s) (rst (lrn S v s a) (tel S v) (lf x y) z)))
theorem A_settle {w : AW} (T : Top L xs w) (W : WFs w) (h8 : nS S ≤ 8) {v s a z x y : Nat} (hL : LT S v s a w) (hl : SL S w z x y) : ∃ w', F_Le_settle 136 w = some w' ∧ FN S v s a z x y w w' := by
  obtain ⟨i138, i140, i142, i144, i146⟩ := Ln_in
  obtain ⟨l1, hz, l2⟩ := hl
  unfold FN
  generalize hD : lrn S v s a = D
  generalize hJ : lrn S v s (15 - a) = J
  generalize htr : tru S v s = tr
  generalize hll : lf x y = l at *
  have hcD := cnt_le D 1461
  have hcJ := cnt_le J 1461
  -- the judged days
  have loop2 : ∀ k fu i (u : AW), EF w u → LT S v s a u → (∀ j, wi u 149 j = wi w 149 j) → wi u 136 11 = nI z → (∀ j, j < z → wi u 150 j = nI (mst tr (tdS D (tel S v) l j)).toNat) → wi u 136 12 = nI (mst tr (rst D (tel S v) l z)).toNat → wi u 136 15 = nI (jrR tr D J (tel S v) l i) → (∀ n, n < 1461 → gD u 144 n = rst J (tel S v) l i n) → i + k = z → k < fu → ∃ w', F_Le_settle_108 fu 136 (nI i) u = some w' ∧ EF w w' ∧ (∀ j, j ≠ 15 → wi w' 136 j = wi u 136 j) ∧ (∀ j, wi w' 149 j = wi u 149 j) ∧ (∀ j, wi w' 150 j = wi u 150 j) ∧ wi w' 136 15 = nI (jrR tr D J (tel S v) l z + ron tr (rst J (tel S v) l z) (mst tr (rst D (tel S v) l z))) := by
    intro k
    induction k with
    | zero =>
      intro fu i u f hLu e149 e11 e150 e12 e15 hg hi hf
      obtain ⟨fu, rfl⟩ : ∃ m, fu = m + 1 := ⟨fu - 1, by omega⟩
      obtain rfl : i = z := by omega
      have Tu := T.sh f.1
      have Wu := f.2.2.2 W
      have hro := A_ron Tu Wu i144 (P := rst J (tel S v) l i) (tr := tr) hg (by rw [← htr]; exact hLu.2.1) (mst tr (rst D (tel S v) l i))
      refine ⟨upI u 136 15 (nI (jrR tr D J (tel S v) l i) + nI (ron tr (rst J (tel S v) l i) (mst tr (rst D (tel S v) l i)))), ?_, f.trans (EF.upI u _ _ (.inl rfl)), fun j hj => by rw [wi_upI, if_neg (by omega)], fun j => by rw [wi_upI, if_neg (by omega)], fun j => by rw [wi_upI, if_neg (by omega)], by rw [wi_upI, if_pos ⟨rfl, rfl⟩, nI_add]⟩
      show F_Le_settle_108_B (F_Le_settle_108 fu) _ _ u = _
      unfold F_Le_settle_108_B F_Le_settle_160
      simp (disch := omega) only [qL, ↓qM, t136 Tu, e11, e12, e15, q_le, hro, gd_true, beq_self_eq_true, bd_s, if_true, if_false, ↓reduceIte, ite_true, ite_false, Bool.and_self, Bool.and_true, Bool.true_and, Nat.reduceBEq, Bool.or_true, Bool.true_or, Bool.or_self]
      rw [if_pos (Nat.le_refl _)]
    | succ k ih =>
      intro fu i u f hLu e149 e11 e150 e12 e15 hg hi hf
      obtain ⟨fu, rfl⟩ : ∃ m, fu = m + 1 := ⟨fu - 1, by omega⟩
      have Tu := T.sh f.1
      have Wu := f.2.2.2 W
      have hli := l2 i (by omega)
      obtain ⟨u2, p2, d2, g146, g144⟩ := A_tellBy Tu Wu (k := l i) (by omega)
      have f2 : EF w u2 := f.trans (EF.df d2 (fun q h => by omega))
      have T2 := T.sh f2.1
      have W2 := f2.2.2.2 W
      have hL2 : LT S v s a u2 := hLu.same (fun q h1 h2 n => d2.g (by omega) n)
      have t146 : ∀ n, n < 1461 → gD u2 146 n = tdS J (tel S v) l i n := fun n hn => by rw [g146 n hn, hg n hn, hLu.1 (l i) hli.2 n hn]; rfl
      have t144 : ∀ n, n < 1461 → gD u2 144 n = rst J (tel S v) l (i + 1) n := fun n hn => by rw [g144 n hn, hg n hn, hLu.1 (l i) hli.2 n hn]; rfl
      have hro := A_ron T2 W2 i146 (P := tdS J (tel S v) l i) (tr := tr) t146 (by rw [← htr]; exact hL2.2.1) (mst tr (tdS D (tel S v) l i))
      have e15' : nI (jrR tr D J (tel S v) l i) + nI (ron tr (tdS J (tel S v) l i) (mst tr (tdS D (tel S v) l i))) = nI (jrR tr D J (tel S v) l (i + 1)) := nI_add _ _
      have ne : ∀ b j, (b ≠ 136 ∨ j ≠ 15) → wi (upI u2 136 15 (nI (jrR tr D J (tel S v) l (i + 1)))) b j = wi u b j := fun b j h => by rw [wi_upI, if_neg (by omega), d2.wi]
      obtain ⟨w', q1, q2, q3, q4, q5, q6⟩ := ih fu (i + 1) (upI u2 136 15 (nI (jrR tr D J (tel S v) l (i + 1)))) (f2.trans (EF.upI _ _ _ (.inl rfl))) (hL2.same (fun q _ _ n => gD_j (fun _ _ => rfl) q n)) (fun j => by rw [ne _ _ (by omega)]; exact e149 j) (by rw [ne _ _ (by omega)]; exact e11) (fun j hj => by rw [ne _ _ (by omega)]; exact e150 j hj) (by rw [ne _ _ (by omega)]; exact e12) (by rw [wi_upI, if_pos ⟨rfl, rfl⟩]) (fun n hn => t144 n hn) (by omega) (by omega)
      refine ⟨w', ?_, q2, fun j hj => by rw [q3 j hj, ne _ _ (by omega)], fun j => by rw [q4 j, ne _ _ (by omega)], fun j => by rw [q5 j, ne _ _ (by omega)], q6⟩
      show F_Le_settle_108_B (F_Le_settle_108 fu) _ _ u = _
      unfold F_Le_settle_108_B
      simp (disch := omega) only [qL, ↓qM, t136 Tu, e11, q_le, q_inb, q_nat, e149, hli.1, p2, t136 T2, d2.wi, e150 i (by omega), hro, e15, e15', nI_add, gd_true, beq_self_eq_true, bd_s, if_true, if_false, ↓reduceIte, ite_true, ite_false, Bool.and_self, Bool.and_true, Bool.true_and, Nat.reduceBEq, Bool.or_true, Bool.true_or, Bool.or_self]
      rw [if_neg (by omega), if_neg (by omega)]
      exact q1
  -- the words
  have loop1 : ∀ k fu i (u : AW), EF w u → LT S v s a u → (∀ j, wi u 136 j = if j = 13 then nI (cnt D 1461) else wi w 136 j) → (∀ j, wi u 149 j = wi w 149 j) → (∀ j, j < i → wi u 150 j = nI (mst tr (tdS D (tel S v) l j)).toNat) → (∀ n, n < 1461 → gD u 144 n = rst D (tel S v) l i n) → i + k = z → k < fu → ∃ w', F_Le_settle_24 fu 136 (nI i) u = some w' ∧ EF w w' ∧ (∀ i, (i = 0 ∨ i = 1 ∨ i = 11) → wi w' 136 i = wi w 136 i) ∧ (∀ i, wi w' 149 i = wi w 149 i) ∧ (∀ j, j < z → wi w' 150 j = nI (mst tr (tdS D (tel S v) l j)).toNat) ∧ wi w' 136 12 = nI (mst tr (rst D (tel S v) l z)).toNat ∧ wi w' 136 13 = nI (cnt D 1461) ∧ wi w' 136 14 = nI (cnt J 1461) ∧ wi w' 136 15 = nI (jrR tr D J (tel S v) l z + ron tr (rst J (tel S v) l z) (mst tr (rst D (tel S v) l z))) := by
    intro k
    induction k with
    | zero =>
      intro fu i u f hLu e136 e149 e150 hg hi hf
      obtain ⟨fu, rfl⟩ : ∃ m, fu = m + 1 := ⟨fu - 1, by omega⟩
      obtain rfl : i = z := by omega
      have Tu := T.sh f.1
      have Wu := f.2.2.2 W
      have e11 : wi u 136 11 = nI i := by rw [e136, if_neg (by omega)]; exact l1
      have hms := A_mst Tu Wu i144 (P := rst D (tel S v) l i) (tr := tr) hg (by rw [← htr]; exact hLu.2.1)
      generalize hM : mst tr (rst D (tel S v) l i) = M at *
      generalize hu1 : upI u 136 12 (nI M.toNat) = u1
      have f1 : EF w u1 := by rw [← hu1]; exact f.trans (EF.upI _ _ _ (.inl rfl))
      have T1 := T.sh f1.1
      have W1 := f1.2.2.2 W
      have hL1 : LT S v s a u1 := by rw [← hu1]; exact hLu.same (fun q _ _ n => gD_j (fun _ _ => rfl) q n)
      have hs14 : F_Dy_size u1 140 = some (nI (cnt J 1461)) := by
        rw [D_size (tD T1 i140) (W1 _ i140)]
        exact congrArg (fun z => some (nI z)) (cnt_congr 1461 (fun n hn => by rw [hL1.2.2.2 n hn, hJ]))
      generalize hu2 : upI (upI u1 136 14 (nI (cnt J 1461))) 136 15 (nI 0) = u2
      have f2 : EF w u2 := by rw [← hu2]; exact f1.trans ((EF.upI _ _ _ (.inl rfl)).trans (EF.upI _ _ _ (.inl rfl)))
      have T2 := T.sh f2.1
      have W2 := f2.2.2.2 W
      have hL2 : LT S v s a u2 := by rw [← hu2]; exact hL1.same (fun q _ _ n => gD_j (fun _ _ => rfl) q n)
      obtain ⟨u3, p3, d3, g3⟩ := X_take (tD T2 i144) (tD T2 i140) (W2 _ i140)
      have f3 : EF w u3 := f2.trans (EF.df d3 (fun q h => by omega))
      have hL3 : LT S v s a u3 := hL2.same (fun q h1 h2 n => d3.g (by omega) n)
      have ne : ∀ b j, (b ≠ 136 ∨ (j ≠ 12 ∧ j ≠ 14 ∧ j ≠ 15)) → wi u3 b j = wi u b j := fun b j h => by
        rw [d3.wi, ← hu2, wi_upI, if_neg (by omega), wi_upI, if_neg (by omega), ← hu1, wi_upI, if_neg (by omega)]
      have v12 : wi u3 136 12 = nI M.toNat := by
        rw [d3.wi, ← hu2, wi_upI, if_neg (by omega), wi_upI, if_neg (by omega), ← hu1, wi_upI, if_pos ⟨rfl, rfl⟩]
      have v14 : wi u3 136 14 = nI (cnt J 1461) := by
        rw [d3.wi, ← hu2, wi_upI, if_neg (by omega), wi_upI, if_pos ⟨rfl, rfl⟩]
      have v15 : wi u3 136 15 = nI 0 := by rw [d3.wi, ← hu2, wi_upI, if_pos ⟨rfl, rfl⟩]
      obtain ⟨w', q1, q2, q3, q4, q5, q6⟩ := loop2 i FUEL 0 u3 f3 hL3 (fun j => by rw [ne _ _ (by omega)]; exact e149 j) (by rw [ne _ _ (by omega)]; exact e11) (fun j hj => by rw [ne _ _ (by omega)]; exact e150 j hj) v12 v15 (fun n hn => by rw [g3 n hn, hL2.2.2.2 n hn, hJ]; rfl) (by omega) (Nat.lt_of_le_of_lt hz (by decide))
      refine ⟨w', ?_, q2, fun j hj => by rw [q3 j (by omega), ne _ _ (by omega), e136, if_neg (by omega)], fun j => by rw [q4 j, ne _ _ (by omega), e149], fun j hj => by rw [q5 j, ne _ _ (by omega), e150 j hj], by rw [q3 12 (by omega), v12], by rw [q3 13 (by omega), ne _ _ (by omega), e136, if_pos rfl], by rw [q3 14 (by omega), v14], q6⟩
      show F_Le_settle_24_B (F_Le_settle_24 fu) _ _ u = _
      unfold F_Le_settle_24_B F_Le_settle_67
      have hbm := q_bm M
      simp (disch := omega) only [qL, ↓qM] at hbm
      simp (disch := omega) only [qL, ↓qM, t136 Tu, e11, q_le, hms, hbm, hu1, t136 T1, (tD T1 i140).1, hs14, hu2, t136 T2, (tD T2 i144).1, p3, gd_true, beq_self_eq_true, bd_s, if_true, if_false, ↓reduceIte, ite_true, ite_false, Bool.and_self, Bool.and_true, Bool.true_and, Nat.reduceBEq, Bool.or_true, Bool.true_or, Bool.or_self]
      rw [if_pos (Nat.le_refl _)]
      exact q1
    | succ k ih =>
      intro fu i u f hLu e136 e149 e150 hg hi hf
      obtain ⟨fu, rfl⟩ : ∃ m, fu = m + 1 := ⟨fu - 1, by omega⟩
      have Tu := T.sh f.1
      have Wu := f.2.2.2 W
      have e11 : wi u 136 11 = nI z := by rw [e136, if_neg (by omega)]; exact l1
      have hli := l2 i (by omega)
      obtain ⟨u2, p2, d2, g146, g144⟩ := A_tellBy Tu Wu (k := l i) (by omega)
      have f2 : EF w u2 := f.trans (EF.df d2 (fun q h => by omega))
      have T2 := T.sh f2.1
      have W2 := f2.2.2.2 W
      have hL2 : LT S v s a u2 := hLu.same (fun q h1 h2 n => d2.g (by omega) n)
      have t146 : ∀ n, n < 1461 → gD u2 146 n = tdS D (tel S v) l i n := fun n hn => by rw [g146 n hn, hg n hn, hLu.1 (l i) hli.2 n hn]; rfl
      have t144 : ∀ n, n < 1461 → gD u2 144 n = rst D (tel S v) l (i + 1) n := fun n hn => by rw [g144 n hn, hg n hn, hLu.1 (l i) hli.2 n hn]; rfl
      have hms := A_mst T2 W2 i146 (P := tdS D (tel S v) l i) (tr := tr) t146 (by rw [← htr]; exact hL2.2.1)
      have ne : ∀ b j, (b ≠ 150 ∨ j ≠ i) → wi (upI u2 150 i (nI (mst tr (tdS D (tel S v) l i)).toNat)) b j = wi u b j := fun b j h => by rw [wi_upI, if_neg (by omega), d2.wi]
      obtain ⟨w', q1, q2⟩ := ih fu (i + 1) (upI u2 150 i (nI (mst tr (tdS D (tel S v) l i)).toNat)) (f2.trans (EF.upI _ _ _ (.inr (by omega)))) (hL2.same (fun q _ _ n => gD_j (fun _ _ => rfl) q n)) (fun j => by rw [ne _ _ (by omega)]; exact e136 j) (fun j => by rw [ne _ _ (by omega)]; exact e149 j) (fun j hj => by
        by_cases e : j = i
        · rw [e, wi_upI, if_pos ⟨rfl, rfl⟩]
        · rw [ne _ _ (.inr e)]; exact e150 j (by omega)) (fun n hn => t144 n hn) (by omega) (by omega)
      refine ⟨w', ?_, q2⟩
      show F_Le_settle_24_B (F_Le_settle_24 fu) _ _ u = _
      unfold F_Le_settle_24_B
      simp (disch := omega) only [qL, ↓qM, t136 Tu, e11, q_le, q_inb, q_nat, e149, hli.1, p2, t136 T2, hms, q_bb, nI_add, gd_true, beq_self_eq_true, bd_s, if_true, if_false, ↓reduceIte, ite_true, ite_false, Bool.and_self, Bool.and_true, Bool.true_and, Nat.reduceBEq, Bool.or_true, Bool.true_or, Bool.or_self]
      rw [if_neg (by omega), if_neg (by omega)]
      exact q1
  -- the days learned from
  have hs13 : F_Dy_size w 138 = some (nI (cnt D 1461)) := by
    rw [D_size (tD T i138) (W _ i138)]
    exact congrArg (fun z => some (nI z)) (cnt_congr 1461 (fun n hn => by rw [hL.2.2.1 n hn, hD]))
  generalize hu1 : upI w 136 13 (nI (cnt D 1461)) = u1
  have f1 : EF w u1 := by rw [← hu1]; exact EF.upI _ _ _ (.inl rfl)
  have T1 := T.sh f1.1
  have W1 := f1.2.2.2 W
  have hL1 : LT S v s a u1 := by rw [← hu1]; exact hL.same (fun q _ _ n => gD_j (fun _ _ => rfl) q n)
  obtain ⟨u2, p2, d2, g2⟩ := X_take (tD T1 i144) (tD T1 i138) (W1 _ i138)
  obtain ⟨w', q1, q2⟩ := loop1 z FUEL 0 u2 (f1.trans (EF.df d2 (fun q h => by omega))) (hL1.same (fun q h1 h2 n => d2.g (by omega) n)) (fun j => by
    rw [d2.wi, ← hu1, wi_upI]
    by_cases e : j = 13
    · rw [if_pos ⟨rfl, e⟩, if_pos e]
    · rw [if_neg (fun h => e h.2), if_neg e]) (fun j => by rw [d2.wi, ← hu1, wi_upI, if_neg (by omega)]) (fun j hj => by omega) (fun n hn => by rw [g2 n hn, hL1.2.2.1 n hn, hD]; rfl) (by omega) (Nat.lt_of_le_of_lt hz (by decide))
  refine ⟨w', ?_, q2⟩
  unfold F_Le_settle
  simp only [qL, ↓qM, t136 T, (tD T i138).1, hs13, hu1, t136 T1, (tD T1 i144).1, p2, gd_true, beq_self_eq_true, bd_s, if_true, if_false, ↓reduceIte, ite_true, ite_false, Bool.and_self, Bool.and_true, Bool.true_and, Nat.reduceBEq, Bool.or_true, Bool.true_or, Bool.or_self]
  exact q1
end
