/-! PURE: the reference counts a part's fields, comparisons and depth -/
theorem cms_snoc (P : List (Nat × Int)) (m : Nat) (z : Int) : cms (P ++ [(m, z)]) = if m < 12 then cms P ++ [m] else cms P := by
  rw [cms_app]
  by_cases h : m < 12
  · rw [if_pos h, cms_one h]
  · rw [if_neg h, cms_op h, List.append_nil]
theorem take_s {α : Type} {Q : List α} {i : Nat} {x : α} (h : Q[i]? = some x) : Q.take (i + 1) = Q.take i ++ [x] := by
  rw [List.take_succ, h]; rfl
theorem imx_le (a b : Int32) : (if b ≤ a then a else b) = imx a b := by
  unfold imx
  by_cases h : b ≤ a
  · rw [if_pos h, if_neg (fun q => by rw [Int32.lt_iff_toInt_lt] at q; rw [Int32.le_iff_toInt_le] at h; omega)]
  · rw [if_neg h, if_pos (by rw [Int32.lt_iff_toInt_lt]; rw [Int32.le_iff_toInt_le] at h; omega)]
def LMv (v : AW) (V : Nat → Nat → Int32) (g : Nat) : Prop := ∀ j i, j < 5 → i ≤ g → wi v (292 - j) i = V j i
def XD (a _ : Nat) : Prop := 288 ≤ a ∧ a ≤ 292
theorem XD_16 : ∀ a i, XD a i → 16 ≤ a := by
  intro a i h; unfold XD at h; omega
section
variable {L : Nat} {xs : Nat → Int32} {v : AW} {V : Nat → Nat → Int32} {pg : Nat → Nat} {np p g i0 m : Nat} {Q : List (Nat × Int)}
theorem M_fields (T : Top L xs v) (hp : p < 2) (hQ : MK v p Q) : F_M_fieldsOf v 271 (nI p) = some (nI (mskP (cms Q))) := by
  obtain ⟨q1, q2, q3⟩ := hQ
  have loop : ∀ j i fu, i + j = Q.length → j < fu → F_M_fieldsOf_4 v fu 271 (nI p) (nI (mskP (cms (Q.take i)))) (nI i) = some (nI (mskP (cms Q))) := by
    intro j
    induction j with
    | zero =>
      intro i fu hi hf
      obtain ⟨fu, rfl⟩ : ∃ m, fu = m + 1 := ⟨fu - 1, by omega⟩
      obtain rfl : i = Q.length := by omega
      show F_M_fieldsOf_4_B (F_M_fieldsOf_4 v fu) v 271 (nI p) _ _ = _
      unfold F_M_fieldsOf_4_B
      simp (disch := omega) only [mPar T, q_inb, q_nat, q1, gd_true, beq_self_eq_true]
      rw [if_pos (Int32.le_refl _), List.take_length]
    | succ j ih =>
      intro i fu hi hf
      obtain ⟨fu, rfl⟩ : ∃ m, fu = m + 1 := ⟨fu - 1, by omega⟩
      obtain ⟨m, z, hm⟩ : ∃ m z, Q[i]? = some (m, z) := ⟨_, _, List.getElem?_eq_getElem (show i < Q.length by omega)⟩
      have q4 := q3 i m z hm
      have e := ih (i + 1) fu (by omega) (by omega)
      rw [take_s hm, cms_snoc] at e
      have hl := mskP_16 (Q.take i)
      show F_M_fieldsOf_4_B (F_M_fieldsOf_4 v fu) v 271 (nI p) _ _ = _
      unfold F_M_fieldsOf_4_B
      simp (disch := omega) only [l_80, pk_mul, nI_add, mPar T, q_inb, q_nat, q1, q4.1, gd_true, beq_self_eq_true]
      rw [if_neg (show ¬ nI Q.length ≤ nI i by rw [q_le (by omega) (by omega)]; omega)]
      by_cases hm12 : m < 12
      · rw [if_pos hm12, mskP_app] at e
        rw [if_neg (show ¬ (12 : Int32) ≤ nI m by rw [l_12, q_le (by omega) (by omega)]; omega)]
        have e3 : nI m / 3 = nI (m / 3) := by rw [l_3, q_div (by omega) (by omega) (by omega)]
        rw [e3, (or_lt _ hl (m / 3) (by omega)).2, l_1, nI_add]
        exact e
      · rw [if_neg hm12] at e
        rw [if_pos (show (12 : Int32) ≤ nI m by rw [l_12, q_le (by omega) (by omega)]; omega), Int32.or_zero, l_1, nI_add]
        exact e
  unfold F_M_fieldsOf
  exact loop Q.length 0 FUEL (by omega) (by have := FUEL_big; omega)
theorem M_comps (T : Top L xs v) (hp : p < 2) (hQ : MK v p Q) : F_M_comparisonsOf v 271 (nI p) = some (nI (cms Q).length) := by
  obtain ⟨q1, q2, q3⟩ := hQ
  have loop : ∀ j i fu, i + j = Q.length → j < fu → F_M_comparisonsOf_4 v fu 271 (nI p) (nI (cms (Q.take i)).length) (nI i) = some (nI (cms Q).length) := by
    intro j
    induction j with
    | zero =>
      intro i fu hi hf
      obtain ⟨fu, rfl⟩ : ∃ m, fu = m + 1 := ⟨fu - 1, by omega⟩
      obtain rfl : i = Q.length := by omega
      show F_M_comparisonsOf_4_B (F_M_comparisonsOf_4 v fu) v 271 (nI p) _ _ = _
      unfold F_M_comparisonsOf_4_B
      simp (disch := omega) only [mPar T, q_inb, q_nat, q1, gd_true, beq_self_eq_true]
      rw [if_pos (Int32.le_refl _), List.take_length]
    | succ j ih =>
      intro i fu hi hf
      obtain ⟨fu, rfl⟩ : ∃ m, fu = m + 1 := ⟨fu - 1, by omega⟩
      obtain ⟨m, z, hm⟩ : ∃ m z, Q[i]? = some (m, z) := ⟨_, _, List.getElem?_eq_getElem (show i < Q.length by omega)⟩
      have q4 := q3 i m z hm
      have e := ih (i + 1) fu (by omega) (by omega)
      rw [take_s hm, cms_snoc] at e
      show F_M_comparisonsOf_4_B (F_M_comparisonsOf_4 v fu) v 271 (nI p) _ _ = _
      unfold F_M_comparisonsOf_4_B
      simp (disch := omega) only [l_80, pk_mul, nI_add, mPar T, q_inb, q_nat, q1, q4.1, gd_true, beq_self_eq_true]
      rw [if_neg (show ¬ nI Q.length ≤ nI i by rw [q_le (by omega) (by omega)]; omega)]
      by_cases hm12 : m < 12
      · rw [if_pos hm12, List.length_append] at e
        rw [if_neg (show ¬ (12 : Int32) ≤ nI m by rw [l_12, q_le (by omega) (by omega)]; omega), l_1, nI_add, nI_add]
        exact e
      · rw [if_neg hm12] at e
        rw [if_pos (show (12 : Int32) ≤ nI m by rw [l_12, q_le (by omega) (by omega)]; omega), Int32.add_zero, l_1, nI_add]
        exact e
  unfold F_M_comparisonsOf
  exact loop Q.length 0 FUEL (by omega) (by have := FUEL_big; omega)
theorem M_beginG (T : Top L xs v) (hg : g ≤ 80) : ∃ v', F_M_beginGroup 271 (nI g) v = some v' ∧ FR (fun a i => 288 ≤ a ∧ a ≤ 292 ∧ i = g) v v' ∧ ∀ j, j < 5 → wi v' (292 - j) g = nI 0 := by
  refine ⟨_, ?_, (((((FR.refl (fun a i => 288 ≤ a ∧ a ≤ 292 ∧ i = g) v).s 288 g (nI 0) ?_).s 289 g (nI 0) ?_).s 290 g (nI 0) ?_).s 291 g (nI 0) ?_).s 292 g (nI 0) ?_, ?_⟩
  · unfold F_M_beginGroup
    simp (disch := omega) only [qL, ↓qM, mDeep T, q_inb, q_nat, wk_upI, wn_upI, wr_upI, gd_true, beq_self_eq_true, bd_s, if_true, if_false, ↓reduceIte, ite_true, ite_false, Bool.and_self, Bool.and_true, Bool.true_and, Nat.reduceBEq, Bool.or_true, Bool.true_or, Bool.or_self]
  · exact ⟨by omega, by omega, rfl⟩
  · exact ⟨by omega, by omega, rfl⟩
  · exact ⟨by omega, by omega, rfl⟩
  · exact ⟨by omega, by omega, rfl⟩
  · exact ⟨by omega, by omega, rfl⟩
  · intro j hj
    have : j = 0 ∨ j = 1 ∨ j = 2 ∨ j = 3 ∨ j = 4 := by omega
    rcases this with e | e | e | e | e <;> subst e <;> simp (disch := omega) only [Nat.reduceSub, wu0, wu1]
theorem LMv.opn {h : Nat} {v' : AW} (lm : LMv v V h) (hg : g ≤ h + 1) (fr : FR (fun a i => 288 ≤ a ∧ a ≤ 292 ∧ i = g) v v') (hz : ∀ j, j < 5 → wi v' (292 - j) g = nI 0) : LMv v' (opL V g) g := by
  intro j i hj hi
  by_cases e : i = g
  · subst e; rw [opL_eq]; exact hz j hj
  · rw [opL_ne e, fr.i (by omega)]
    exact lm j i hj (by omega)
theorem M_addF (T : Top L xs v) (hg : g ≤ 80) (lm : LMv v V g) (d : Int32) : ∃ v', F_M_addFactor 271 (nI g) d v = some v' ∧ FR XD v v' ∧ LMv v' (adF V g d) g := by
  have l0 : wi v 292 g = V 0 g := lm 0 g (by omega) (by omega)
  have l1 : wi v 291 g = V 1 g := lm 1 g (by omega) (by omega)
  have l2 : wi v 290 g = V 2 g := lm 2 g (by omega) (by omega)
  have l3 : wi v 289 g = V 3 g := lm 3 g (by omega) (by omega)
  have l4 : wi v 288 g = V 4 g := lm 4 g (by omega) (by omega)
  refine ⟨_, ?_, (((FR.refl XD v).s 292 g (nI 0) ?_).s 290 g (imx (V 2 g) (d + V 0 g)) ?_).s 291 g (V 1 g + nI 1) ?_, ?_⟩
  · unfold F_M_addFactor F_M_addFactor_41
    simp (disch := omega) only [qL, ↓qM, mDeep T, q_inb, q_nat, wk_upI, wn_upI, wr_upI, wu0, wu1, l0, l1, l2, gd_true, beq_self_eq_true, bd_s, if_true, if_false, ↓reduceIte, ite_true, ite_false, Bool.and_self, Bool.and_true, Bool.true_and, Nat.reduceBEq, Bool.or_true, Bool.true_or, Bool.or_self]
    rw [← imx_le]
    by_cases e : d + V 0 g ≤ V 2 g
    · rw [if_pos e, if_pos e]
    · rw [if_neg e, if_neg e]
  · exact ⟨by omega, by omega⟩
  · exact ⟨by omega, by omega⟩
  · exact ⟨by omega, by omega⟩
  · intro j i hj hi
    by_cases e : i = g
    · subst e
      have : j = 0 ∨ j = 1 ∨ j = 2 ∨ j = 3 ∨ j = 4 := by omega
      rcases this with e | e | e | e | e <;> subst e <;> simp (disch := omega) only [Nat.reduceSub, wu0, wu1, l3, l4, adF_0, adF_1, adF_2, adF_3]
    · rw [adF_ne e, wu1 (by omega), wu1 (by omega), wu1 (by omega)]
      exact lm j i hj hi
theorem M_endT (T : Top L xs v) (hg : g ≤ 80) (lm : LMv v V g) : ∃ v', F_M_endTerm 271 (nI g) v = some v' ∧ FR XD v v' ∧ LMv v' (enT V g) g := by
  have l0 : wi v 292 g = V 0 g := lm 0 g (by omega) (by omega)
  have l1 : wi v 291 g = V 1 g := lm 1 g (by omega) (by omega)
  have l2 : wi v 290 g = V 2 g := lm 2 g (by omega) (by omega)
  have l3 : wi v 289 g = V 3 g := lm 3 g (by omega) (by omega)
  have l4 : wi v 288 g = V 4 g := lm 4 g (by omega) (by omega)
  refine ⟨_, ?_, ((((FR.refl XD v).s 288 g (imx (V 4 g) (if V 1 g ≤ nI 1 then V 2 g else V 2 g + nI 1)) ?_).s 289 g (V 3 g + nI 1) ?_).s 290 g (nI 0) ?_).s 291 g (nI 0) ?_, ?_⟩
  · unfold F_M_endTerm
    have k48 : ∀ x, F_M_endTerm_48 271 (nI g) x (nI g) 288 v = some (upI (upI (upI (upI v 288 g x) 289 g (V 3 g + nI 1)) 290 g (nI 0)) 291 g (nI 0)) := by
      intro x
      unfold F_M_endTerm_48
      simp (disch := omega) only [qL, ↓qM, mDeep T, q_inb, q_nat, wk_upI, wn_upI, wr_upI, wu0, wu1, l3, gd_true, beq_self_eq_true, bd_s, if_true, if_false, ↓reduceIte, ite_true, ite_false, Bool.and_self, Bool.and_true, Bool.true_and, Nat.reduceBEq, Bool.or_true, Bool.true_or, Bool.or_self]
    have k21 : ∀ a b, F_M_endTerm_21 271 (nI g) a b v = some (upI (upI (upI (upI v 288 g (imx (V 4 g) (b + a))) 289 g (V 3 g + nI 1)) 290 g (nI 0)) 291 g (nI 0)) := by
      intro a b
      unfold F_M_endTerm_21
      simp (disch := omega) only [mDeep T, q_inb, q_nat, l4, k48, gd_true, beq_self_eq_true]
      rw [← imx_le]
      by_cases e : b + a ≤ V 4 g
      · rw [if_pos e, if_pos e]
      · rw [if_neg e, if_neg e]
    simp (disch := omega) only [qL, ↓qM, mDeep T, q_inb, q_nat, l1, l2, k21, gd_true, beq_self_eq_true, bd_s, if_true, if_false, ↓reduceIte, ite_true, ite_false, Bool.and_self, Bool.and_true, Bool.true_and, Nat.reduceBEq, Bool.or_true, Bool.true_or, Bool.or_self]
    by_cases e : V 1 g ≤ nI 1
    · rw [if_pos e, if_pos e, show V 2 g + nI 0 = V 2 g from Int32.add_zero _]
    · rw [if_neg e, if_neg e]
  · exact ⟨by omega, by omega⟩
  · exact ⟨by omega, by omega⟩
  · exact ⟨by omega, by omega⟩
  · exact ⟨by omega, by omega⟩
  · intro j i hj hi
    by_cases e : i = g
    · subst e
      have : j = 0 ∨ j = 1 ∨ j = 2 ∨ j = 3 ∨ j = 4 := by omega
      rcases this with e | e | e | e | e <;> subst e
      · simp (disch := omega) only [Nat.reduceSub, wu0, wu1, l0, enT_0]
      · rw [enT_1 (.inl rfl)]; simp (disch := omega) only [Nat.reduceSub, wu0, wu1]
      · rw [enT_1 (.inr rfl)]; simp (disch := omega) only [Nat.reduceSub, wu0, wu1]
      · simp (disch := omega) only [Nat.reduceSub, wu0, wu1, enT_3]
      · simp (disch := omega) only [Nat.reduceSub, wu0, wu1, enT_4]
    · rw [enT_ne e, wu1 (by omega), wu1 (by omega), wu1 (by omega), wu1 (by omega)]
      exact lm j i hj hi
theorem M_endG (T : Top L xs v) (hg : g ≤ 80) (lm : LMv v V g) : ∃ v', F_M_endGroup 271 (nI g) v = some (dpt (enT V g) g, v') ∧ FR XD v v' ∧ LMv v' (enT V g) g := by
  obtain ⟨v', h1, h2, h3⟩ := M_endT T hg lm
  have T1 := T.sh (h2.sh XD_16)
  have l3 : wi v' 289 g = enT V g 3 g := h3 3 g (by omega) (by omega)
  have l4 : wi v' 288 g = enT V g 4 g := h3 4 g (by omega) (by omega)
  refine ⟨v', ?_, h2, h3⟩
  unfold F_M_endGroup
  simp (disch := omega) only [qL, ↓qM, mDeep T, h1, mDeep T1, q_inb, q_nat, l3, l4, gd_true, beq_self_eq_true, bd_s, if_true, if_false, ↓reduceIte, ite_true, ite_false, Bool.and_self, Bool.and_true, Bool.true_and, Nat.reduceBEq, Bool.or_true, Bool.true_or, Bool.or_self]
  unfold dpt
  by_cases e : enT V g 3 g ≤ nI 1
  · rw [if_pos e, if_pos e, show enT V g 4 g + nI 0 = enT V g 4 g from Int32.add_zero _]
  · rw [if_neg e, if_neg e]
/-- the depth of a part -/
theorem M_deep42 (hnP : np ≤ 80) (hpg : ∀ i, i < np → pg i ≤ 126) {K : Nat → Nat → Int32} (hend : dpr pg i0 m = (0, K)) (hds : dsf pg i0 m) (hst : i0 + m = np ∨ (i0 + m < np ∧ (pg (i0 + m) = 58 ∨ pg (i0 + m) = 64))) : ∀ (j q fu : Nat) (v : AW), q + j = m → j < fu → Top L xs v → wi v 271 9 = nI np → (∀ i, i < np → wi v 279 i = nI (pg i)) → LMv v (dpr pg i0 q).2 (dpr pg i0 q).1 → ∃ v', F_M_deepOf_42 fu 271 (nI (i0 + q)) (nI (dpr pg i0 q).1) v = some (dpt (enT K 0) 0, v') ∧ FR XD v v' := by
  intro j
  induction j with
  | zero =>
    intro q fu v hq hf T h9 h279 lm
    obtain ⟨fu, rfl⟩ : ∃ m, fu = m + 1 := ⟨fu - 1, by omega⟩
    obtain rfl : q = m := by omega
    rw [hend] at lm
    obtain ⟨v', e1, e2, e3⟩ := M_endG T (show 0 ≤ 80 by omega) lm
    have k181 : F_M_deepOf_181 271 v = some (dpt (enT K 0) 0, v') := by
      unfold F_M_deepOf_181
      simp only [l_0, mK T, e1, gd_true, beq_self_eq_true, bd_s]
    refine ⟨v', ?_, e2⟩
    show F_M_deepOf_42_B (F_M_deepOf_42 fu) 271 _ _ v = _
    unfold F_M_deepOf_42_B
    rcases hst with hst | ⟨h1, h2⟩
    · simp only [mK T, h9, k181, gd_true, beq_self_eq_true]
      rw [hst, if_pos (Int32.le_refl _)]
    · have c := h279 (i0 + q) h1
      simp (disch := omega) only [mPg T, h9, k181, q_inb, q_nat, c, gd_true, beq_self_eq_true]
      rw [if_neg (show ¬ nI np ≤ nI (i0 + q) by rw [q_le (by omega) (by omega)]; omega)]
      rcases h2 with h2 | h2
      · rw [if_pos (show nI (pg (i0 + q)) = (58 : Int32) by rw [h2]; rfl)]
      · rw [if_neg (show ¬ nI (pg (i0 + q)) = (58 : Int32) by rw [h2]; decide +kernel), if_pos (show nI (pg (i0 + q)) = (64 : Int32) by rw [h2]; rfl)]
  | succ j ih =>
    intro q fu v hq hf T h9 h279 lm
    obtain ⟨fu, rfl⟩ : ∃ m, fu = m + 1 := ⟨fu - 1, by omega⟩
    have hlt : i0 + q < np := by omega
    have hc := hpg _ hlt
    have c := h279 _ hlt
    obtain ⟨d1, d2, d3, d4⟩ := hds q (by omega)
    obtain ⟨g, V, hgV⟩ : ∃ g V, dpr pg i0 q = (g, V) := ⟨_, _, rfl⟩
    rw [hgV] at lm d3 d4 ⊢
    have hs := dpr_s hgV
    have rec' : ∀ g' V' v1, dst (pg (i0 + q)) (g, V) = (g', V') → FR XD v v1 → LMv v1 V' g' → ∃ v', F_M_deepOf_42 fu 271 (nI (i0 + q + 1)) (nI g') v1 = some (dpt (enT K 0) 0, v') ∧ FR XD v v' := by
      intro g' V' v1 e f lm1
      have e2 : dpr pg i0 (q + 1) = (g', V') := hs.trans e
      obtain ⟨v', r1, r2⟩ := ih (q + 1) fu v1 (by omega) (by omega) (T.sh (f.sh XD_16)) ((f.i (by unfold XD; omega)).trans h9) (fun i hi => (f.i (by unfold XD; omega)).trans (h279 i hi)) (by rw [e2]; exact lm1)
      rw [e2] at r1
      exact ⟨v', r1, f.trans r2⟩
    have opn' : F_M_deepOf_42 (fu + 1) 271 (nI (i0 + q)) (nI g) v = F_M_deepOf_42_B (F_M_deepOf_42 fu) 271 (nI (i0 + q)) (nI g) v := rfl
    rw [opn']
    unfold F_M_deepOf_42_B
    simp (disch := omega) only [mPg T, h9, q_inb, q_nat, c, gd_true, beq_self_eq_true]
    rw [if_neg (show ¬ nI np ≤ nI (i0 + q) by rw [q_le (by omega) (by omega)]; omega), if_neg (show ¬ nI (pg (i0 + q)) = (58 : Int32) from nIne (k := 58) hc (by omega) d1), if_neg (show ¬ nI (pg (i0 + q)) = (64 : Int32) from nIne (k := 64) hc (by omega) d2)]
    by_cases c33 : pg (i0 + q) = 33
    · rw [if_pos (show nI (pg (i0 + q)) = (33 : Int32) by rw [c33]; rfl)]
      have l0 : wi v 292 g = V 0 g := lm 0 g (by omega) (by omega)
      simp (disch := omega) only [l_1, mDeep T, q_inb, q_nat, nI_add, l0, gd_true, beq_self_eq_true]
      refine rec' g (nuL V g) _ (by rw [c33]; rfl) ((FR.refl XD v).s _ _ _ ⟨by omega, by omega⟩) ?_
      intro j i hj hi
      by_cases e : i = g ∧ j = 0
      · rw [e.1, e.2, nuL_eq, show 292 - 0 = 292 from rfl, wu0]
      · rw [nuL_ne (by omega), wu1 (by omega)]; exact lm j i hj hi
    rw [if_neg (show ¬ nI (pg (i0 + q)) = (33 : Int32) from nIne (k := 33) hc (by omega) c33)]
    by_cases c40 : pg (i0 + q) = 40
    · rw [if_pos (show nI (pg (i0 + q)) = (40 : Int32) by rw [c40]; rfl)]
      obtain ⟨v1, e1, e2, e3⟩ := M_beginG T (show g + 1 ≤ 80 by omega)
      simp only [l_1, nI_add, e1, bd_s]
      exact rec' (g + 1) (opL V (g + 1)) v1 (by rw [c40]; rfl) (e2.mono (fun a i h => ⟨h.1, h.2.1⟩)) (lm.opn (by omega) e2 e3)
    rw [if_neg (show ¬ nI (pg (i0 + q)) = (40 : Int32) from nIne (k := 40) hc (by omega) c40)]
    by_cases c41 : pg (i0 + q) = 41
    · rw [if_pos (show nI (pg (i0 + q)) = (41 : Int32) by rw [c41]; rfl)]
      have hg0 := d4 c41
      obtain ⟨v1, e1, e2, e3⟩ := M_endG T (show g ≤ 80 by omega) lm
      have T1 := T.sh (e2.sh XD_16)
      obtain ⟨v2, f1, f2, f3⟩ := M_addF T1 (show g - 1 ≤ 80 by omega) (V := enT V g) (g := g - 1) (fun j i hj hi => e3 j i hj (by omega)) (dpt (enT V g) g)
      simp only [e1, bd_s, show nI g + -nI 1 = nI (g - 1) from q_am (a := g) (b := 1) (by omega), mK T1, f1, l_1, nI_add, gd_true, beq_self_eq_true]
      exact rec' (g - 1) _ v2 (by rw [c41]; rfl) (e2.trans f2) f3
    rw [if_neg (show ¬ nI (pg (i0 + q)) = (41 : Int32) from nIne (k := 41) hc (by omega) c41), M_fieldOf hc]
    by_cases cf : fdx (pg (i0 + q)) < 4
    · rw [if_pos cf, if_neg (show ¬ nI (fdx (pg (i0 + q))) = (-1 : Int32) by rw [show (-1 : Int32) = mI 1 from rfl, q_nm (by omega) (by omega) (by omega)]; exact not_false)]
      obtain ⟨v1, e1, e2, e3⟩ := M_addF T (show g ≤ 80 by omega) lm (nI 1)
      simp only [l_1, nI_add, e1, bd_s]
      exact rec' g _ v1 (dst_fd (fdx_lt cf)) e2 e3
    have nf : pg (i0 + q) ≠ 83 ∧ pg (i0 + q) ≠ 87 ∧ pg (i0 + q) ≠ 82 ∧ pg (i0 + q) ≠ 84 := by
      unfold fdx at cf
      refine ⟨fun e => cf ?_, fun e => cf ?_, fun e => cf ?_, fun e => cf ?_⟩ <;> rw [e] <;> decide
    rw [if_neg cf, if_pos (show mI 1 = (-1 : Int32) from rfl)]
    by_cases c124 : pg (i0 + q) = 124
    · rw [if_pos (show nI (pg (i0 + q)) = (124 : Int32) by rw [c124]; rfl)]
      obtain ⟨v1, e1, e2, e3⟩ := M_endT T (show g ≤ 80 by omega) lm
      simp only [l_1, nI_add, e1, bd_s]
      exact rec' g _ v1 (by rw [c124]; rfl) e2 e3
    · rw [if_neg (show ¬ nI (pg (i0 + q)) = (124 : Int32) from nIne (k := 124) hc (by omega) c124)]
      simp only [l_1, nI_add]
      exact rec' g V v (dst_plain (by omega)) (FR.refl _ _) lm
theorem M_deep (T : Top L xs v) (hnP : np ≤ 80) (hpg : ∀ i, i < np → pg i ≤ 126) {K : Nat → Nat → Int32} (hend : dpr pg i0 m = (0, K)) (hds : dsf pg i0 m) (hst : i0 + m = np ∨ (i0 + m < np ∧ (pg (i0 + m) = 58 ∨ pg (i0 + m) = 64))) (hs1 : ST1 pg np p i0) (h9 : wi v 271 9 = nI np) (h279 : ∀ i, i < np → wi v 279 i = nI (pg i)) : ∃ v', F_M_deepOf 271 (nI p) v = some (dpt (enT K 0) 0, v') ∧ FR XD v v' := by
  have hf := FUEL_big
  obtain ⟨v1, e1, e2, e3⟩ := M_beginG T (show 0 ≤ 80 by omega)
  have f1 : FR XD v v1 := e2.mono (fun a i h => ⟨h.1, h.2.1⟩)
  have T1 := T.sh (f1.sh XD_16)
  have lm : LMv v1 (fun _ _ => nI 0) 0 := fun j i hj hi => by rw [show i = 0 by omega]; exact e3 j hj
  obtain ⟨v2, r1, r2⟩ := M_deep42 (L := L) (xs := xs) hnP hpg hend hds hst m 0 FUEL v1 (by omega) (by omega) T1 ((f1.i (by unfold XD; omega)).trans h9) (fun i hi => (f1.i (by unfold XD; omega)).trans (h279 i hi)) lm
  have k35 : F_M_deepOf_35 271 (nI i0) v = some (dpt (enT K 0) 0, v2) := by
    unfold F_M_deepOf_35
    simp only [l_0, mK T, e1, gd_true, beq_self_eq_true, bd_s]
    exact r1
  refine ⟨v2, ?_, f1.trans r2⟩
  unfold F_M_deepOf
  rcases hs1 with ⟨hp, hi⟩ | ⟨hp, hi, hc, hn⟩ <;> subst hp
  · subst hi
    obtain ⟨n, hn, -⟩ := FUEL_s 0 (by omega)
    rw [hn]
    show F_M_deepOf_2_B (F_M_deepOf_2 n) 271 (nI 0) (nI 0) v = _
    unfold F_M_deepOf_2_B
    rw [if_neg (show ¬ nI 0 = (1 : Int32) by decide +kernel), k35]
  · have loop : ∀ j i fu, i + j = i0 → j < fu → F_M_deepOf_2 fu 271 (nI 1) (nI i) v = some (dpt (enT K 0) 0, v2) := by
      intro j
      induction j with
      | zero =>
        intro i fu hij hf
        obtain ⟨fu, rfl⟩ : ∃ m, fu = m + 1 := ⟨fu - 1, by omega⟩
        obtain rfl : i = i0 := by omega
        show F_M_deepOf_2_B (F_M_deepOf_2 fu) 271 (nI 1) (nI i) v = _
        unfold F_M_deepOf_2_B
        rw [if_pos (show nI 1 = (1 : Int32) from rfl)]
        simp (disch := omega) only [mPg T, q_inb, q_nat, h279 i hi, k35, gd_true, beq_self_eq_true]
        rcases hc with h | h
        · rw [if_pos (show nI (pg i) = (126 : Int32) by rw [h]; rfl)]
        · rw [if_neg (show ¬ nI (pg i) = (126 : Int32) by rw [h]; decide +kernel), if_pos (show nI (pg i) = (94 : Int32) by rw [h]; rfl)]
      | succ j ih =>
        intro i fu hij hf
        obtain ⟨fu, rfl⟩ : ∃ m, fu = m + 1 := ⟨fu - 1, by omega⟩
        have hi2 : i < np := by omega
        have e := ih (i + 1) fu (by omega) (by omega)
        have hni := hn i (by omega)
        show F_M_deepOf_2_B (F_M_deepOf_2 fu) 271 (nI 1) (nI i) v = _
        unfold F_M_deepOf_2_B
        rw [if_pos (show nI 1 = (1 : Int32) from rfl)]
        simp (disch := omega) only [mPg T, q_inb, q_nat, h279 i hi2, gd_true, beq_self_eq_true]
        rw [if_neg (show ¬ nI (pg i) = (126 : Int32) from nIne (k := 126) (hpg i hi2) (by omega) hni.1), if_neg (show ¬ nI (pg i) = (94 : Int32) from nIne (k := 94) (hpg i hi2) (by omega) hni.2), l_1, nI_add]
        exact e
    exact loop i0 0 FUEL (by omega) (by omega)
end
