/-! PURE: the reference's page: marks and waits -/
def MK (v : AW) (p : Nat) (Q : List (Nat × Int)) : Prop := wi v 282 p = nI Q.length ∧ Q.length ≤ 80 ∧ ∀ i m z, Q[i]? = some (m, z) → wi v 280 (80 * p + i) = nI m ∧ (wi v 281 (80 * p + i)).toInt = z ∧ m ≤ 14
def WT (v : AW) (W : List Nat) : Prop := wi v 271 28 = nI W.length ∧ W.length ≤ 80 ∧ ∀ i m, W[i]? = some m → wi v 283 i = nI m ∧ m ≤ 15
def XMk (p a i : Nat) : Prop := ((a = 280 ∨ a = 281) ∧ 80 * p ≤ i ∧ i < 80 * p + 80) ∨ (a = 282 ∧ i = p)
def XY (p a i : Nat) : Prop := XMk p a i ∨ (a = 271 ∧ i = 28)
theorem MK.fr {X : Nat → Nat → Prop} {v v' : AW} {p : Nat} {Q : List (Nat × Int)} (h : MK v p Q) (f : FR X v v') (h2 : ¬ X 282 p) (h3 : ∀ i, i < 80 → ¬ X 280 (80 * p + i) ∧ ¬ X 281 (80 * p + i)) : MK v' p Q := by
  obtain ⟨q1, q2, q3⟩ := h
  refine ⟨(f.i h2).trans q1, q2, fun i m z hi => ?_⟩
  have hl : i < Q.length := by rw [List.getElem?_eq_some_iff] at hi; exact hi.1
  rw [f.i (h3 i (by omega)).1, f.i (h3 i (by omega)).2]
  exact q3 i m z hi
theorem WT.fr {X : Nat → Nat → Prop} {v v' : AW} {W : List Nat} (h : WT v W) (f : FR X v v') (h2 : ¬ X 271 28) (h3 : ∀ i, ¬ X 283 i) : WT v' W := by
  obtain ⟨q1, q2, q3⟩ := h
  refine ⟨(f.i h2).trans q1, q2, fun i m hi => ?_⟩
  rw [f.i (h3 i)]
  exact q3 i m hi
theorem get_last {α : Type} {U : List α} {x y : α} {i : Nat} (h : (U ++ [x])[i]? = some y) : U[i]? = some y ∨ (i = U.length ∧ y = x) := by
  by_cases e : i < U.length
  · rw [List.getElem?_append_left e] at h; exact .inl h
  · rw [List.getElem?_append_right (by omega)] at h
    by_cases q : i - U.length = 0
    · rw [q] at h; simp at h; exact .inr ⟨by omega, h.symm⟩
    · obtain ⟨j, hj⟩ : ∃ j, i - U.length = j + 1 := ⟨i - U.length - 1, by omega⟩
      rw [hj] at h; simp at h
theorem XY_16 {p : Nat} : ∀ a i, XY p a i → 16 ≤ a := by
  intro a i h
  unfold XY XMk at h
  omega
section
variable {L : Nat} {xs : Nat → Int32} {v : AW}
theorem M_mark (T : Top L xs v) {p m : Nat} {Q : List (Nat × Int)} (hp : p < 2) (h11 : wi v 271 11 = nI p) (hQ : MK v p Q) (hl : Q.length < 80) (hm : m ≤ 14) (x : Int32) : ∃ v', F_M_mark 271 (nI m) x v = some v' ∧ FR (XMk p) v v' ∧ MK v' p (Q ++ [(m, x.toInt)]) := by
  obtain ⟨q1, q2, q3⟩ := hQ
  refine ⟨_, ?_, (((FR.refl (XMk p) v).s 280 (80 * p + Q.length) (nI m) ?_).s 281 (80 * p + Q.length) x ?_).s 282 p (nI (Q.length + 1)) ?_, ?_, ?_, ?_⟩
  · unfold F_M_mark
    simp (disch := omega) only [qL, ↓qM, mPar T, h11, q1, pk_mul, nI_add, q_inb, q_nat, wk_upI, wn_upI, wr_upI, wu0, wu1, gd_true, beq_self_eq_true, bd_s, if_true, if_false, ↓reduceIte, ite_true, ite_false, Bool.and_self, Bool.and_true, Bool.true_and, Nat.reduceBEq, Bool.or_true, Bool.true_or, Bool.or_self]
  · exact .inl ⟨.inl rfl, by omega, by omega⟩
  · exact .inl ⟨.inr rfl, by omega, by omega⟩
  · exact .inr ⟨rfl, rfl⟩
  · rw [wu0, List.length_append]; rfl
  · rw [List.length_append]; show Q.length + 1 ≤ 80; omega
  · intro i m' z hi
    rcases get_last hi with h | ⟨h, e⟩
    · have hl2 : i < Q.length := by rw [List.getElem?_eq_some_iff] at h; exact h.1
      simp (disch := omega) only [wu1]
      exact q3 i m' z h
    · injection e with e1 e2
      subst e1 e2 h
      simp (disch := omega) only [wu0, wu1]
      exact ⟨trivial, trivial, hm⟩
/-- what waits is laid down -/
theorem M_layLoop {p most : Nat} (hp : p < 2) (hmo : most ≤ 14) (W1 : List Nat) (hW : W1 = [] ∨ ∃ U r, W1 = U ++ [r] ∧ most < r) : ∀ (R : List Nat) (v : AW) (Q : List (Nat × Int)) (fu : Nat), Top L xs v → wi v 271 11 = nI p → WT v (W1 ++ R.reverse) → (∀ r, r ∈ R → r ≤ most) → MK v p Q → Q.length + R.length ≤ 80 → R.length < fu → ∃ v', F_M_layDown_0 fu 271 (nI most) v = some v' ∧ FR (XY p) v v' ∧ WT v' W1 ∧ MK v' p (Q ++ R.map (fun r => (r, 0))) := by
  intro R
  induction R with
  | nil =>
    intro v Q fu T h11 hWT hR hQ hl hf
    obtain ⟨fu, rfl⟩ : ∃ m, fu = m + 1 := ⟨fu - 1, by simp at hf; omega⟩
    rw [List.reverse_nil, List.append_nil] at hWT
    refine ⟨v, ?_, FR.refl _ v, hWT, by rw [List.map_nil, List.append_nil]; exact hQ⟩
    show F_M_layDown_0_B (F_M_layDown_0 fu) 271 (nI most) v = some v
    unfold F_M_layDown_0_B
    obtain ⟨w1, w2, w3⟩ := hWT
    rcases hW with e | ⟨U, r, e, hr⟩
    · subst e
      have w1' : wi v 271 28 = nI 0 := w1
      simp (disch := omega) only [qL, ↓qM, mPar T, w1', q_le, gd_true, beq_self_eq_true, bd_s, if_true, if_false, ↓reduceIte, ite_true, ite_false, Bool.and_self, Bool.and_true, Bool.true_and, Nat.reduceBEq, Bool.or_true, Bool.true_or, Bool.or_self]
      rw [if_pos (by omega)]
    · subst e
      have hlen : (U ++ [r]).length = U.length + 1 := by rw [List.length_append]; rfl
      rw [hlen] at w1 w2
      have w4 := w3 U.length r (by rw [List.getElem?_append_right (by omega), Nat.sub_self]; rfl)
      simp (disch := omega) only [qL, ↓qM, mPar T, w1, q_le, q_lt, q_sub, Nat.add_sub_cancel, q_inb, q_nat, w4.1, gd_true, beq_self_eq_true, bd_s, if_true, if_false, ↓reduceIte, ite_true, ite_false, Bool.and_self, Bool.and_true, Bool.true_and, Nat.reduceBEq, Bool.or_true, Bool.true_or, Bool.or_self]
      rw [if_neg (by omega), if_pos hr]
  | cons r R ih =>
    intro v Q fu T h11 hWT hR hQ hl hf
    obtain ⟨fu, rfl⟩ : ∃ m, fu = m + 1 := ⟨fu - 1, by simp at hf; omega⟩
    rw [List.length_cons] at hl hf
    have hr := hR r List.mem_cons_self
    rw [List.reverse_cons, ← List.append_assoc] at hWT
    obtain ⟨w1, w2, w3⟩ := hWT
    have hlen : ((W1 ++ R.reverse) ++ [r]).length = (W1 ++ R.reverse).length + 1 := by rw [List.length_append]; rfl
    rw [hlen] at w1 w2
    have w4 := w3 (W1 ++ R.reverse).length r (by rw [List.getElem?_append_right (by omega), Nat.sub_self]; rfl)
    have fr1 : FR (XY p) v (upI v 271 28 (nI (W1 ++ R.reverse).length)) := (FR.refl (XY p) v).s 271 28 _ (.inr ⟨rfl, rfl⟩)
    have T1 := T.sh (fr1.sh XY_16)
    have hQ1 : MK (upI v 271 28 (nI (W1 ++ R.reverse).length)) p Q := hQ.fr ((FR.refl (fun a i => a = 271 ∧ i = 28) v).s 271 28 _ ⟨rfl, rfl⟩) (by omega) (fun i hi => ⟨by omega, by omega⟩)
    obtain ⟨v2, m1, m2, m3⟩ := M_mark T1 (m := r) hp (by rw [wu1 (by omega)]; exact h11) hQ1 (by omega) (by omega) (nI 0)
    have fr2 : FR (XY p) v v2 := fr1.trans (m2.mono (fun a i q => .inl q))
    have T2 := T.sh (fr2.sh XY_16)
    have hW2 : WT v2 (W1 ++ R.reverse) := by
      refine ⟨by rw [m2.i (by unfold XMk; omega), wu0], by omega, fun i m hi => ?_⟩
      rw [m2.i (by unfold XMk; omega), wu1 (by omega)]
      have hl2 : i < (W1 ++ R.reverse).length := by rw [List.getElem?_eq_some_iff] at hi; exact hi.1
      exact w3 i m (by rw [List.getElem?_append_left hl2]; exact hi)
    obtain ⟨v3, n1, n2, n3, n4⟩ := ih v2 (Q ++ [(r, (nI 0).toInt)]) fu T2 (by rw [m2.i (by unfold XMk; omega), wu1 (by omega)]; exact h11) hW2 (fun x hx => hR x (List.mem_cons_of_mem _ hx)) m3 (by rw [List.length_append]; show Q.length + 1 + R.length ≤ 80; omega) (by omega)
    refine ⟨v3, ?_, fr2.trans n2, n3, ?_⟩
    · show F_M_layDown_0_B (F_M_layDown_0 fu) 271 (nI most) v = some v3
      unfold F_M_layDown_0_B
      simp (disch := omega) only [qL, ↓qM, mPar T, w1, q_le, q_lt, q_sub, Nat.add_sub_cancel, q_inb, q_nat, w4.1, wk_upI, wn_upI, wr_upI, wu0, wu1, m1, n1, gd_true, beq_self_eq_true, bd_s, if_true, if_false, ↓reduceIte, ite_true, ite_false, Bool.and_self, Bool.and_true, Bool.true_and, Nat.reduceBEq, Bool.or_true, Bool.true_or, Bool.or_self]
      rw [if_neg (by omega), if_neg (by omega)]
    · rw [List.map_cons, show ((r, 0) :: R.map (fun r => (r, (0 : Int)))) = [(r, (0 : Int))] ++ R.map (fun r => (r, (0 : Int))) from rfl, ← List.append_assoc]
      exact n4
theorem FUEL_big : 1000 < FUEL := by decide +kernel
theorem M_lay (T : Top L xs v) {p most : Nat} (hp : p < 2) (hmo : most ≤ 14) {W1 R : List Nat} {Q : List (Nat × Int)} (hW : W1 = [] ∨ ∃ U r, W1 = U ++ [r] ∧ most < r) (h11 : wi v 271 11 = nI p) (hWT : WT v (W1 ++ R.reverse)) (hR : ∀ r, r ∈ R → r ≤ most) (hQ : MK v p Q) (hl : Q.length + R.length ≤ 80) : ∃ v', F_M_layDown 271 (nI most) v = some v' ∧ FR (XY p) v v' ∧ WT v' W1 ∧ MK v' p (Q ++ R.map (fun r => (r, 0))) :=
  M_layLoop hp hmo W1 hW R v Q FUEL T h11 hWT hR hQ hl (by have := FUEL_big; omega)
theorem map_rep (n : Nat) : (List.replicate n 12).map (fun r => (r, (0 : Int))) = List.replicate n ((12, 0) : Nat × Int) := List.map_replicate
/-- what & lays down -/
theorem M_lay13 (T : Top L xs v) {p t f n : Nat} (hp : p < 2) {B : List Nat} {Q : List (Nat × Int)} (hB : B = [] ∨ ∃ U, B = U ++ [15]) (h11 : wi v 271 11 = nI p) (hWT : WT v (B ++ wl t f n)) (hQ : MK v p Q) (hl : Q.length + (b1 f + n) ≤ 80) : ∃ v', F_M_layDown 271 (nI 13) v = some v' ∧ FR (XY p) v v' ∧ WT v' (B ++ (if t = 0 then [] else [14])) ∧ MK v' p ((Q ++ List.replicate n (12, 0)) ++ adl f) := by
  have e : B ++ wl t f n = (B ++ (if t = 0 then [] else [14])) ++ (List.replicate n 12 ++ (if f = 0 then [] else [13])).reverse := by
    unfold wl
    rw [List.reverse_append, List.reverse_replicate, List.append_assoc]
    by_cases e : f = 0
    · rw [if_pos e]; rfl
    · rw [if_neg e]; rfl
  rw [e] at hWT
  obtain ⟨v', l1, l2, l3, l4⟩ := M_lay T hp (most := 13) (by omega) (by
    by_cases e : t = 0
    · rw [if_pos e, List.append_nil]
      rcases hB with q | ⟨U, q⟩
      · exact .inl q
      · exact .inr ⟨U, 15, q, by omega⟩
    · rw [if_neg e]
      exact .inr ⟨B, 14, rfl, by omega⟩) h11 hWT (by
    intro r hr
    rcases List.mem_append.mp hr with q | q
    · have := List.eq_of_mem_replicate q; omega
    · by_cases e : f = 0
      · rw [if_pos e] at q; cases q
      · rw [if_neg e] at q; simp at q; omega) hQ (by
    rw [List.length_append, List.length_replicate]
    unfold b1 at hl
    by_cases e : f = 0
    · rw [if_pos e]; rw [if_pos e] at hl; simp; omega
    · rw [if_neg e]; rw [if_neg e] at hl; simp; omega)
  refine ⟨v', l1, l2, l3, ?_⟩
  rw [List.map_append, map_rep, ← List.append_assoc] at l4
  unfold adl
  by_cases e : f = 0
  · rw [if_pos e] at l4 ⊢; exact l4
  · rw [if_neg e] at l4 ⊢; exact l4
/-- what the looser ones lay down -/
theorem M_lay14 (T : Top L xs v) {p t f n : Nat} (hp : p < 2) {B : List Nat} {Q : List (Nat × Int)} (hB : B = [] ∨ ∃ U, B = U ++ [15]) (h11 : wi v 271 11 = nI p) (hWT : WT v (B ++ wl t f n)) (hQ : MK v p Q) (hl : Q.length + (b1 t + b1 f + n) ≤ 80) : ∃ v', F_M_layDown 271 (nI 14) v = some v' ∧ FR (XY p) v v' ∧ WT v' B ∧ MK v' p (((Q ++ List.replicate n (12, 0)) ++ adl f) ++ orl t) := by
  have e : B ++ wl t f n = B ++ ((List.replicate n 12 ++ (if f = 0 then [] else [13])) ++ (if t = 0 then [] else [14])).reverse := by
    unfold wl
    rw [List.reverse_append, List.reverse_append, List.reverse_replicate]
    by_cases e : f = 0
    · rw [if_pos e]
      by_cases e2 : t = 0
      · rw [if_pos e2]; rfl
      · rw [if_neg e2]; rfl
    · rw [if_neg e]
      by_cases e2 : t = 0
      · rw [if_pos e2]; rfl
      · rw [if_neg e2]; rfl
  rw [e] at hWT
  obtain ⟨v', l1, l2, l3, l4⟩ := M_lay T hp (most := 14) (by omega) (by
    rcases hB with q | ⟨U, q⟩
    · exact .inl q
    · exact .inr ⟨U, 15, q, by omega⟩) h11 hWT (by
    intro r hr
    rcases List.mem_append.mp hr with q | q
    · rcases List.mem_append.mp q with q | q
      · have := List.eq_of_mem_replicate q; omega
      · by_cases e : f = 0
        · rw [if_pos e] at q; cases q
        · rw [if_neg e] at q; simp at q; omega
    · by_cases e : t = 0
      · rw [if_pos e] at q; cases q
      · rw [if_neg e] at q; simp at q; omega) hQ (by
    rw [List.length_append, List.length_append, List.length_replicate]
    unfold b1 at hl
    by_cases e : f = 0
    · rw [if_pos e]; rw [if_pos e] at hl
      by_cases e2 : t = 0
      · rw [if_pos e2]; rw [if_pos e2] at hl; simp; omega
      · rw [if_neg e2]; rw [if_neg e2] at hl; simp; omega
    · rw [if_neg e]; rw [if_neg e] at hl
      by_cases e2 : t = 0
      · rw [if_pos e2]; rw [if_pos e2] at hl; simp; omega
      · rw [if_neg e2]; rw [if_neg e2] at hl; simp; omega)
  refine ⟨v', l1, l2, l3, ?_⟩
  rw [List.map_append, List.map_append, map_rep, ← List.append_assoc, ← List.append_assoc] at l4
  unfold adl orl
  by_cases e : f = 0
  · rw [if_pos e] at l4 ⊢
    by_cases e2 : t = 0
    · rw [if_pos e2] at l4 ⊢; exact l4
    · rw [if_neg e2] at l4 ⊢; exact l4
  · rw [if_neg e] at l4 ⊢
    by_cases e2 : t = 0
    · rw [if_pos e2] at l4 ⊢; exact l4
    · rw [if_neg e2] at l4 ⊢; exact l4
/-- one more waits -/
theorem WT.push {W : List Nat} {x : Nat} (h : WT v W) (hl : W.length < 80) (hx : x ≤ 15) : WT (upI (upI v 283 W.length (nI x)) 271 28 (nI (W.length + 1))) (W ++ [x]) := by
  obtain ⟨w1, w2, w3⟩ := h
  refine ⟨by rw [wu0, List.length_append]; rfl, by rw [List.length_append]; show W.length + 1 ≤ 80; omega, fun i m hi => ?_⟩
  rcases get_last hi with q | ⟨q, e⟩
  · have hl2 : i < W.length := by rw [List.getElem?_eq_some_iff] at q; exact q.1
    rw [wu1 (by omega), wu1 (by omega)]
    exact w3 i m q
  · subst q e
    rw [wu1 (by omega), wu0]
    exact ⟨rfl, hx⟩
theorem WT.pop {W : List Nat} {x : Nat} (h : WT v (W ++ [x])) : WT (upI v 271 28 (nI W.length)) W := by
  obtain ⟨w1, w2, w3⟩ := h
  rw [List.length_append] at w2
  refine ⟨wu0 _ _ _ _, by simp at w2; omega, fun i m hi => ?_⟩
  rw [wu1 (by omega)]
  have hl2 : i < W.length := by rw [List.getElem?_eq_some_iff] at hi; exact hi.1
  exact w3 i m (by rw [List.getElem?_append_left hl2]; exact hi)
theorem M_endNum5 (T : Top L xs v) (h : wi v 271 10 = nI 5) : F_M_endNumber 271 v = some v := by
  unfold F_M_endNumber
  simp only [qL, ↓qM, mK T, h, gd_true, beq_self_eq_true, bd_s, if_true, if_false, ↓reduceIte, ite_true, ite_false, Bool.and_self, Bool.and_true, Bool.true_and, Nat.reduceBEq, Bool.or_true, Bool.true_or, Bool.or_self]
  rw [if_neg (show ¬ nI 5 = nI 4 by decide +kernel)]
theorem M_endNum4 (T : Top L xs v) {p fd sg mi val : Nat} {Q : List (Nat × Int)} (hp : p < 2) (h10 : wi v 271 10 = nI 4) (h11 : wi v 271 11 = nI p) (h14 : wi v 271 14 = nI val) (h15 : wi v 271 15 = nI mi) (h16 : wi v 271 16 = nI fd) (h17 : wi v 271 17 = nI sg) (hfd : fd < 4) (hsg : sg < 3) (hmi : mi < 2) (hval : val ≤ 999) (hQ : MK v p Q) (hl : Q.length < 80) : ∃ v', F_M_endNumber 271 v = some v' ∧ FR (XMk p) v v' ∧ MK v' p (Q ++ [(3 * fd + sg, if mi = 0 then (val : Int) else -(val : Int))]) := by
  unfold F_M_endNumber F_M_endNumber_39
  simp (disch := omega) only [qL, ↓qM, mK T, h10, h14, h15, h16, h17, pk_mul, nI_add, q_eq, gd_true, beq_self_eq_true, bd_s, if_true, if_false, ↓reduceIte, ite_true, ite_false, Bool.and_self, Bool.and_true, Bool.true_and, Nat.reduceBEq, Bool.or_true, Bool.true_or, Bool.or_self]
  by_cases e : mi = 0
  · obtain ⟨v', m1, m2, m3⟩ := M_mark T (m := 3 * fd + sg) hp h11 hQ hl (by omega) (nI val)
    rw [nI_toInt (by omega)] at m3
    rw [if_pos e, if_pos e, m1]
    exact ⟨v', rfl, m2, m3⟩
  · obtain ⟨v', m1, m2, m3⟩ := M_mark T (m := 3 * fd + sg) hp h11 hQ hl (by omega) (mI val)
    rw [mI_toInt (by omega)] at m3
    rw [if_neg e, if_neg e, show -nI val = mI val from rfl, m1]
    exact ⟨v', rfl, m2, m3⟩
end
