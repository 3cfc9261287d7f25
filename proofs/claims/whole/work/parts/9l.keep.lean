/-! PURE: the reference keeps a saying -/
/-- where the saying's part is kept -/
def XC (n p a i : Nat) : Prop := (a = 285 ∨ a = 286) ∧ 80 * (2 * n + p) ≤ i ∧ i < 80 * (2 * n + p) + 80
def XCi (n p i0 a i : Nat) : Prop := (a = 285 ∨ a = 286) ∧ 80 * (2 * n + p) + i0 ≤ i ∧ i < 80 * (2 * n + p) + 80
def XP (n p a i : Nat) : Prop := XC n p a i ∨ (a = 284 ∧ (i = 12 * n + p ∨ i = 12 * n + 8 + p ∨ i = 12 * n + 10 + p)) ∨ (a = 287 ∧ i = 2 * n + p) ∨ (288 ≤ a ∧ a ≤ 292)
theorem XC_16 {n p : Nat} : ∀ a i, XC n p a i → 16 ≤ a := by
  intro a i h; unfold XC at h; omega
theorem XP_16 {n p : Nat} : ∀ a i, XP n p a i → 16 ≤ a := by
  intro a i h; unfold XP XC at h; omega
theorem XCi_16 {n p i0 : Nat} : ∀ a i, XCi n p i0 a i → 16 ≤ a := by
  intro a i h; unfold XCi at h; omega
section
variable {L : Nat} {xs : Nat → Int32} {v : AW} {pg : Nat → Nat} {np n p : Nat} {Q : List (Nat × Int)}
theorem M_copyL (rec50 : Nat → Int32 → Int32 → AW → Option (Int32 × AW)) (x1 : Int32) (hp : p < 2) (hn : n < 8) {ql : Nat} (hql : ql ≤ 80) : ∀ (j i fu : Nat) (v : AW), i + j = ql → j < fu → Top L xs v → wi v 282 p = nI ql → wi v 271 29 = nI n → ∃ v', F_M_say_121 rec50 fu 271 x1 (nI p) (nI i) v = rec50 271 x1 (nI (p + 1)) v' ∧ FR (XCi n p i) v v' ∧ ∀ t, i ≤ t → t < ql → wi v' 285 (80 * (2 * n + p) + t) = wi v 280 (80 * p + t) ∧ wi v' 286 (80 * (2 * n + p) + t) = wi v 281 (80 * p + t) := by
  intro j
  induction j with
  | zero =>
    intro i fu v hi hf T h282 h29
    obtain ⟨fu, rfl⟩ : ∃ m, fu = m + 1 := ⟨fu - 1, by omega⟩
    obtain rfl : i = ql := by omega
    refine ⟨v, ?_, FR.refl _ _, fun t h1 h2 => by omega⟩
    show F_M_say_121_B rec50 (F_M_say_121 rec50 fu) 271 x1 (nI p) (nI i) v = _
    unfold F_M_say_121_B
    simp (disch := omega) only [mPar T, q_inb, q_nat, h282, gd_true, beq_self_eq_true]
    rw [if_pos (Int32.le_refl _), l_1, nI_add]
  | succ j ih =>
    intro i fu v hi hf T h282 h29
    obtain ⟨fu, rfl⟩ : ∃ m, fu = m + 1 := ⟨fu - 1, by omega⟩
    have f : FR (XCi n p i) v (upI (upI v 285 (80 * (2 * n + p) + i) (wi v 280 (80 * p + i))) 286 (80 * (2 * n + p) + i) (wi v 281 (80 * p + i))) := ((FR.refl (XCi n p i) v).s _ _ _ ⟨.inl rfl, by omega, by omega⟩).s _ _ _ ⟨.inr rfl, by omega, by omega⟩
    obtain ⟨v', e1, e2, e3⟩ := ih (i + 1) fu _ (by omega) (by omega) (T.sh (f.sh XCi_16)) ((f.i (by unfold XCi; omega)).trans h282) ((f.i (by unfold XCi; omega)).trans h29)
    refine ⟨v', ?_, f.trans (e2.mono (fun a t h => ⟨h.1, by have := h.2.1; omega, h.2.2⟩)), fun t h1 h2 => ?_⟩
    · rw [← e1]
      show F_M_say_121_B rec50 (F_M_say_121 rec50 fu) 271 x1 (nI p) (nI i) v = _
      unfold F_M_say_121_B
      simp (disch := omega) only [l_80, l_2, l_1, mPar T, mSay T, h282, h29, pk_mul, nI_add, q_inb, q_nat, wk_upI, wn_upI, wr_upI, wu1, gd_true, beq_self_eq_true]
      rw [if_neg (show ¬ nI ql ≤ nI i by rw [q_le (by omega) (by omega)]; omega)]
    · by_cases e : t = i
      · subst e
        rw [e2.i (by unfold XCi; omega), e2.i (by unfold XCi; omega)]
        simp (disch := omega) only [wu0, wu1]
        exact ⟨trivial, trivial⟩
      · obtain ⟨q1, q2⟩ := e3 t (by omega) h2
        rw [q1, q2]
        simp (disch := omega) only [wu1]
        exact ⟨trivial, trivial⟩
/-- one part is kept -/
theorem M_part (T : Top L xs v) (hp : p < 2) (hn : n < 8) (hnP : np ≤ 80) (hpg : ∀ i, i < np → pg i ≤ 126) {i0 m : Nat} {K : Nat → Nat → Int32} (hQ : MK v p Q) (hend : dpr pg i0 m = (0, K)) (hds : dsf pg i0 m) (hst : i0 + m = np ∨ (i0 + m < np ∧ (pg (i0 + m) = 58 ∨ pg (i0 + m) = 64))) (hs1 : ST1 pg np p i0) (h9 : wi v 271 9 = nI np) (h279 : ∀ i, i < np → wi v 279 i = nI (pg i)) (h29 : wi v 271 29 = nI n) (fu : Nat) : ∃ v', F_M_say_50 (fu + 1) 271 (nI (12 * n)) (nI p) v = F_M_say_50 fu 271 (nI (12 * n)) (nI (p + 1)) v' ∧ FR (XP n p) v v' ∧ wi v' 284 (12 * n + p) = nI (mskP (cms Q)) ∧ wi v' 284 (12 * n + 8 + p) = nI (cms Q).length ∧ wi v' 284 (12 * n + 10 + p) = dpt (enT K 0) 0 ∧ wi v' 287 (2 * n + p) = nI Q.length ∧ (∀ t, t < Q.length → wi v' 285 (80 * (2 * n + p) + t) = wi v 280 (80 * p + t) ∧ wi v' 286 (80 * (2 * n + p) + t) = wi v 281 (80 * p + t)) := by
  have k1 := M_fields T hp hQ
  have f1 : FR (XP n p) v (upI v 284 (12 * n + p) (nI (mskP (cms Q)))) := (FR.refl (XP n p) v).s _ _ _ (.inr (.inl ⟨rfl, .inl rfl⟩))
  have nq : ∀ i, i < 80 → ¬ XP n p 280 (80 * p + i) ∧ ¬ XP n p 281 (80 * p + i) := fun i hi => ⟨by unfold XP XC; omega, by unfold XP XC; omega⟩
  have T1 := T.sh (f1.sh XP_16)
  have Q1 := hQ.fr f1 (by unfold XP XC; omega) nq
  have k2 := M_comps T1 hp Q1
  have f2 := f1.s 284 (12 * n + 8 + p) (nI (cms Q).length) (.inr (.inl ⟨rfl, .inr (.inl rfl)⟩))
  have T2 := T.sh (f2.sh XP_16)
  have Q2 := hQ.fr f2 (by unfold XP XC; omega) nq
  obtain ⟨v3, d1, d2⟩ := M_deep T2 hnP hpg hend hds hst hs1 ((f2.i (by unfold XP XC; omega)).trans h9) (fun i hi => (f2.i (by unfold XP XC; omega)).trans (h279 i hi))
  have T3 := T2.sh (d2.sh XD_16)
  have f3 := f2.trans (d2.mono (fun a i h => .inr (.inr (.inr h))))
  have f4 := f3.s 284 (12 * n + 10 + p) (dpt (enT K 0) 0) (.inr (.inl ⟨rfl, .inr (.inr rfl)⟩))
  have T4 := T.sh (f4.sh XP_16)
  have Q4 := hQ.fr f4 (by unfold XP XC; omega) nq
  have f5 := f4.s 287 (2 * n + p) (nI Q.length) (.inr (.inr (.inl ⟨rfl, rfl⟩)))
  have T5 := T.sh (f5.sh XP_16)
  have Q5 := hQ.fr f5 (by unfold XP XC; omega) nq
  have h29' : ∀ {w : AW}, FR (XP n p) v w → wi w 271 29 = nI n := fun f => (f.i (by unfold XP XC; omega)).trans h29
  have hf := FUEL_big
  obtain ⟨v6, c1, c2, c3⟩ := M_copyL (F_M_say_50 fu) (nI (12 * n)) hp hn hQ.2.1 Q.length 0 FUEL _ (by omega) (by have := hQ.2.1; omega) T5 Q5.1 (h29' f5)
  have f6 := f5.trans (c2.mono (fun a i h => .inl ⟨h.1, by have := h.2.1; omega, h.2.2⟩))
  have x3 : ∀ t, wi v3 284 t = wi (upI (upI v 284 (12 * n + p) (nI (mskP (cms Q)))) 284 (12 * n + 8 + p) (nI (cms Q).length)) 284 t := fun t => d2.i (by unfold XD; omega)
  refine ⟨v6, ?_, f6, ?_, ?_, ?_, ?_, fun t ht => ?_⟩
  · rw [← c1]
    show F_M_say_50_B (F_M_say_50 fu) 271 (nI (12 * n)) (nI p) v = _
    unfold F_M_say_50_B
    rw [if_neg (show ¬ (2 : Int32) ≤ nI p by rw [l_2, q_le (by omega) (by omega)]; omega)]
    simp (disch := omega) only [l_0, l_2, l_8, l_10, mK T, k1, k2, mSay T, mSay T1, mSay T2, mSay T3, mSay T4, mPar T4, d1, h29' f4, Q4.1, pk_mul, nI_add, q_inb, q_nat, gd_true, beq_self_eq_true, bd_s]
  · rw [c2.i (by unfold XCi; omega), wu1 (by omega), wu1 (by omega), x3, wu1 (by omega), wu0]
  · rw [c2.i (by unfold XCi; omega), wu1 (by omega), wu1 (by omega), x3, wu0]
  · rw [c2.i (by unfold XCi; omega), wu1 (by omega), wu0]
  · rw [c2.i (by unfold XCi; omega), wu0]
  · obtain ⟨q1, q2⟩ := c3 t (by omega) ht
    have := hQ.2.1
    rw [q1, q2]
    exact ⟨f5.i (nq t (by omega)).1, f5.i (nq t (by omega)).2⟩
/-- the rest of the saying is kept -/
theorem M_fin (T : Top L xs v) (hn : n < 8) (h29 : wi v 271 29 = nI n) {al : Nat} (h20 : wi v 271 20 = nI al) (hal : al ≤ 1) (fu : Nat) : ∃ v', F_M_say_50 (fu + 1) 271 (nI (12 * n)) (nI 2) v = some (nI n, v') ∧ FR (fun a i => (a = 284 ∧ 12 * n + 2 ≤ i ∧ i ≤ 12 * n + 7) ∨ (a = 271 ∧ (i = 29 ∨ i = 9))) v v' ∧ wi v' 284 (12 * n + 2) = wi v 271 18 ∧ wi v' 284 (12 * n + 3) = wi v 271 19 ∧ wi v' 284 (12 * n + 4) = nI al ∧ wi v' 284 (12 * n + 5) = wi v 271 21 ∧ wi v' 284 (12 * n + 6) = wi v 271 22 ∧ wi v' 284 (12 * n + 7) = wi v 271 23 ∧ wi v' 271 29 = nI (n + 1) ∧ wi v' 271 9 = nI 0 := by
  have f : FR (fun a i => (a = 284 ∧ 12 * n + 2 ≤ i ∧ i ≤ 12 * n + 7) ∨ (a = 271 ∧ (i = 29 ∨ i = 9))) v (upI (upI (upI (upI (upI (upI (upI (upI v 284 (12 * n + 2) (wi v 271 18)) 284 (12 * n + 3) (wi v 271 19)) 284 (12 * n + 4) (nI al)) 284 (12 * n + 5) (wi v 271 21)) 284 (12 * n + 6) (wi v 271 22)) 284 (12 * n + 7) (wi v 271 23)) 271 29 (nI (n + 1))) 271 9 (nI 0)) := by
    refine ((((((((FR.refl _ v).s _ _ _ ?_).s _ _ _ ?_).s _ _ _ ?_).s _ _ _ ?_).s _ _ _ ?_).s _ _ _ ?_).s _ _ _ ?_).s _ _ _ ?_
    · exact .inl ⟨rfl, by omega, by omega⟩
    · exact .inl ⟨rfl, by omega, by omega⟩
    · exact .inl ⟨rfl, by omega, by omega⟩
    · exact .inl ⟨rfl, by omega, by omega⟩
    · exact .inl ⟨rfl, by omega, by omega⟩
    · exact .inl ⟨rfl, by omega, by omega⟩
    · exact .inr ⟨rfl, .inl rfl⟩
    · exact .inr ⟨rfl, .inr rfl⟩
  have k244 : F_M_say_244 271 (nI (12 * n)) (nI al) (nI (12 * n + 4)) 284 (upI (upI v 284 (12 * n + 2) (wi v 271 18)) 284 (12 * n + 3) (wi v 271 19)) = some (nI n, upI (upI (upI (upI (upI (upI (upI (upI v 284 (12 * n + 2) (wi v 271 18)) 284 (12 * n + 3) (wi v 271 19)) 284 (12 * n + 4) (nI al)) 284 (12 * n + 5) (wi v 271 21)) 284 (12 * n + 6) (wi v 271 22)) 284 (12 * n + 7) (wi v 271 23)) 271 29 (nI (n + 1))) 271 9 (nI 0)) := by
    unfold F_M_say_244
    simp (disch := omega) only [l_0, l_1, l_5, l_6, l_7, mSay T, h29, nI_add, q_sub, Nat.add_sub_cancel, q_inb, q_nat, wk_upI, wn_upI, wr_upI, wu0, wu1, gd_true, beq_self_eq_true]
  refine ⟨_, ?_, f, ?_, ?_, ?_, ?_, ?_, ?_, ?_, wu0 _ _ _ _⟩
  · show F_M_say_50_B (F_M_say_50 fu) 271 (nI (12 * n)) (nI 2) v = _
    unfold F_M_say_50_B
    rw [if_pos (show (2 : Int32) ≤ nI 2 by decide +kernel)]
    simp (disch := omega) only [l_2, l_3, l_4, mSay T, nI_add, q_inb, q_nat, wk_upI, wn_upI, wr_upI, wu1, h20, gd_true, beq_self_eq_true]
    by_cases e : al = 0
    · subst e
      rw [if_pos (show nI 0 = (0 : Int32) from rfl)]
      exact k244
    · obtain rfl : al = 1 := by omega
      rw [if_neg (show ¬ nI 1 = (0 : Int32) by decide +kernel)]
      exact k244
  · simp (disch := omega) only [wu0, wu1]
  · simp (disch := omega) only [wu0, wu1]
  · simp (disch := omega) only [wu0, wu1]
  · simp (disch := omega) only [wu0, wu1]
  · simp (disch := omega) only [wu0, wu1]
  · simp (disch := omega) only [wu0, wu1]
  · simp (disch := omega) only [wu0, wu1]
end
