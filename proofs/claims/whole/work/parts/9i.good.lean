/-! PURE: the page read on both sides; good -/
section
variable {L : Nat} {xs : Nat → Int32} {u v u' v' w : AW} {pg : Nat → Nat} {np s k q x : Nat} {S : Nat → Nat → Int32}
theorem stepAll (T : Top L xs u) (T' : Top L xs v) (hs : s ∈ STab) (hkn : k < np) (hnP : np ≤ 80) (hx : pg k ≤ 126) (B : RR pg np s k u v) : OK1 (RR pg np s (k + 1)) s (F_Pg_accepts 23 (nI (pg k))) (F_M_goOn 271 (nI (pg k))) u v := by
  rcases B with ⟨p, g, i0, m, V, W, h⟩ | ⟨q, h⟩ | ⟨q, h⟩
  · rcases h with ⟨B, D⟩ | ⟨B, D⟩ | ⟨B, D⟩ | ⟨B, D⟩ | ⟨B, D⟩ | ⟨B, h9, D⟩
    · exact step0 T T' hs hkn hnP hx B D
    · exact step1 T T' hs hkn hnP hx B D
    · exact step2 T T' hs hkn hnP hx B D
    · exact step3 T T' hs hkn hnP hx B D
    · by_cases ed : 48 ≤ pg k ∧ pg k ≤ 57
      · by_cases h3 : wi u 23 9 = nI 3
        · exact step45 T T' hs hkn hnP hx (.inl rfl) B (.inl ⟨rfl, D⟩) (.inr h3)
        · exact step4d T T' hs hkn hnP hx B D ed h3
      · exact step45 T T' hs hkn hnP hx (.inl rfl) B (.inl ⟨rfl, D⟩) (.inl ed)
    · exact step45 T T' hs hkn hnP hx (.inr rfl) B (.inr ⟨rfl, D⟩) (.inr h9)
  · exact step6 T T' hs hkn hnP hx h
  · exact step10 T T' hs hx h
theorem FC.refl (X : Nat → Nat → Prop) (w : AW) : FC X w w := (FR.refl X w).c
theorem FC.i {X : Nat → Nat → Prop} {w v : AW} (h : FC X w v) {a i : Nat} (hx : ¬ X a i) : wi v a i = wi w a i := h.2.2.2.2.2.2 a i hx
theorem both (hs : s ∈ STab) (hnP : np ≤ 80) (hpg : ∀ i, i < np → pg i ≤ 126) : ∀ (j k fa fm : Nat) (u v : AW), k + j = np → j < fa → j < fm → Top L xs u → Top L xs v → wi u 23 0 = nI np → (∀ i, i < np → wi u 24 i = nI (pg i)) → wi v 271 9 = nI np → (∀ i, i < np → wi v 279 i = nI (pg i)) → RR pg np s k u v → ∃ r u' v', F_Pg_readLetters_25 fa 23 (nI k) u = some (nI r, u') ∧ F_M_readPage_6 fm 271 (nI k) v = some (nI r, v') ∧ r ≤ np ∧ FC (XA s) u u' ∧ FR XB v v' ∧ (r = np → RR pg np s np u' v') := by
  have hsr := STab_rng s hs
  intro j
  induction j with
  | zero =>
    intro k fa fm u v hk hfa hfm T T' h0 h24 h9 h279 B
    obtain ⟨fa, rfl⟩ : ∃ m, fa = m + 1 := ⟨fa - 1, by omega⟩
    obtain ⟨fm, rfl⟩ : ∃ m, fm = m + 1 := ⟨fm - 1, by omega⟩
    obtain rfl : k = np := by omega
    refine ⟨k, u, v, ?_, ?_, Nat.le_refl k, FC.refl _ _, FR.refl _ _, fun _ => B⟩
    · show F_Pg_readLetters_25_B (F_Pg_readLetters_25 fa) 23 (nI k) u = _
      unfold F_Pg_readLetters_25_B
      simp only [t23 T, h0, gd_true, beq_self_eq_true]
      rw [if_pos (Int32.le_refl _)]
    · show F_M_readPage_6_B (F_M_readPage_6 fm) 271 (nI k) v = _
      unfold F_M_readPage_6_B
      simp only [mK T', h9, gd_true, beq_self_eq_true]
      rw [if_pos (Int32.le_refl _)]
  | succ j ih =>
    intro k fa fm u v hk hfa hfm T T' h0 h24 h9 h279 B
    obtain ⟨fa, rfl⟩ : ∃ m, fa = m + 1 := ⟨fa - 1, by omega⟩
    obtain ⟨fm, rfl⟩ : ∃ m, fm = m + 1 := ⟨fm - 1, by omega⟩
    have hkn : k < np := by omega
    obtain ⟨b, u1, v1, a1, a2, hb, f, h, r⟩ := stepAll T T' hs hkn hnP (hpg k hkn) B
    have la : F_Pg_letterAt u 23 (nI k) = some (nI (pg k)) := by
      unfold F_Pg_letterAt
      simp (disch := omega) only [qL, ↓qM, t23 T, h0, q_lt, q_le, q_inb, q_nat, h24 k hkn, gd_true, beq_self_eq_true, bd_s, if_true, if_false, ↓reduceIte, ite_true, ite_false, Bool.and_self, Bool.and_true, Bool.true_and, Nat.reduceBEq, Bool.or_true, Bool.true_or, Bool.or_self]
      rw [if_neg (by omega), if_neg (by omega), if_neg (by omega)]
    have eA : F_Pg_readLetters_25 (fa + 1) 23 (nI k) u = if nI b = 0 then some (nI k, u1) else F_Pg_readLetters_25 fa 23 (nI (k + 1)) u1 := by
      show F_Pg_readLetters_25_B (F_Pg_readLetters_25 fa) 23 (nI k) u = _
      unfold F_Pg_readLetters_25_B
      simp only [t23 T, h0, la, a1, gd_true, beq_self_eq_true, bd_s]
      rw [if_neg (show ¬ nI np ≤ nI k by rw [q_le (by omega) (by omega)]; omega), l_1, nI_add]
    have eM : F_M_readPage_6 (fm + 1) 271 (nI k) v = if nI b = 0 then some (nI k, v1) else F_M_readPage_6 fm 271 (nI (k + 1)) v1 := by
      show F_M_readPage_6_B (F_M_readPage_6 fm) 271 (nI k) v = _
      unfold F_M_readPage_6_B
      simp (disch := omega) only [mPg T', h9, q_inb, q_nat, h279 k hkn, a2, gd_true, beq_self_eq_true, bd_s]
      rw [if_neg (show ¬ nI np ≤ nI k by rw [q_le (by omega) (by omega)]; omega), l_1, nI_add]
    have hb' : b = 0 ∨ b = 1 := by omega
    rcases hb' with e | e <;> subst e
    · rw [if_pos (show nI 0 = 0 from rfl)] at eA eM
      exact ⟨k, u1, v1, eA, eM, by omega, f, h, fun e => by omega⟩
    · rw [if_neg (show ¬ nI 1 = 0 by decide +kernel)] at eA eM
      have xa : ∀ a i, (a = 24 ∨ a = 23 ∧ i = 0) → ¬ XA s a i := fun a i h => by unfold XA; omega
      have xb : ∀ a i, (a = 279 ∨ a = 271 ∧ i = 9) → ¬ XB a i := fun a i h => by unfold XB; omega
      obtain ⟨r, u2, v2, c1, c2, c3, c4, c5, c6⟩ := ih (k + 1) fa fm u1 v1 (by omega) (by omega) (by omega) (f.top (XA_16 hs) T) (T'.sh (h.sh XB_16)) ((f.i (xa _ _ (.inr ⟨rfl, rfl⟩))).trans h0) (fun i hi => (f.i (xa _ _ (.inl rfl))).trans (h24 i hi)) ((h.i (xb _ _ (.inr ⟨rfl, rfl⟩))).trans h9) (fun i hi => (h.i (xb _ _ (.inl rfl))).trans (h279 i hi)) (r rfl)
      exact ⟨r, u2, v2, eA.trans c1, eM.trans c2, c3, f.trans c4, h.trans c5, c6⟩
/-- the class begins to read -/
theorem A_begin (T : Top L xs w) (hs : s ∈ STab) (h2 : wr w 23 2 = s) : ∃ u0, F_Pg_readLetters 23 w = F_Pg_readLetters_25 FUEL 23 (nI 0) u0 ∧ FC (XA s) w u0 ∧ CB s 0 0 0 u0 ∧ LC u0 (fun _ _ => nI 0) 0 ∧ CO u0 (s + 1) [] ∧ CO u0 (s + 4) [] ∧ wi u0 s 5 = mI 1 ∧ wi u0 s 6 = mI 1 ∧ wi u0 s 7 = mI 1 := by
  have hsr := STab_rng s hs
  have ty := tY T hs
  obtain ⟨uc, hc, fc, g1, g2, g3⟩ : ∃ uc, F_Sa_clear s w = some uc ∧ FR (fun a i => s ≤ a ∧ a ≤ s + 6) w uc ∧ (∀ c, (c = s + 1 ∨ c = s + 4) → wi uc c 2 = nI 0 ∧ wi uc c 3 = nI 0 ∧ wi uc c 4 = nI 0) ∧ (wi uc s 5 = mI 1 ∧ wi uc s 6 = mI 1 ∧ wi uc s 7 = mI 1) ∧ True := by
    have k1 := ty.2.2.2.1.1
    have k2 := ty.2.2.2.2.1
    refine ⟨_, ?_, ((((((((((((((FR.refl (fun a i => s ≤ a ∧ a ≤ s + 6) w).s (s + 1) 2 (nI 0) ?_).s (s + 1) 3 (nI 0) ?_).s (s + 1) 4 (nI 0) ?_).s (s + 1) 5 (nI 0) ?_).s (s + 4) 2 (nI 0) ?_).s (s + 4) 3 (nI 0) ?_).s (s + 4) 4 (nI 0) ?_).s (s + 4) 5 (nI 0) ?_).s s 2 (nI 0) ?_).s s 3 (nI 0) ?_).s s 4 (nI 0) ?_).s s 5 (mI 1) ?_).s s 6 (mI 1) ?_).s s 7 (mI 1) ?_, ?_, ?_, trivial⟩
    · unfold F_Sa_clear F_Co_clear
      simp only [qL, ↓qM, ty.1, ty.2.1, ty.2.2.1, k1, k2, wk_upI, wr_upI, gd_true, beq_self_eq_true, bd_s, if_true, if_false, ↓reduceIte, ite_true, ite_false, Bool.and_self, Bool.and_true, Bool.true_and, Nat.reduceBEq, Bool.or_true, Bool.true_or, Bool.or_self]
    all_goals first
      | exact ⟨by omega, by omega⟩
      | skip
    · intro c hc
      rcases hc with e | e <;> subst e
      · exact ⟨by simp (disch := omega) only [wu0, wu1], by simp (disch := omega) only [wu0, wu1], by simp (disch := omega) only [wu0, wu1]⟩
      · exact ⟨by simp (disch := omega) only [wu0, wu1], by simp (disch := omega) only [wu0, wu1], by simp (disch := omega) only [wu0, wu1]⟩
    · exact ⟨by simp (disch := omega) only [wu0, wu1], by simp (disch := omega) only [wu0, wu1], by simp (disch := omega) only [wu0, wu1]⟩
  have Tc := T.sh (fc.sh (fun a i h => by omega))
  obtain ⟨u1, p1, p2, p3, p4, p5⟩ := P_start Tc (s + 1)
  have T1 : Top L xs u1 := ((FC.r3 (X := fun _ _ => False) uc (s + 1)).top (fun _ _ h => h.elim) Tc).sh (p2.sh (fun a i h => by omega))
  have r2 : wr u1 23 2 = s := (p2.r 23 2).trans ((fc.r 23 2).trans h2)
  have i1 : ∀ a i, s ≤ a → a ≤ s + 6 → wi u1 a i = wi uc a i := fun a i h1 h2 => p2.i (by omega)
  have co : ∀ c, (c = s + 1 ∨ c = s + 4) → CO (upI u1 23 4 (nI 0)) c [] := by
    intro c hc
    obtain ⟨q1, q2, q3⟩ := g1 c hc
    refine ⟨⟨?_, by decide, fun i m z h => by simp at h⟩, ?_, ?_⟩
    · rw [wu1 (by omega), i1 c 2 (by omega) (by omega)]; exact q1
    · rw [wu1 (by omega), i1 c 3 (by omega) (by omega)]; exact q2
    · rw [wu1 (by omega), i1 c 4 (by omega) (by omega)]; exact q3
  refine ⟨upI u1 23 4 (nI 0), ?_, ?_, ⟨r2, ?_, wu0 _ _ _ _, ?_, ?_⟩, fun j i hj hi => by rw [wu1 (by omega)]; exact p5 j i hj hi, co _ (.inl rfl), co _ (.inr rfl), ?_, ?_, ?_⟩
  · unfold F_Pg_readLetters
    simp only [l_0, t23 T, h2, ty.1, hc, t23 Tc, (fc.r 23 2).trans h2, (tY Tc hs).1, (tY Tc hs).2.1, p1, t23 T1, gd_true, beq_self_eq_true, bd_s]
  · exact (((fc.mono (fun a i h => by unfold XA; omega)).c.trans (FC.r3 uc (s + 1))).trans (p2.mono (fun a i h => by unfold XA; omega)).c).trans ((FR.refl (XA s) u1).s 23 4 _ (.inl ⟨rfl, by omega, by omega⟩)).c
  · show wr u1 23 3 = s + 1
    rw [p2.r, wr_upR, if_pos ⟨rfl, rfl⟩]
  · rw [wu1 (by omega)]; exact p3
  · rw [wu1 (by omega)]; exact p4
  · rw [wu1 (by omega), i1 s 5 (by omega) (by omega)]; exact g2.1
  · rw [wu1 (by omega), i1 s 6 (by omega) (by omega)]; exact g2.2.1
  · rw [wu1 (by omega), i1 s 7 (by omega) (by omega)]; exact g2.2.2
/-- the reference begins to read -/
theorem M_beginR (T : Top L xs v) : ∃ v0, F_M_beginReading 271 v = some v0 ∧ FR XB v v0 ∧ MB 0 0 0 v0 ∧ WT v0 [] ∧ MK v0 0 [] ∧ MK v0 1 [] ∧ wi v0 271 21 = mI 1 ∧ wi v0 271 22 = mI 1 ∧ wi v0 271 23 = mI 1 := by
  refine ⟨_, ?_, (((((((((FR.refl XB v).s 271 10 (nI 0) ?_).s 271 11 (nI 0) ?_).s 271 12 (nI 0) ?_).s 271 28 (nI 0) ?_).s 282 0 (nI 0) ?_).s 282 1 (nI 0) ?_).s 271 21 (mI 1) ?_).s 271 22 (mI 1) ?_).s 271 23 (mI 1) ?_, ⟨?_, ?_, ?_⟩, ⟨?_, by decide, fun i m h => by simp at h⟩, ⟨?_, by decide, fun i m z h => by simp at h⟩, ⟨?_, by decide, fun i m z h => by simp at h⟩, ?_, ?_, ?_⟩
  · unfold F_M_beginReading F_M_beginReading_44
    simp (disch := omega) only [qL, ↓qM, mPar T, q_inb, q_nat, wk_upI, wn_upI, wr_upI, gd_true, beq_self_eq_true, bd_s, if_true, if_false, ↓reduceIte, ite_true, ite_false, Bool.and_self, Bool.and_true, Bool.true_and, Nat.reduceBEq, Bool.or_true, Bool.true_or, Bool.or_self]
  all_goals first
    | exact .inl ⟨rfl, by omega⟩
    | exact .inr ⟨by omega, by omega⟩
    | (simp (disch := omega) only [wu0, wu1]; done)
    | (simp (disch := omega) only [wu0, wu1]; rfl)
theorem RR_start (hs : s ∈ STab) (u0 v0 : AW) (a : CB s 0 0 0 u0 ∧ LC u0 (fun _ _ => nI 0) 0 ∧ CO u0 (s + 1) [] ∧ CO u0 (s + 4) [] ∧ wi u0 s 5 = mI 1 ∧ wi u0 s 6 = mI 1 ∧ wi u0 s 7 = mI 1) (b : MB 0 0 0 v0 ∧ WT v0 [] ∧ MK v0 0 [] ∧ MK v0 1 [] ∧ wi v0 271 21 = mI 1 ∧ wi v0 271 22 = mI 1 ∧ wi v0 271 23 = mI 1) : RR pg np s 0 u0 v0 := by
  obtain ⟨a1, a2, a3, a4, a5⟩ := a
  obtain ⟨b1', b2, b3, b4, b5⟩ := b
  refine .inl ⟨0, 0, 0, 0, fun _ _ => nI 0, [], .inl ⟨⟨by omega, rfl, a1, b1', a2, ?_, fun q hq => by omega, ⟨⟨a5.1, a5.2.1, a5.2.2, b5⟩, .inl ⟨rfl, rfl⟩, .inl ⟨rfl, fun i hi => by omega, a4, b4⟩⟩, b2⟩, [], [], 0, rfl, a3, b3, ?_, ?_, by omega, Nat.le_refl 0⟩⟩
  · intro i hi j hj
    show nI 0 = nI (nat (nI 0)) ∧ nat (nI 0) ≤ 0
    rw [nat0]; exact ⟨rfl, Nat.le_refl 0⟩
  · rw [b10]; exact HE.nil
  · rw [nat0]; rfl
/-- the page's letters -/
def pgL (S : Nat → Nat → Int32) (i : Nat) : Nat := nat (S 8 i)
/-- both sides read the page -/
theorem readBoth (I : Inv L xs S w) : ∃ r w1 w2, wr w 23 2 ∈ STab ∧ F_Pg_readLetters 23 w = some (nI r, w1) ∧ F_M_readPage 271 w1 = some (nI r, w2) ∧ r ≤ nP S ∧ FC (XA (wr w 23 2)) w w1 ∧ FR XB w1 w2 ∧ (r = nP S → RR (pgL S) (nP S) (wr w 23 2) (nP S) w1 w2) := by
  have T := I.1
  obtain ⟨a1, a2, a3, a4, a5, a6, a7⟩ := I.2.2.2
  obtain ⟨p1, p2, p3⟩ := I.2.2.1.2.2.2.1
  have hs := T.p.2.1
  have hsr := STab_rng _ hs
  have hpg : ∀ i, i < nP S → pgL S i ≤ 126 := fun i hi => (p3 i hi).2.2
  have hf : nP S < FUEL := by have := FUEL_big; omega
  obtain ⟨u0, b1', b2, b3⟩ := A_begin T hs rfl
  have T0 := b2.top (XA_16 hs) T
  have xa : ∀ a i, (a = 24 ∨ a = 23 ∧ i = 0 ∨ 271 ≤ a) → ¬ XA (wr w 23 2) a i := fun a i h => by unfold XA; omega
  have xb : ∀ a i, (a = 279 ∨ a = 271 ∧ i = 9) → ¬ XB a i := fun a i h => by unfold XB; omega
  have h0 : wi u0 23 0 = nI (nP S) := (b2.i (xa _ _ (.inr (.inl ⟨rfl, rfl⟩)))).trans (a3.1.trans p1)
  have h24 : ∀ i, i < nP S → wi u0 24 i = nI (pgL S i) := fun i hi => (b2.i (xa _ _ (.inl rfl))).trans ((a3.2 i hi).trans (p3 i hi).1)
  have R9 : wi w 271 9 = nI (nP S) := (rf9 I.2.1).trans p1
  have R279 : ∀ i, i < nP S → wi w 279 i = nI (pgL S i) := fun i hi => (ra8 I.2.1 i).trans (p3 i hi).1
  -- once to know where the class ends
  obtain ⟨v00, c1, c2, c3⟩ := M_beginR T0
  obtain ⟨r, u1, -, d1, -, -, d4, -⟩ := both (pg := pgL S) hs p2 hpg (nP S) 0 FUEL FUEL u0 v00 (by omega) hf hf T0 (T0.sh (c2.sh XB_16)) h0 h24 ((c2.i (xb _ _ (.inr ⟨rfl, rfl⟩))).trans ((b2.i (xa _ _ (.inr (.inr (by omega))))).trans R9)) (fun i hi => (c2.i (xb _ _ (.inl rfl))).trans ((b2.i (xa _ _ (.inr (.inr (by omega))))).trans (R279 i hi))) (RR_start hs u0 v00 b3 c3)
  -- and from there
  have T1 := d4.top (XA_16 hs) T0
  have f1 := b2.trans d4
  obtain ⟨v0, e1, e2, e3⟩ := M_beginR T1
  obtain ⟨r2, u2, v2, g1, g2, g3, g4, g5, g6⟩ := both (pg := pgL S) hs p2 hpg (nP S) 0 FUEL FUEL u0 v0 (by omega) hf hf T0 (T1.sh (e2.sh XB_16)) h0 h24 ((e2.i (xb _ _ (.inr ⟨rfl, rfl⟩))).trans ((f1.i (xa _ _ (.inr (.inr (by omega))))).trans R9)) (fun i hi => (e2.i (xb _ _ (.inl rfl))).trans ((f1.i (xa _ _ (.inr (.inr (by omega))))).trans (R279 i hi))) (RR_start hs u0 v0 b3 e3)
  have eq := d1.symm.trans g1
  injection eq with eq
  injection eq with q1 q2
  subst q2
  refine ⟨r2, u1, v2, hs, b1'.trans g1, ?_, g3, f1, e2.trans g5, g6⟩
  unfold F_M_readPage
  simp only [l_0, mK T1, e1, g2, gd_true, beq_self_eq_true, bd_s]
/-- the invariant stands over what both sides write as they read -/
theorem Inv.read {w1 w2 : AW} (I : Inv L xs S w) (f : FC (XA (wr w 23 2)) w w1) (h : FR XB w1 w2) : Inv L xs S w2 := by
  have T := I.1
  have hs := T.p.2.1
  have hsr := STab_rng _ hs
  have T2 := (f.top (XA_16 hs) T).sh (h.sh XB_16)
  have ne : ∀ a i, ¬ XA (wr w 23 2) a i → ¬ XB a i → wi w2 a i = wi w a i := fun a i h1 h2 => (h.i h2).trans (f.i h1)
  have nr : ∀ a i, ¬ (a = 23 ∧ i = 3) → wr w2 a i = wr w a i := fun a i hq => (h.r a i).trans (f.2.2.2.2.1 a i hq)
  have nj : ∀ a i, wj w2 a i = wj w a i := fun a i => (h.2.2.2.2.2.1 a i).trans (f.2.2.2.2.2.1 a i)
  obtain ⟨a1, a2, a3, a4, a5, a6, a7⟩ := I.2.2.2
  refine ⟨T2, ?_, I.2.2.1, ?_, ?_, ?_, ?_, ?_, ?_, ?_⟩
  · show RS w2 = S
    rw [← show RS w = S from I.2.1]
    unfold RS
    funext r i
    by_cases h0 : r = 0
    · rw [if_pos h0, if_pos h0]
      by_cases hk : KFld i = true
      · rw [if_pos hk, if_pos hk, ne 271 i (by unfold XA; omega) (by
          unfold KFld at hk
          have hk := of_decide_eq_true hk
          unfold XB; omega)]
      · rw [if_neg hk, if_neg hk]
    · rw [if_neg h0, if_neg h0]
      by_cases hk : KRow r = true
      · rw [if_pos hk, if_pos hk, ne (271 + r) i (by unfold XA; omega) (by
          have hr : ¬ (9 ≤ r ∧ r ≤ 12) := by
            intro q
            have : r = 9 ∨ r = 10 ∨ r = 11 ∨ r = 12 := by omega
            rcases this with e | e | e | e <;> subst e <;> revert hk <;> decide
          unfold XB; omega)]
      · rw [if_neg hk, if_neg hk]
  · exact CalA_w (fun a i h1 h2 => ne a i (by unfold XA; omega) (by unfold XB; omega)) a1
  · exact DiaA_w (fun a i h1 h2 => ne a i (by unfold XA; omega) (by unfold XB; omega)) a2
  · exact PgA_w (ne 23 0 (by unfold XA; omega) (by unfold XB; omega)) (fun i => ne 24 i (by unfold XA; omega) (by unfold XB; omega)) a3
  · refine SyA_w (ne 16 4 (by unfold XA; omega) (by unfold XB; omega)) (fun k _ => nr 37 k (by omega)) (fun k hk a i h1 h2 => ?_) a4
    have h8 := I.2.2.1.2.2.2.2.1.2.1
    have hk8 : wr w 37 k ∈ STab := T.p.1 k (by omega)
    have sep := STab_sep _ hk8 _ hs (T.p.2.2.2 k (by omega))
    have := I.sr hk
    exact ne a i (by unfold XA; omega) (by unfold XB; omega)
  · exact LeA_w (fun a i h => ne a i (by unfold XA; omega) (by unfold XB; omega)) a5
  · exact AlA_w (fun a i h1 h2 => ne a i (by unfold XA; omega) (by unfold XB; omega)) (fun a n h1 h2 => gD_j nj a n) a6
  · exact WFs_j nj a7
theorem S_good (I : Inv L xs S w) : STEP L xs w (F_A_good 16) (F_M_good 271) := by
  have T := I.1
  obtain ⟨r, w1, w2, hs, h1, h2, h3, f, h, -⟩ := readBoth I
  have T1 := f.top (XA_16 hs) T
  refine ⟨nI r, w1, w2, S, ?_, T1, ?_, I.read f h⟩
  · unfold F_A_good
    simp only [t16 T, t23 T, h1, gd_true, beq_self_eq_true, bd_s]
  · unfold F_M_good
    simp only [mK T1, h2, gd_true, beq_self_eq_true, bd_s]
end
