/-! PURE: say -/
theorem RS_0 (w : AW) (i : Nat) (h : KFld i = true) : RS w 0 i = wi w 271 i := by
  unfold RS; rw [if_pos rfl, if_pos h]
theorem RS_r (w : AW) (r i : Nat) (h : r ≠ 0 ∧ KRow r = true) : RS w r i = wi w (271 + r) i := by
  unfold RS; rw [if_neg h.1, if_pos h.2]
theorem CP_i {w v : AW} {c : Nat} {P : List (Nat × Int)} (h : ∀ a i, c ≤ a → a ≤ c + 2 → wi v a i = wi w a i) (hP : CP w c P) : CP v c P := by
  obtain ⟨h1, h2, h3⟩ := hP
  refine ⟨(h c 2 (by omega) (by omega)).trans h1, h2, fun i m z hi => ?_⟩
  rw [h (c + 1) i (by omega) (by omega), h (c + 2) i (by omega) (by omega)]
  exact h3 i m z hi
theorem KpP.nw {v : AW} {n p : Nat} {Q : List (Nat × Int)} {d : Int32} (h : KpP v n p Q d) : NwP (RS v) n p Q d := by
  unfold NwP
  simp only [RS_r v 13 _ (by decide), RS_r v 14 _ (by decide), RS_r v 15 _ (by decide), RS_r v 16 _ (by decide)]
  exact h
section
variable {L : Nat} {xs : Nat → Int32} {w : AW} {S : Nat → Nat → Int32}
/-- the class reads the page; the reference would read it alike, whatever the class does then -/
theorem readTwo (I : Inv L xs S w) : ∃ r w1, wr w 23 2 ∈ STab ∧ F_Pg_readLetters 23 w = some (nI r, w1) ∧ r ≤ nP S ∧ FC (XA (wr w 23 2)) w w1 ∧ ∀ wA, Top L xs wA → wi wA 271 9 = wi w 271 9 → (∀ i, wi wA 279 i = wi w 279 i) → ∃ w2, F_M_readPage 271 wA = some (nI r, w2) ∧ FR XB wA w2 ∧ (r = nP S → RR (pgL S) (nP S) (wr w 23 2) (nP S) w1 w2) := by
  have T := I.1
  obtain ⟨a1, a2, a3, a4, a5, a6, a7⟩ := I.2.2.2
  obtain ⟨p1, p2, p3⟩ := I.2.2.1.2.2.2.1
  have hs := T.p.2.1
  have hsr := STab_rng _ hs
  have hpg : ∀ i, i < nP S → pgL S i ≤ 126 := fun i hi => (p3 i hi).2.2
  have hf : nP S < FUEL := by have := FUEL_big; omega
  obtain ⟨u0, b1', b2, b3⟩ := A_begin T hs rfl
  have T0 := b2.top (XA_16 hs) T
  have xa : ∀ a i, (a = 24 ∨ a = 23 ∧ i = 0 ∨ 271 ≤ a) → ¬ XA (wr w 23 2) a i := fun a i h => by unfold XA; omega
  have xb : ∀ a i, (a = 279 ∨ a = 271 ∧ i = 9) → ¬ XB a i := fun a i h => by unfold XB; omega
  have h0 : wi u0 23 0 = nI (nP S) := (b2.i (xa _ _ (.inr (.inl ⟨rfl, rfl⟩)))).trans (a3.1.trans p1)
  have h24 : ∀ i, i < nP S → wi u0 24 i = nI (pgL S i) := fun i hi => (b2.i (xa _ _ (.inl rfl))).trans ((a3.2 i hi).trans (p3 i hi).1)
  have R9 : wi w 271 9 = nI (nP S) := (rf9 I.2.1).trans p1
  have R279 : ∀ i, i < nP S → wi w 279 i = nI (pgL S i) := fun i hi => (ra8 I.2.1 i).trans (p3 i hi).1
  obtain ⟨v00, c1, c2, c3⟩ := M_beginR T0
  obtain ⟨r, u1, -, d1, -, d3, d4, -⟩ := both (pg := pgL S) hs p2 hpg (nP S) 0 FUEL FUEL u0 v00 (by omega) hf hf T0 (T0.sh (c2.sh XB_16)) h0 h24 ((c2.i (xb _ _ (.inr ⟨rfl, rfl⟩))).trans ((b2.i (xa _ _ (.inr (.inr (by omega))))).trans R9)) (fun i hi => (c2.i (xb _ _ (.inl rfl))).trans ((b2.i (xa _ _ (.inr (.inr (by omega))))).trans (R279 i hi))) (RR_start hs u0 v00 b3 c3)
  refine ⟨r, u1, hs, b1'.trans d1, d3, b2.trans d4, fun wA TA n9 n279 => ?_⟩
  obtain ⟨v0, e1, e2, e3⟩ := M_beginR TA
  obtain ⟨r2, u2, v2, g1, g2, g3, g4, g5, g6⟩ := both (pg := pgL S) hs p2 hpg (nP S) 0 FUEL FUEL u0 v0 (by omega) hf hf T0 (TA.sh (e2.sh XB_16)) h0 h24 ((e2.i (xb _ _ (.inr ⟨rfl, rfl⟩))).trans (n9.trans R9)) (fun i hi => (e2.i (xb _ _ (.inl rfl))).trans ((n279 i).trans (R279 i hi))) (RR_start hs u0 v0 b3 e3)
  have eq := d1.symm.trans g1
  injection eq with eq
  injection eq with q1 q2
  have hr : r = r2 := by
    have := q_eq (a := r) (b := r2) (by omega) (by omega)
    rw [this] at q1; exact q1
  subst q2
  subst hr
  refine ⟨v2, ?_, e2.trans g5, g6⟩
  unfold F_M_readPage
  simp only [l_0, mK TA, e1, g2, gd_true, beq_self_eq_true, bd_s]
/-- a new saying: the invariant again -/
theorem Inv.said {u' wA w2 v' v3 : AW} {P0 Q0 P1 Q1 : List (Nat × Int)} {c0 c1 : Nat} {d0 d1 : Int32} (I : Inv L xs S w) (hn : nS S < 8) (f : FC (XA (wr w 23 2)) w u') (hA : wA = upI (upI (upR (upR u' 37 (nS S) (wr w 23 2)) 23 2 (wr w 37 (nS S))) 23 0 (nI 0)) 16 4 (nI (nS S + 1))) (TA : Top L xs wA) (g1 : FR XB wA w2) (g2 : FR XB w2 v') (g3 : FR (XK (nS S)) v' v3) (k0 : CO u' (wr w 23 2 + 1) P0 ∧ wi u' (wr w 23 2 + 1) 5 = d0 ∧ HE P0 Q0 c0 1 ∧ KpP v3 (nS S) 0 Q0 d0) (k1 : CO u' (wr w 23 2 + 4) P1 ∧ wi u' (wr w 23 2 + 4) 5 = d1 ∧ HE P1 Q1 c1 1 ∧ KpP v3 (nS S) 1 Q1 d1) (t2 : wi v3 284 (12 * nS S + 2) = wi u' (wr w 23 2) 2) (t3 : wi v3 284 (12 * nS S + 3) = wi u' (wr w 23 2) 3) (t4 : wi v3 284 (12 * nS S + 4) = wi u' (wr w 23 2) 4) (t5 : wi v3 284 (12 * nS S + 5) = wi u' (wr w 23 2) 5) (t6 : wi v3 284 (12 * nS S + 6) = wi u' (wr w 23 2) 6) (t7 : wi v3 284 (12 * nS S + 7) = wi u' (wr w 23 2) 7) (sp : ∃ a b al, wi u' (wr w 23 2) 2 = nI a ∧ wi u' (wr w 23 2) 3 = nI b ∧ wi u' (wr w 23 2) 4 = nI al ∧ a ≤ b ∧ b ≤ 9 ∧ al ≤ 1) (os : okSea (wi u' (wr w 23 2) 5) (wi u' (wr w 23 2) 6) (wi u' (wr w 23 2) 7)) (z29 : wi v3 271 29 = nI (nS S + 1)) (z9 : wi v3 271 9 = nI 0) : Inv L xs (RS v3) v3 := by
  have T := I.1
  have hs := T.p.2.1
  have hsr := STab_rng _ hs
  obtain ⟨s, hsd⟩ : ∃ s, wr w 23 2 = s := ⟨_, rfl⟩
  obtain ⟨n, hnd⟩ : ∃ n, nS S = n := ⟨_, rfl⟩
  rw [hsd] at f hA k0 k1 t2 t3 t4 t5 t6 t7 sp os hs hsr
  rw [hnd] at hn hA g3 k0 k1 t2 t3 t4 t5 t6 t7 z29
  have T3 := ((TA.sh (g1.sh XB_16)).sh (g2.sh XB_16)).sh (g3.sh XK_16)
  have nA : ∀ a i, ¬ (a = 23 ∧ i = 0) → ¬ (a = 16 ∧ i = 4) → wi wA a i = wi u' a i := by
    intro a i h1 h2
    rw [hA, wu1 h2, wu1 h1]; rfl
  have n3 : ∀ a i, ¬ XB a i → ¬ XK n a i → wi v3 a i = wi wA a i := fun a i h1 h2 => (g3.i h2).trans ((g2.i h1).trans (g1.i h1))
  have ne : ∀ a i, ¬ XA s a i → ¬ XB a i → ¬ XK n a i → ¬ (a = 23 ∧ i = 0) → ¬ (a = 16 ∧ i = 4) → wi v3 a i = wi w a i := fun a i h1 h2 h3 h4 h5 => (n3 a i h2 h3).trans ((nA a i h4 h5).trans (f.i h1))
  have nu : ∀ a i, s ≤ a → a ≤ s + 6 → wi v3 a i = wi u' a i := fun a i h1 h2 => (n3 a i (by unfold XB; omega) (by unfold XK; omega)).trans (nA a i (by omega) (by omega))
  have nr : ∀ a i, wr v3 a i = wr wA a i := fun a i => (g3.r a i).trans ((g2.r a i).trans (g1.r a i))
  have nr2 : ∀ a i, ¬ (a = 23 ∧ i = 3) → ¬ (a = 23 ∧ i = 2) → ¬ (a = 37 ∧ i = n) → wr v3 a i = wr w a i := by
    intro a i h1 h2 h3
    rw [nr, hA]
    show wr (upR (upR u' 37 n s) 23 2 _) a i = _
    rw [ru1 h2, ru1 h3]
    exact f.2.2.2.2.1 a i h1
  have r37 : wr v3 37 n = s := by
    rw [nr, hA]
    show wr (upR (upR u' 37 n s) 23 2 _) 37 n = _
    rw [ru1 (by omega), ru0]
  have nj : ∀ a i, wj v3 a i = wj w a i := by
    intro a i
    rw [g3.2.2.2.2.2.1, g2.2.2.2.2.2.1, g1.2.2.2.2.2.1, hA]
    exact f.2.2.2.2.2.1 a i
  obtain ⟨a1, a2, a3, a4, a5, a6, a7⟩ := I.2.2.2
  obtain ⟨i1, i2, i3, i4, i5, i6⟩ := I.2.2.1
  obtain ⟨y1, y2, y3⟩ := id i5
  have RSw : RS w = S := I.2.1
  have f0 : ∀ i, KFld i = true → i ≠ 29 → i ≠ 9 → RS v3 0 i = S 0 i := by
    intro i hi h29 h9
    rw [← RSw, RS_0 _ _ hi, RS_0 _ _ hi]
    have hk := of_decide_eq_true (show decide (i = 0 ∨ i = 9 ∨ i = 29 ∨ i = 40 ∨ i = 41 ∨ i = 45) = true from hi)
    exact ne 271 i (by unfold XA; omega) (by unfold XB; omega) (by unfold XK; omega) (by omega) (by omega)
  have fr : ∀ r, (r ≠ 0 ∧ KRow r = true) → ¬ (9 ≤ r ∧ r ≤ 21) → RS v3 r = S r := by
    intro r hr h
    funext i
    rw [← RSw, RS_r _ _ _ hr, RS_r _ _ _ hr]
    exact ne (271 + r) i (by unfold XA; omega) (by unfold XB; omega) (by unfold XK; omega) (by omega) (by omega)
  have e29 : RS v3 0 29 = nI (n + 1) := (RS_0 _ _ (by decide)).trans z29
  have e9 : RS v3 0 9 = nI 0 := (RS_0 _ _ (by decide)).trans z9
  have hnS : nS (RS v3) = n + 1 := by unfold nS; rw [e29, nat_nI (by omega)]
  have hnP : nP (RS v3) = 0 := by unfold nP; rw [e9, nat0]
  have w0 := k0.2.2.2.nw
  have w1 := k1.2.2.2.nw
  have c13 : ∀ j, RS v3 13 (12 * n + j) = wi v3 284 (12 * n + j) := fun j => RS_r _ _ _ (by decide)
  have sm : ∀ k, k < n → SmC S (RS v3) k := by
    intro k hk
    refine ⟨fun j hj => ?_, fun p hp => ⟨?_, fun i hi => ⟨?_, ?_⟩⟩⟩
    · rw [← RSw, RS_r _ _ _ (by decide), RS_r _ _ _ (by decide)]
      exact ne _ _ (by unfold XA; omega) (by unfold XB; omega) (by unfold XK; omega) (by omega) (by omega)
    · rw [← RSw, RS_r _ _ _ (by decide), RS_r _ _ _ (by decide)]
      exact ne _ _ (by unfold XA; omega) (by unfold XB; omega) (by unfold XK; omega) (by omega) (by omega)
    · rw [← RSw, RS_r _ _ _ (by decide), RS_r _ _ _ (by decide)]
      exact ne _ _ (by unfold XA; omega) (by unfold XB; omega) (by unfold XK; omega) (by omega) (by omega)
    · rw [← RSw, RS_r _ _ _ (by decide), RS_r _ _ _ (by decide)]
      exact ne _ _ (by unfold XA; omega) (by unfold XB; omega) (by unfold XK; omega) (by omega) (by omega)
  have newK : IMk (RS v3) n := by
    obtain ⟨a, b, al, x1, x2, x3, x4, x5, x6⟩ := sp
    refine ⟨w0.imp k0.2.2.1, w1.imp k1.2.2.1, ?_, ?_, ?_⟩
    · unfold spA spB
      rw [c13 2, c13 3, t2, t3, x1, x2, nat_nI (by omega), nat_nI (by omega)]
      exact ⟨rfl, rfl, x4, x5⟩
    · rw [c13 4, t4, x3]
      have : al = 0 ∨ al = 1 := by omega
      rcases this with e | e <;> subst e
      · exact .inl rfl
      · exact .inr rfl
    · rw [c13 5, c13 6, c13 7, t5, t6, t7]; exact os
  refine ⟨T3, rfl, ⟨IMf_S (f0 0 (by decide) (by omega) (by omega)) i1, IMs_S (fr 1 (by decide) (by omega)) (fr 2 (by decide) (by omega)) (fr 3 (by decide) (by omega)) (fr 4 (by decide) (by omega)) i2, IMd_S (fr 5 (by decide) (by omega)) i3, ⟨?_, ?_, ?_⟩, ⟨?_, ?_, ?_⟩, IMle_S (f0 40 (by decide) (by omega) (by omega)) (f0 41 (by decide) (by omega) (by omega)) (f0 45 (by decide) (by omega) (by omega)) (fr 26 (by decide) (by omega)) i6⟩, ?_, ?_, ⟨?_, ?_⟩, ⟨?_, ?_⟩, ?_, ?_, ?_⟩
  · rw [hnP]; exact e9
  · rw [hnP]; omega
  · rw [hnP]; intro i hi; omega
  · rw [hnS]; exact e29
  · rw [hnS]; omega
  · rw [hnS]
    intro k hk
    by_cases e : k = n
    · subst e; exact newK
    · exact (sm k (by omega)).imk (y3 k (by omega))
  · exact CalA_S (f0 0 (by decide) (by omega) (by omega)) (fr 1 (by decide) (by omega)) (fr 2 (by decide) (by omega)) (fr 3 (by decide) (by omega)) (fr 4 (by decide) (by omega)) (CalA_w (fun a i h1 h2 => ne a i (by unfold XA; omega) (by unfold XB; omega) (by unfold XK; omega) (by omega) (by omega)) a1)
  · exact DiaA_S (fr 5 (by decide) (by omega)) (DiaA_w (fun a i h1 h2 => ne a i (by unfold XA; omega) (by unfold XB; omega) (by unfold XK; omega) (by omega) (by omega)) a2)
  · rw [e9, n3 23 0 (by unfold XB; omega) (by unfold XK; omega), hA, wu1 (by omega), wu0]
  · rw [hnP]; intro i hi; omega
  · rw [e29, n3 16 4 (by unfold XB; omega) (by unfold XK; omega), hA, wu0]
  · rw [hnS]
    intro k hk
    by_cases e : k = n
    · subst e
      rw [r37]
      obtain ⟨⟨q1, q2, q3⟩, q4, q5, q6⟩ := k0
      obtain ⟨⟨o1, o2, o3⟩, o4, o5, o6⟩ := k1
      have u0 : ∀ i, wi v3 (s + 1) i = wi u' (s + 1) i := fun i => nu _ _ (by omega) (by omega)
      have u1 : ∀ i, wi v3 (s + 4) i = wi u' (s + 4) i := fun i => nu _ _ (by omega) (by omega)
      have us : ∀ i, wi v3 s i = wi u' s i := fun i => nu _ _ (by omega) (by omega)
      refine ⟨w0.cq q5 (CP_i (fun a i h1 h2 => nu a i (by omega) (by omega)) q1), w1.cq o5 (CP_i (fun a i h1 h2 => nu a i (by omega) (by omega)) o1), ?_, ?_, ?_, ?_, ?_, ?_, ?_, ?_, ?_, ?_, ?_, ?_⟩
      · rw [u0, q2, q5.2.1]; exact w0.1.symm
      · rw [u1, o2, o5.2.1]; exact w1.1.symm
      · rw [us, c13 2, t2]
      · rw [us, c13 3, t3]
      · rw [us, c13 4, t4]
      · rw [us, c13 5, t5]
      · rw [us, c13 6, t6]
      · rw [us, c13 7, t7]
      · rw [u0, q3, q5.2.1]; exact w0.2.1.symm
      · rw [u1, o3, o5.2.1]; exact w1.2.1.symm
      · rw [u0, q4]; exact w0.2.2.1.symm
      · rw [u1, o4]; exact w1.2.2.1.symm
    · have hk' : k < n := by omega
      rw [nr2 37 k (by omega) (by omega) (by omega)]
      have hk8 : wr w 37 k ∈ STab := T.p.1 k (by omega)
      have sep := STab_sep _ hk8 _ hs (by rw [← hsd]; exact T.p.2.2.2 k (by omega))
      have rg := I.sr (k := k) (by omega)
      exact (sm k hk').syk (y3 k (by omega)) (SyK_w (fun a i h1 h2 => ne a i (by unfold XA; omega) (by unfold XB; omega) (by unfold XK; omega) (by omega) (by omega)) (a4.2 k (by omega)))
  · exact LeA_S (f0 40 (by decide) (by omega) (by omega)) (f0 45 (by decide) (by omega) (by omega)) (fr 25 (by decide) (by omega)) (fr 26 (by decide) (by omega)) (LeA_w (fun a i h => ne a i (by unfold XA; omega) (by unfold XB; omega) (by unfold XK; omega) (by omega) (by omega)) a5)
  · exact AlA_S (fr 6 (by decide) (by omega)) (fr 7 (by decide) (by omega)) (AlA_w (fun a i h1 h2 => ne a i (by unfold XA; omega) (by unfold XB; omega) (by unfold XK; omega) (by omega) (by omega)) (fun a n h1 h2 => gD_j nj a n) a6)
  · exact WFs_j nj a7
theorem S_say (I : Inv L xs S w) : STEP L xs w (F_A_say 16) (F_M_say 271) := by
  have T := I.1
  obtain ⟨a1, a2, a3, a4, a5, a6, a7⟩ := I.2.2.2
  obtain ⟨p1, p2, p3⟩ := I.2.2.1.2.2.2.1
  obtain ⟨y1, y2, y3⟩ := I.2.2.1.2.2.2.2.1
  obtain ⟨r, w1, hs, h1, h3, f, hM⟩ := readTwo I
  have hsr := STab_rng _ hs
  have T1 := f.top (XA_16 hs) T
  have xa : ∀ a i, (a = 23 ∧ i = 0 ∨ a = 16 ∨ 37 = a ∨ 271 ≤ a) → ¬ XA (wr w 23 2) a i := fun a i h => by unfold XA; omega
  have h0 : wi w1 23 0 = nI (nP S) := (f.i (xa _ _ (by omega))).trans (a3.1.trans p1)
  have h164 : wi w1 16 4 = nI (nS S) := (f.i (xa _ _ (by omega))).trans (a4.1.trans y1)
  have m9 : ∀ wA, wi wA 271 9 = wi w 271 9 → wi wA 271 9 = nI (nP S) := fun wA h => h.trans ((rf9 I.2.1).trans p1)
  have w9 : wi w1 271 9 = wi w 271 9 := f.i (xa _ _ (by omega))
  have w279 : ∀ i, wi w1 279 i = wi w 279 i := fun i => f.i (xa _ _ (by omega))
  obtain ⟨w2, g1, g2, g3⟩ := hM w1 T1 w9 w279
  have T2 := T1.sh (g2.sh XB_16)
  have x9 : ¬ XB 271 9 := by unfold XB; omega
  have x29 : ¬ XB 271 29 := by unfold XB; omega
  -- what the reference answers, if it isn't kept
  have refS : ∀ v', nP S ≠ 0 → r = nP S → F_M_isWhole 271 w2 = some (nI 0, v') → F_M_say 271 w1 = some (mI 103, v') := by
    intro v' hn0 hr hw
    unfold F_M_say
    simp only [mK T1, m9 w1 w9, g1, mK T2, g2.i x9, hw, gd_true, beq_self_eq_true, bd_s]
    rw [if_neg (show ¬ nI (nP S) = (0 : Int32) from nIne (k := 0) (by omega) (by omega) hn0), if_neg (show ¬ nI r < nI (nP S) by rw [q_lt (by omega) (by omega)]; omega), if_pos (show nI 0 = (0 : Int32) from rfl)]
    rfl
  by_cases hr : r < nP S
  · refine ⟨mI 103, w1, w2, S, ?_, T1, ?_, I.read f g2⟩
    · unfold F_A_say
      simp only [t16 T, t23 T, h1, t16 T1, t23 T1, h0, gd_true, beq_self_eq_true, bd_s]
      rw [if_pos (show nI r < nI (nP S) by rw [q_lt (by omega) (by omega)]; exact hr)]
      rfl
    · unfold F_M_say
      simp only [mK T1, m9 w1 w9, g1, mK T2, g2.i x9, gd_true, beq_self_eq_true, bd_s]
      rw [if_neg (show ¬ nI (nP S) = (0 : Int32) from nIne (k := 0) (by omega) (by omega) (by omega)), if_pos (show nI r < nI (nP S) by rw [q_lt (by omega) (by omega)]; exact hr)]
      rfl
  have hr' : r = nP S := by omega
  have classS : F_Pg_isWhole w1 23 = some (nI 0) → F_A_say 16 w = some (mI 103, w1) := by
    intro hw
    unfold F_A_say
    simp only [t16 T, t23 T, h1, t16 T1, t23 T1, h0, hw, gd_true, beq_self_eq_true, bd_s]
    rw [if_neg (show ¬ nI r < nI (nP S) by rw [q_lt (by omega) (by omega)]; omega), if_pos (show nI 0 = (0 : Int32) from rfl)]
    rfl
  rcases wholeAB T1 T2 hs p2 (g3 hr') with ⟨b1', b2⟩ | ⟨b1', u', v', b2, b3, b4, b5, b6⟩
  · by_cases hn0 : nP S = 0
    · refine ⟨mI 103, w1, w1, S, classS b1', T1, ?_, I.read f (FR.refl XB w1)⟩
      unfold F_M_say
      simp only [mK T1, m9 w1 w9, gd_true, beq_self_eq_true]
      rw [if_pos (show nI (nP S) = (0 : Int32) by rw [hn0]; rfl)]
      rfl
    · exact ⟨mI 103, w1, w2, S, classS b1', T1, refS w2 hn0 hr' b2, I.read f g2⟩
  have hn0 : nP S ≠ 0 := by
    obtain ⟨-, ⟨P, Q, c, i0, m, V, -, -, -, -, -, -, -, st⟩, -⟩ := b6
    rcases st with st | st
    · omega
    · intro e; have := st.2.1; omega
  have hne1 : ¬ nI 1 = (0 : Int32) := by decide +kernel
  by_cases h8 : nS S = 8
  · refine ⟨mI 104, w1, v', S, ?_, T1, ?_, I.read f (g2.trans b5)⟩
    · unfold F_A_say
      simp only [t16 T, t23 T, h1, t16 T1, t23 T1, h0, b1', h164, gd_true, beq_self_eq_true, bd_s]
      rw [if_neg (show ¬ nI r < nI (nP S) by rw [q_lt (by omega) (by omega)]; omega), if_neg hne1, if_pos (show F_A_within (nI (nS S)) (0 : Int32) (7 : Int32) = 0 by rw [h8]; decide +kernel)]
      rfl
    · have T3 := T2.sh (b5.sh XB_16)
      have z29 : wi v' 271 29 = nI (nS S) := (b5.i x29).trans ((g2.i x29).trans ((f.i (xa _ _ (by omega))).trans ((rf29 I.2.1).trans y1)))
      unfold F_M_say
      simp only [mK T1, m9 w1 w9, g1, mK T2, g2.i x9, b3, mK T3, z29, gd_true, beq_self_eq_true, bd_s]
      rw [if_neg (show ¬ nI (nP S) = (0 : Int32) from nIne (k := 0) (by omega) (by omega) hn0), if_neg (show ¬ nI r < nI (nP S) by rw [q_lt (by omega) (by omega)]; omega), if_neg hne1, if_pos (show nI (nS S) = (8 : Int32) by rw [h8]; rfl)]
      rfl
  have hn : nS S < 8 := by omega
  -- a new saying
  have Tu := T1.sh (b4.sh (XA_16 hs))
  have fu : FC (XA (wr w 23 2)) w u' := f.trans b4.c
  have r232 : wr u' 23 2 = wr w 23 2 := fu.2.2.2.2.1 23 2 (by omega)
  have r37 : wr u' 37 (nS S) = wr w 37 (nS S) := fu.2.2.2.2.1 37 _ (by omega)
  have i164 : wi u' 16 4 = nI (nS S) := (b4.i (xa _ _ (by omega))).trans h164
  obtain ⟨wA, hA⟩ : ∃ wA, wA = upI (upI (upR (upR u' 37 (nS S) (wr w 23 2)) 23 2 (wr w 37 (nS S))) 23 0 (nI 0)) 16 4 (nI (nS S + 1)) := ⟨_, rfl⟩
  have TA : Top L xs wA := by
    have := Tu.swap hn
    rw [r232, r37] at this
    rw [hA]
    exact (this.up (a := 23) 0 (nI 0) (by omega)).up (a := 16) 4 (nI (nS S + 1)) (by omega)
  have hclass : F_A_say 16 w = some (nI (nS S), wA) := by
    have ky := tY Tu hs
    unfold F_A_say
    simp only [t16 T, t23 T, h1, t16 T1, t23 T1, h0, b1', h164, b2, gd_true, beq_self_eq_true, bd_s]
    rw [if_neg (show ¬ nI r < nI (nP S) by rw [q_lt (by omega) (by omega)]; omega), if_neg hne1, if_neg (show ¬ F_A_within (nI (nS S)) (0 : Int32) (7 : Int32) = 0 by simp (disch := omega) only [qL, ↓qM, A_wi, q_int]; omega)]
    have t16u := t16 Tu
    have t23u := t23 Tu
    have tSu := tSy Tu
    simp (disch := omega) only [l_0, l_1, t16u, t23u, tSu, i164, r232, r37, ky.1, q_inb, q_nat, ru1, ru0, wk_upI, wk_upR, wn_upR, wr_upI, wi_upR, wu0, wu1, nI_add, q_sub, Nat.add_sub_cancel, gd_true, beq_self_eq_true]
    rw [hA]
  have nA : ∀ a i, 271 ≤ a → wi wA a i = wi w a i := by
    intro a i h
    rw [hA, wu1 (by omega), wu1 (by omega)]
    exact fu.i (by unfold XA; omega)
  obtain ⟨w2A, c1, c2, c3⟩ := hM wA TA (nA _ _ (by omega)) (fun i => nA _ _ (by omega))
  have T2A := TA.sh (c2.sh XB_16)
  rcases wholeAB T1 T2A hs p2 (c3 hr') with ⟨e1, -⟩ | ⟨-, u'', v'', e2, e3, e4, e5, e6⟩
  · rw [b1'] at e1
    injection e1 with e1
    exact absurd e1 hne1
  have eu : u'' = u' := by
    rw [b2] at e2
    injection e2 with e2
    exact e2.symm
  subst eu
  have T3 := T2A.sh (e5.sh XB_16)
  have v9 : wi v'' 271 9 = nI (nP S) := (e5.i x9).trans ((c2.i x9).trans (m9 wA (nA _ _ (by omega))))
  have v279 : ∀ i, i < nP S → wi v'' 279 i = nI (pgL S i) := fun i hi => (e5.i (by unfold XB; omega)).trans ((c2.i (by unfold XB; omega)).trans ((nA _ _ (by omega)).trans ((ra8 I.2.1 i).trans (p3 i hi).1)))
  have v29 : wi v'' 271 29 = nI (nS S) := (e5.i x29).trans ((c2.i x29).trans ((nA _ _ (by omega)).trans ((rf29 I.2.1).trans y1)))
  obtain ⟨v3, P0, Q0, c0, d0, P1, Q1, c1', d1, o1, o2, o3, o4, o5, o6, o7, o8, o9, o10, o11, o12, o13, o14⟩ := M_say50 T3 hn p2 (fun i hi => (p3 i hi).2.2) v9 v279 v29 e6
  refine ⟨nI (nS S), wA, v3, RS v3, hclass, TA, ?_, I.said hn fu hA TA c2 e5 o2 o3 o4 o5 o6 o7 o8 o9 o10 o11 o12 o13 o14⟩
  unfold F_M_say
  simp only [mK TA, m9 wA (nA _ _ (by omega)), c1, mK T2A, c2.i x9, e3, mK T3, v29, gd_true, beq_self_eq_true, bd_s]
  rw [if_neg (show ¬ nI (nP S) = (0 : Int32) from nIne (k := 0) (by omega) (by omega) hn0), if_neg (show ¬ nI r < nI (nP S) by rw [q_lt (by omega) (by omega)]; omega), if_neg hne1, if_neg (show ¬ nI (nS S) = (8 : Int32) from nIne (k := 8) (by omega) (by omega) h8), l_12, pk_mul, l_0]
  exact o1
end
