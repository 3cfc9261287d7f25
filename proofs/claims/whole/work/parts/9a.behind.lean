/-! PURE: one letter more behind a factor -/
section
variable {L : Nat} {xs : Nat → Int32} {u v u1 v1 v2 u' v' : AW} {pg : Nat → Nat} {nP s k p g i0 m q q' g' x : Nat} {V V' : Nat → Nat → Int32} {W W' : List Nat}
theorem P_no (T : Top L xs u) (hx : x ≤ 126) (h1 : x ≠ 38) (h2 : x ≠ 41 ∨ wi u 23 11 = nI 0) (h3 : x ≠ 58 ∨ ¬ wi u 23 11 = nI 0 ∨ ¬ wi u 23 4 = nI 0) (h4 : x ≠ 64 ∨ ¬ wi u 23 11 = nI 0 ∨ wi u 23 4 = nI 0) (h5 : x ≠ 124) : F_Pg_goesOn 23 (nI x) u = some (nI 0, upI u 23 9 (nI 3)) := by
  unfold F_Pg_goesOn
  simp (disch := omega) only [qL, ↓qM, q_eq, t23 T, wu1, gd_true, beq_self_eq_true, bd_s, if_true, if_false, ↓reduceIte, ite_true, ite_false, Bool.and_self, Bool.and_true, Bool.true_and, Nat.reduceBEq, Bool.or_true, Bool.true_or, Bool.or_self]
  rw [if_neg h1]
  by_cases e2 : x = 41
  · rcases h2 with h2 | h2
    · exact absurd e2 h2
    · rw [if_pos e2, h2, if_pos (show nI 0 ≤ nI 0 by decide +kernel)]
  rw [if_neg e2]
  by_cases e3 : x = 58
  · rw [if_pos e3]
    rcases h3 with h3 | h3 | h3
    · exact absurd e3 h3
    · rw [if_neg h3]
    · by_cases e : wi u 23 11 = nI 0
      · rw [if_pos e, if_neg h3]
      · rw [if_neg e]
  rw [if_neg e3]
  by_cases e4 : x = 64
  · rw [if_pos e4]
    rcases h4 with h4 | h4 | h4
    · exact absurd e4 h4
    · rw [if_neg h4]
    · by_cases e : wi u 23 11 = nI 0
      · rw [if_pos e, if_pos h4]
      · rw [if_neg e]
  rw [if_neg e4, if_neg h5]
theorem G_no (T : Top L xs v) (hx : x ≤ 126) (h1 : x ≠ 38) (h2 : x ≠ 41 ∨ wi v 271 12 = nI 0) (h3 : x ≠ 58 ∨ ¬ wi v 271 12 = nI 0 ∨ ¬ wi v 271 11 = nI 0) (h4 : x ≠ 64 ∨ ¬ wi v 271 12 = nI 0 ∨ ¬ wi v 271 11 = nI 1) (h5 : x ≠ 124) : F_M_goOnBehind 271 (nI x) v = some (nI 0, v) := by
  have k165 : F_M_goOnBehind_165 271 (nI x) v = some (nI 0, v) := by
    unfold F_M_goOnBehind_165
    simp (disch := omega) only [qL, ↓qM, q_eq, mK T, gd_true, beq_self_eq_true, bd_s, if_true, if_false, ↓reduceIte, ite_true, ite_false, Bool.and_self, Bool.and_true, Bool.true_and, Nat.reduceBEq, Bool.or_true, Bool.true_or, Bool.or_self]
    by_cases e4 : x = 64
    · rw [if_pos e4]
      by_cases e : wi v 271 12 = nI 0
      · rw [if_pos e]
        by_cases e' : wi v 271 11 = nI 1
        · rcases h4 with h4 | h4 | h4
          · exact absurd e4 h4
          · exact absurd e h4
          · exact absurd e' h4
        · rw [if_neg e']
      · rw [if_neg e]
    · rw [if_neg e4]
  have k122 : F_M_goOnBehind_122 271 (nI x) v = some (nI 0, v) := by
    unfold F_M_goOnBehind_122
    simp (disch := omega) only [qL, ↓qM, q_eq, mK T, k165, gd_true, beq_self_eq_true, bd_s, if_true, if_false, ↓reduceIte, ite_true, ite_false, Bool.and_self, Bool.and_true, Bool.true_and, Nat.reduceBEq, Bool.or_true, Bool.true_or, Bool.or_self]
    by_cases e4 : x = 58
    · rw [if_pos e4]
      by_cases e : wi v 271 12 = nI 0
      · rw [if_pos e]
        by_cases e' : wi v 271 11 = nI 0
        · rcases h3 with h3 | h3 | h3
          · exact absurd e4 h3
          · exact absurd e h3
          · exact absurd e' h3
        · rw [if_neg e']
      · rw [if_neg e]
    · rw [if_neg e4]
  unfold F_M_goOnBehind
  simp (disch := omega) only [qL, ↓qM, q_eq, mK T, k122, gd_true, beq_self_eq_true, bd_s, if_true, if_false, ↓reduceIte, ite_true, ite_false, Bool.and_self, Bool.and_true, Bool.true_and, Nat.reduceBEq, Bool.or_true, Bool.true_or, Bool.or_self]
  rw [if_neg h1, if_neg h5]
  by_cases e2 : x = 41
  · rcases h2 with h2 | h2
    · exact absurd e2 h2
    · rw [if_pos e2, h2, if_pos (show nI 0 ≤ nI 0 by decide +kernel)]
  · rw [if_neg e2]
theorem G_andor {mo : Nat} {W1 : List Nat} (T : Top L xs v) (T1 : Top L xs v1) (T2 : Top L xs v2) (hx : (x = 38 ∧ mo = 13) ∨ (x = 124 ∧ mo = 14)) (h1 : F_M_endNumber 271 v = some v1) (h2 : F_M_layDown 271 (nI mo) v1 = some v2) (hW : WT v2 W1) (hl : W1.length < 80) : F_M_goOnBehind 271 (nI x) v = some (nI 1, upI (upI (upI v2 283 W1.length (nI mo)) 271 28 (nI (W1.length + 1))) 271 10 (nI 0)) := by
  rcases hx with ⟨e1, e2⟩ | ⟨e1, e2⟩ <;> subst e1 e2
  · unfold F_M_goOnBehind
    rw [if_pos (show nI 38 = (38 : Int32) from rfl)]
    unfold F_M_goOnBehind_12
    simp only [mK T, h1, gd_true, beq_self_eq_true, bd_s]
    rw [if_pos (show nI 38 = (38 : Int32) from rfl)]
    unfold F_M_goOnBehind_30
    simp only [l_13, mK T1, mK T2, h2, gd_true, beq_self_eq_true, bd_s]
    rw [if_pos (show nI 38 = (38 : Int32) from rfl)]
    unfold F_M_goOnBehind_54
    simp (disch := omega) only [qL, ↓qM, mPar T2, hW.1, q_inb, q_nat, wu0, wu1, wk_upI, nI_add, gd_true, beq_self_eq_true, bd_s, if_true, if_false, ↓reduceIte, ite_true, ite_false, Bool.and_self, Bool.and_true, Bool.true_and, Nat.reduceBEq, Bool.or_true, Bool.true_or, Bool.or_self]
  · unfold F_M_goOnBehind
    rw [if_neg (show ¬ nI 124 = (38 : Int32) by decide +kernel), if_pos (show nI 124 = (124 : Int32) from rfl)]
    unfold F_M_goOnBehind_12
    simp only [mK T, h1, gd_true, beq_self_eq_true, bd_s]
    rw [if_neg (show ¬ nI 124 = (38 : Int32) by decide +kernel)]
    unfold F_M_goOnBehind_30
    simp only [l_14, mK T1, mK T2, h2, gd_true, beq_self_eq_true, bd_s]
    rw [if_neg (show ¬ nI 124 = (38 : Int32) by decide +kernel)]
    unfold F_M_goOnBehind_54
    simp (disch := omega) only [qL, ↓qM, mPar T2, hW.1, q_inb, q_nat, wu0, wu1, wk_upI, nI_add, gd_true, beq_self_eq_true, bd_s, if_true, if_false, ↓reduceIte, ite_true, ite_false, Bool.and_self, Bool.and_true, Bool.true_and, Nat.reduceBEq, Bool.or_true, Bool.true_or, Bool.or_self]
theorem G_close {W1 : List Nat} {g : Nat} (T : Top L xs v) (T1 : Top L xs v1) (T2 : Top L xs v2) (h12 : wi v 271 12 = nI (g + 1)) (hg : g < 80) (h1 : F_M_endNumber 271 v = some v1) (h2 : F_M_layDown 271 (nI 14) v1 = some v2) (hW : WT v2 (W1 ++ [15])) (h12' : wi v2 271 12 = nI (g + 1)) : F_M_goOnBehind 271 (nI 41) v = some (nI 1, upI (upI (upI v2 271 28 (nI W1.length)) 271 12 (nI g)) 271 10 (nI 5)) := by
  have hw := hW.1
  rw [List.length_append, show [15].length = 1 from rfl] at hw
  unfold F_M_goOnBehind
  rw [if_neg (show ¬ nI 41 = (38 : Int32) by decide +kernel), if_neg (show ¬ nI 41 = (124 : Int32) by decide +kernel), if_pos (show nI 41 = (41 : Int32) from rfl)]
  simp only [mK T, h12, gd_true, beq_self_eq_true]
  rw [if_neg (show ¬ nI (g + 1) ≤ (0 : Int32) by rw [l_0, q_le (by omega) (by omega)]; omega), h1, bd_s]
  simp only [l_14, l_1, mK T1, mK T2, h2, gd_true, beq_self_eq_true, bd_s]
  simp (disch := omega) only [hw, wu1, h12', q_sub, Nat.add_sub_cancel]
  rfl
theorem G_colon (T : Top L xs v) (T1 : Top L xs v1) (T2 : Top L xs v2) (h12 : wi v 271 12 = nI 0) (h11 : wi v 271 11 = nI 0) (h1 : F_M_endNumber 271 v = some v1) (h2 : F_M_layDown 271 (nI 14) v1 = some v2) : F_M_goOnBehind 271 (nI 58) v = some (nI 1, upI (upI v2 271 11 (nI 1)) 271 10 (nI 6)) := by
  unfold F_M_goOnBehind
  rw [if_neg (show ¬ nI 58 = (38 : Int32) by decide +kernel), if_neg (show ¬ nI 58 = (124 : Int32) by decide +kernel), if_neg (show ¬ nI 58 = (41 : Int32) by decide +kernel)]
  unfold F_M_goOnBehind_122
  rw [if_pos (show nI 58 = (58 : Int32) from rfl)]
  simp only [mK T, h12, h11, gd_true, beq_self_eq_true]
  rw [if_pos (show nI 0 = (0 : Int32) from rfl), if_pos (show nI 0 = (0 : Int32) from rfl), h1, bd_s]
  simp only [l_14, mK T1, mK T2, h2, gd_true, beq_self_eq_true, bd_s]
  rfl
theorem G_at (T : Top L xs v) (T1 : Top L xs v1) (T2 : Top L xs v2) (h12 : wi v 271 12 = nI 0) (h11 : wi v 271 11 = nI 1) (h1 : F_M_endNumber 271 v = some v1) (h2 : F_M_layDown 271 (nI 14) v1 = some v2) : F_M_goOnBehind 271 (nI 64) v = some (nI 1, upI v2 271 10 (nI 10)) := by
  unfold F_M_goOnBehind
  rw [if_neg (show ¬ nI 64 = (38 : Int32) by decide +kernel), if_neg (show ¬ nI 64 = (124 : Int32) by decide +kernel), if_neg (show ¬ nI 64 = (41 : Int32) by decide +kernel)]
  unfold F_M_goOnBehind_122
  rw [if_neg (show ¬ nI 64 = (58 : Int32) by decide +kernel)]
  unfold F_M_goOnBehind_165
  rw [if_pos (show nI 64 = (64 : Int32) from rfl)]
  simp only [mK T, h12, h11, gd_true, beq_self_eq_true]
  rw [if_pos (show nI 0 = (0 : Int32) from rfl), if_pos (show nI 1 = (1 : Int32) from rfl), h1, bd_s]
  simp only [l_14, mK T1, mK T2, h2, gd_true, beq_self_eq_true, bd_s]
  rfl
theorem P_amp (T : Top L xs u) : F_Pg_goesOn 23 (nI 38) u = some (nI 1, upI (upI u 23 9 (nI 3)) 23 5 (nI 0)) := by
  unfold F_Pg_goesOn
  rw [if_pos (show nI 38 = (38 : Int32) from rfl)]
  simp only [t23 T, gd_true, beq_self_eq_true]
  exact bdb (A_goes (T.up 9 _ (by omega)) (nI 0)) (by omega)
theorem P_bar (T : Top L xs u) (T1 : Top L xs u1) (h : F_Pg_endTerm 23 (upI u 23 9 (nI 3)) = some u1) : F_Pg_goesOn 23 (nI 124) u = some (nI 1, upI u1 23 5 (nI 0)) := by
  unfold F_Pg_goesOn
  rw [if_neg (show ¬ nI 124 = (38 : Int32) by decide +kernel), if_neg (show ¬ nI 124 = (41 : Int32) by decide +kernel), if_neg (show ¬ nI 124 = (58 : Int32) by decide +kernel), if_neg (show ¬ nI 124 = (64 : Int32) by decide +kernel), if_pos (show nI 124 = (124 : Int32) from rfl)]
  simp only [l_3, t23 T, t23 T1, h, gd_true, beq_self_eq_true, bd_s]
  exact bdb (A_goes T1 (nI 0)) (by omega)
theorem P_close {d : Int32} {u2 : AW} (T : Top L xs u) (T1 : Top L xs u1) (h11 : wi u 23 11 = nI (g + 1)) (hg : g < 80) (h : F_Pg_endLevel 23 (upI u 23 9 (nI 3)) = some (d, u1)) (h11' : wi u1 23 11 = nI (g + 1)) (h2 : F_Pg_endFactor 23 d (upI u1 23 11 (nI g)) = some u2) : F_Pg_goesOn 23 (nI 41) u = some (nI 1, u2) := by
  have T3 := T.up (a := 23) 9 (nI 3) (by omega)
  unfold F_Pg_goesOn
  rw [if_neg (show ¬ nI 41 = (38 : Int32) by decide +kernel), if_pos (show nI 41 = (41 : Int32) from rfl)]
  simp (disch := omega) only [l_3, t23 T, wu1, h11, gd_true, beq_self_eq_true]
  rw [if_neg (show ¬ nI (g + 1) ≤ (0 : Int32) by rw [l_0, q_le (by omega) (by omega)]; omega)]
  refine bdc ?_ (by omega)
  unfold F_Pg_closes
  simp (disch := omega) only [l_1, t23 T3, t23 T1, h, h11', q_sub, Nat.add_sub_cancel, h2, gd_true, beq_self_eq_true, bd_s]
theorem P_colon {d : Int32} {c : Nat} (T : Top L xs u) (T1 : Top L xs u1) (h11 : wi u 23 11 = nI 0) (h4 : wi u 23 4 = nI 0) (h3 : wr u 23 3 = c) (kc : wk u1 c = 6) (hc : 16 ≤ c) (h : F_Pg_endLevel 23 (upI u 23 9 (nI 3)) = some (d, u1)) : F_Pg_goesOn 23 (nI 58) u = some (nI 1, upI (upI u1 c 5 d) 23 5 (nI 5)) := by
  have T3 := T.up (a := 23) 9 (nI 3) (by omega)
  unfold F_Pg_goesOn
  rw [if_neg (show ¬ nI 58 = (38 : Int32) by decide +kernel), if_neg (show ¬ nI 58 = (41 : Int32) by decide +kernel), if_pos (show nI 58 = (58 : Int32) from rfl)]
  simp (disch := omega) only [l_3, t23 T, wu1, h11, h4, gd_true, beq_self_eq_true]
  rw [if_pos (show nI 0 = (0 : Int32) from rfl), if_pos (show nI 0 = (0 : Int32) from rfl)]
  refine bdc ?_ (by omega)
  unfold F_Pg_endsFirst
  simp (disch := omega) only [t23 T3, wr_upI, h3, h, kc, gd_true, beq_self_eq_true, bd_s]
  rw [(t23 (T1.up (a := c) 5 d hc)).1]
  simp only [gd_true, beq_self_eq_true]
  exact bdb (A_goes (T1.up 5 _ hc) (nI 5)) (by omega)
theorem P_at {d : Int32} {c : Nat} (T : Top L xs u) (T1 : Top L xs u1) (h11 : wi u 23 11 = nI 0) (h4 : wi u 23 4 = nI 1) (h3 : wr u 23 3 = c) (kc : wk u1 c = 6) (hc : 16 ≤ c) (h : F_Pg_endLevel 23 (upI u 23 9 (nI 3)) = some (d, u1)) : F_Pg_goesOn 23 (nI 64) u = some (nI 1, upI (upI (upI (upI u1 c 5 d) 23 8 (nI 0)) 23 9 (nI 0)) 23 5 (nI 9)) := by
  have T3 := T.up (a := 23) 9 (nI 3) (by omega)
  unfold F_Pg_goesOn
  rw [if_neg (show ¬ nI 64 = (38 : Int32) by decide +kernel), if_neg (show ¬ nI 64 = (41 : Int32) by decide +kernel), if_neg (show ¬ nI 64 = (58 : Int32) by decide +kernel), if_pos (show nI 64 = (64 : Int32) from rfl)]
  simp (disch := omega) only [l_3, t23 T, wu1, h11, h4, gd_true, beq_self_eq_true]
  rw [if_pos (show nI 0 = (0 : Int32) from rfl), if_neg (show ¬ nI 1 = (0 : Int32) by decide +kernel)]
  refine bdc ?_ (by omega)
  unfold F_Pg_endsSecond
  simp (disch := omega) only [t23 T3, wr_upI, h3, h, kc, gd_true, beq_self_eq_true, bd_s]
  rw [(t23 (T1.up (a := c) 5 d hc)).1]
  simp only [gd_true, beq_self_eq_true]
  exact bdb (A_goes (((T1.up 5 _ hc).up 8 _ (by omega)).up 9 _ (by omega)) (nI 9)) (by omega)
theorem HE.cast {P Q : List (Nat × Int)} {c h h' : Nat} (H : HE P Q c h) (e : h = h') : HE P Q c h' := e ▸ H
/-- behind a number, once the reference has laid it down -/
theorem D45 (T' : Top L xs v) (hs : s ∈ STab) (hk : k ≤ 80) (hp : p ≤ 1) (mb : MB p q g v) (D : (q = 4 ∧ D4 pg s p g i0 m k V W u v) ∨ (q = 5 ∧ D5 pg s p g i0 m k V W u v)) : ∃ v1, F_M_endNumber 271 v = some v1 ∧ FR (XMk p) v v1 ∧ D5 pg s p g i0 m k V W u v1 := by
  obtain ⟨m1, m2, m3⟩ := mb
  rcases D with ⟨e, D⟩ | ⟨e, D⟩ <;> subst e
  · obtain ⟨P, Q, c, fd, sg, f0, n0, dg, val, mi, d1, d2, d3, d4, d5, d6, d10, d11, ⟨e1, e2, e3, e4, e5, e6⟩, c7, c9, c10, r13, r14, r15, r16, r17⟩ := D
    have hval : val ≤ 999 := by
      have : dg = 1 ∨ dg = 2 ∨ dg = 3 := by omega
      rcases this with e | e | e <;> subst e <;> omega
    obtain ⟨v1, n1, n2, n3⟩ := M_endNum4 T' (by omega) m1 m2 r14 r15 r16 r17 e1 e2 e3 hval d3 (by omega)
    exact ⟨v1, n1, n2, P ++ [(3 * fd + sg, zz mi val)], Q ++ [(3 * fd + sg, zz mi val)], c + 1, f0, n0, d1, d2, n3, d4.cmp _ (by omega) (by omega), d5, d6, by omega, by rw [List.length_append]; show Q.length + 1 + W.length + p ≤ k; omega⟩
  · exact ⟨v, M_endNum5 T' m1, FR.refl _ _, D⟩
theorem XM_c {v v1 v2 : AW} (f1 : FR (XMk p) v v1) (f2 : FR (XY p) v1 v2) : FR (XBc p) v v2 := (f1.mono (fun a i h => .inr (.inl h))).trans (f2.mono (fun a i h => h.elim (fun q => .inr (.inl q)) (fun q => .inl ⟨q.1, .inr q.2⟩)))
end
