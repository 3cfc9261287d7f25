/-! PURE: the days between the two conditions -/
section
variable {L : Nat} {xs : Nat → Int32} {u v u' v' : AW} {pg : Nat → Nat} {nP s k q x : Nat} {R : AW → AW → Prop} {FA FM : AW → Option (Int32 × AW)}
theorem OK1.no' (h1 : FA u = some (nI 0, u')) (h2 : FM v = some (nI 0, v')) (f : FR (XA s) u u') (h : FR XB v v') : OK1 R s FA FM u v := ⟨0, u', v', h1, h2, by omega, f.c, h, fun e => by omega⟩
theorem OK1.yes' (h1 : FA u = some (nI 1, u')) (h2 : FM v = some (nI 1, v')) (f : FC (XA s) u u') (h : FR XB v v') (r : R u' v') : OK1 R s FA FM u v := ⟨1, u', v', h1, h2, by omega, f, h, fun _ => r⟩
/-- a condition begins -/
theorem P_start (T : Top L xs u) (c : Nat) : ∃ u', F_Pg_startCondition 23 c u = some u' ∧ FR (fun a i => (a = 23 ∧ (i = 5 ∨ i = 11)) ∨ (32 ≤ a ∧ a ≤ 36)) (upR u 23 3 c) u' ∧ wi u' 23 5 = nI 0 ∧ wi u' 23 11 = nI 0 ∧ LC u' (fun _ _ => nI 0) 0 := by
  have T1 : Top L xs (upR u 23 3 c) := (FC.r3 (X := fun _ _ => False) u c).top (fun _ _ h => h.elim) T
  obtain ⟨u1, h1, h2, h3, h4⟩ := A_open T1 (show 0 ≤ 80 by omega)
  have T2 := T1.sh (h2.sh (fun a i h => by unfold XO at h; omega))
  refine ⟨upI u1 23 5 (nI 0), ?_, (h2.mono (fun a i h => by unfold XO at h; omega)).s _ _ _ (.inl ⟨rfl, .inl rfl⟩), wu0 _ _ _ _, by rw [wu1 (by omega)]; exact h3, fun j i hj hi => ?_⟩
  · unfold F_Pg_startCondition
    simp only [l_0, t23 T, h1, t23 T2, gd_true, beq_self_eq_true, bd_s]
  · rw [wu1 (by omega), show i = 0 by omega]; exact h4 j hj
theorem P_98n (hx : x ≤ 126) (h : ¬ (48 ≤ x ∧ x ≤ 57)) : F_Pg_readsSpan_98 23 (nI x) u = some (nI 0, u) := by
  unfold F_Pg_readsSpan_98
  rw [A_isDig hx, if_neg h, if_pos (show nI 0 = (0 : Int32) from rfl)]; rfl
theorem P_98a (T : Top L xs u) (hs : s ∈ STab) (h2 : wr u 23 2 = s) (h5 : wi u 23 5 = nI 5) (hx : 48 ≤ x ∧ x ≤ 57) : F_Pg_readsSpan_98 23 (nI x) u = some (nI 1, upI (upI (upI u s 2 (nI (x - 48))) s 3 (nI (x - 48))) 23 5 (nI 6)) := by
  have hsr := STab_rng s hs
  unfold F_Pg_readsSpan_98
  rw [A_isDig (by omega), if_pos hx, if_neg (show ¬ nI 1 = (0 : Int32) by decide +kernel)]
  simp only [l_48, q_sub hx.1, t23 T, h2, h5, tY T hs, wk_upI, wr_upI, gd_true, beq_self_eq_true]
  rw [if_pos (show nI 5 = (5 : Int32) from rfl)]
  exact bdb (A_goes ((T.up (a := s) 2 _ (by omega)).up (a := s) 3 _ (by omega)) (nI 6)) (by omega)
theorem P_98b (T : Top L xs u) (hs : s ∈ STab) (h2 : wr u 23 2 = s) (h5 : ¬ wi u 23 5 = nI 5) (hx : 48 ≤ x ∧ x ≤ 57) : F_Pg_readsSpan_98 23 (nI x) u = if wi u 23 5 = nI 7 then (if nI (x - 48) < wi u s 2 then some (nI 0, upI u s 3 (nI (x - 48))) else some (nI 1, upI (upI u s 3 (nI (x - 48))) 23 5 (nI 8))) else some (nI 0, upI u s 3 (nI (x - 48))) := by
  have hsr := STab_rng s hs
  unfold F_Pg_readsSpan_98
  rw [A_isDig (by omega), if_pos hx, if_neg (show ¬ nI 1 = (0 : Int32) by decide +kernel)]
  simp only [l_48, q_sub hx.1, t23 T, h2, tY T hs, wk_upI, wr_upI, gd_true, beq_self_eq_true]
  rw [if_neg (show ¬ wi u 23 5 = (5 : Int32) from h5)]
  simp (disch := omega) only [l_7, wu1]
  by_cases e : wi u 23 5 = nI 7
  · rw [if_pos e, if_pos e]
    by_cases e2 : nI (x - 48) < wi u s 2
    · rw [if_pos e2, if_pos e2]; rfl
    · rw [if_neg e2, if_neg e2]
      exact bdc (A_goes (T.up (a := s) 3 _ (by omega)) (nI 8)) (by omega)
  · rw [if_neg e, if_neg e]; rfl
/-- the class's letter behind the days: which one it looks at -/
theorem P_span (T : Top L xs u) (hx : x ≤ 126) : F_Pg_readsSpan 23 (nI x) u = if (x = 126 ∨ x = 94) ∧ (wi u 23 5 = nI 6 ∨ wi u 23 5 = nI 8) then F_Pg_readsSpan_40 23 (nI x) u else if x = 45 ∧ wi u 23 5 = nI 6 then some (nI 1, upI u 23 5 (nI 7)) else F_Pg_readsSpan_98 23 (nI x) u := by
  have k76 : F_Pg_readsSpan_76 23 (nI x) u = if x = 45 ∧ wi u 23 5 = nI 6 then some (nI 1, upI u 23 5 (nI 7)) else F_Pg_readsSpan_98 23 (nI x) u := by
    unfold F_Pg_readsSpan_76
    simp only [t23 T, gd_true, beq_self_eq_true]
    by_cases e : x = 45
    · rw [if_pos (show nI x = (45 : Int32) by rw [e]; rfl)]
      by_cases e2 : wi u 23 5 = nI 6
      · rw [if_pos (show wi u 23 5 = (6 : Int32) from e2), if_pos ⟨e, e2⟩]
        exact bdb (A_goes T (nI 7)) (by omega)
      · rw [if_neg (show ¬ wi u 23 5 = (6 : Int32) from e2), if_neg (fun q => e2 q.2)]
    · rw [if_neg (show ¬ nI x = (45 : Int32) from nIne (k := 45) hx (by omega) e), if_neg (fun q => e q.1)]
  have k17 : F_Pg_readsSpan_17 23 (nI x) 1 u = if (wi u 23 5 = nI 6 ∨ wi u 23 5 = nI 8) then F_Pg_readsSpan_40 23 (nI x) u else F_Pg_readsSpan_76 23 (nI x) u := by
    unfold F_Pg_readsSpan_17
    simp only [t23 T, gd_true, beq_self_eq_true]
    rw [if_neg (show ¬ (1 : Int32) = 0 by decide +kernel)]
    by_cases e : wi u 23 5 = nI 6
    · rw [if_pos (show wi u 23 5 = (6 : Int32) from e), if_pos (.inl e)]
    · rw [if_neg (show ¬ wi u 23 5 = (6 : Int32) from e)]
      by_cases e2 : wi u 23 5 = nI 8
      · rw [if_pos (show wi u 23 5 = (8 : Int32) from e2), if_pos (.inr e2)]
      · rw [if_neg (show ¬ wi u 23 5 = (8 : Int32) from e2), if_neg (fun q => q.elim e e2)]
  unfold F_Pg_readsSpan
  by_cases e1 : x = 126
  · rw [if_pos (show nI x = (126 : Int32) by rw [e1]; rfl), k17]
    by_cases e : wi u 23 5 = nI 6 ∨ wi u 23 5 = nI 8
    · rw [if_pos e, if_pos ⟨.inl e1, e⟩]
    · rw [if_neg e, if_neg (fun q => e q.2), k76]
  · rw [if_neg (show ¬ nI x = (126 : Int32) from nIne (k := 126) hx (by omega) e1)]
    by_cases e2 : x = 94
    · rw [if_pos (show nI x = (94 : Int32) by rw [e2]; rfl), k17]
      by_cases e : wi u 23 5 = nI 6 ∨ wi u 23 5 = nI 8
      · rw [if_pos e, if_pos ⟨.inr e2, e⟩]
      · rw [if_neg e, if_neg (fun q => e q.2), k76]
    · rw [if_neg (show ¬ nI x = (94 : Int32) from nIne (k := 94) hx (by omega) e2), if_neg (fun q => q.1.elim e1 e2)]
      unfold F_Pg_readsSpan_17
      rw [if_pos (show (0 : Int32) = 0 from rfl), k76]
/-- the second condition begins -/
theorem P_tilde (T : Top L xs u) (hs : s ∈ STab) (h2 : wr u 23 2 = s) (hx : x ≤ 126) : ∃ u', F_Pg_readsSpan_40 23 (nI x) u = some (nI 1, u') ∧ FR (fun a i => (a = 23 ∧ (i = 4 ∨ i = 5 ∨ i = 11)) ∨ (32 ≤ a ∧ a ≤ 36) ∨ (a = s ∧ i = 4)) (upR u 23 3 (s + 4)) u' ∧ wi u' 23 4 = nI 1 ∧ wi u' 23 5 = nI 0 ∧ wi u' 23 11 = nI 0 ∧ LC u' (fun _ _ => nI 0) 0 ∧ wi u' s 4 = nI (if x = 94 then 1 else 0) := by
  have hsr := STab_rng s hs
  have key : ∀ b, b ≤ 1 → ∃ u', F_Pg_readsSpan_55 23 (nI b) s u = some (nI 1, u') ∧ FR (fun a i => (a = 23 ∧ (i = 4 ∨ i = 5 ∨ i = 11)) ∨ (32 ≤ a ∧ a ≤ 36) ∨ (a = s ∧ i = 4)) (upR u 23 3 (s + 4)) u' ∧ wi u' 23 4 = nI 1 ∧ wi u' 23 5 = nI 0 ∧ wi u' 23 11 = nI 0 ∧ LC u' (fun _ _ => nI 0) 0 ∧ wi u' s 4 = nI b := by
    intro b hb
    have hb2 : (nI b == (0 : Int32) || nI b == 1) = true := by
      have : b = 0 ∨ b = 1 := by omega
      rcases this with e | e <;> subst e <;> decide +kernel
    have T1 := T.up (a := s) 4 (nI b) (by omega)
    obtain ⟨u1, p1, p2, p3, p4, p5⟩ := P_start T1 (s + 4)
    have T2 : Top L xs u1 := ((FC.r3 (X := fun _ _ => False) (upI u s 4 (nI b)) (s + 4)).top (fun _ _ h => h.elim) T1).sh (p2.sh (fun a i h => by omega))
    refine ⟨upI u1 23 4 (nI 1), ?_, ?_, wu0 _ _ _ _, by rw [wu1 (by omega)]; exact p3, by rw [wu1 (by omega)]; exact p4, fun j i hj hi => by rw [wu1 (by omega)]; exact p5 j i hj hi, ?_⟩
    · unfold F_Pg_readsSpan_55
      simp only [tY T hs, hb2, gd_true, beq_self_eq_true, wk_upI, wr_upI, t23 T, h2, p1, t23 T2, bd_s]
      rfl
    · have f0 : FR (fun a i => (a = 23 ∧ (i = 4 ∨ i = 5 ∨ i = 11)) ∨ (32 ≤ a ∧ a ≤ 36) ∨ (a = s ∧ i = 4)) (upR u 23 3 (s + 4)) (upR (upI u s 4 (nI b)) 23 3 (s + 4)) := (FR.refl _ (upR u 23 3 (s + 4))).s s 4 (nI b) (.inr (.inr ⟨rfl, rfl⟩))
      exact (f0.trans (p2.mono (fun a i h => by omega))).s 23 4 _ (.inl ⟨rfl, .inl rfl⟩)
    · rw [wu1 (by omega), p2.i (by omega)]
      exact wu0 _ _ _ _
  unfold F_Pg_readsSpan_40
  simp only [t23 T, h2, gd_true, beq_self_eq_true]
  by_cases e : x = 94
  · rw [if_pos (show nI x = (94 : Int32) by rw [e]; rfl), if_pos e]
    exact key 1 (by omega)
  · rw [if_neg (show ¬ nI x = (94 : Int32) from nIne (k := 94) hx (by omega) e), if_neg e]
    exact key 0 (by omega)
theorem G_span6 (T : Top L xs v) (h10 : wi v 271 10 = nI 6) (hx : x ≤ 126) : F_M_goOn 271 (nI x) v = some (if 48 ≤ x ∧ x ≤ 57 then nI 1 else nI 0, upI (upI (upI v 271 18 (nI x - nI 48)) 271 19 (nI x - nI 48)) 271 10 (nI 7)) := by
  rw [M_go6 T h10]
  unfold F_M_goOn_300
  simp only [mK T, gd_true, beq_self_eq_true]
  have h : F_M_goOnSpan 271 (nI x) v = some (if 48 ≤ x ∧ x ≤ 57 then nI 1 else nI 0, upI (upI (upI v 271 18 (nI x - nI 48)) 271 19 (nI x - nI 48)) 271 10 (nI 7)) := by
    unfold F_M_goOnSpan
    simp only [mK T, h10, gd_true, beq_self_eq_true, M_isFig hx]
    rw [if_pos (show nI 6 = (6 : Int32) from rfl)]
    simp only [l_48, wu0]
    rfl
  by_cases e : 48 ≤ x ∧ x ≤ 57
  · rw [if_pos e] at h ⊢; exact bdb h (by omega)
  · rw [if_neg e] at h ⊢; exact bdb h (by omega)
theorem G_span8 (T : Top L xs v) (h10 : wi v 271 10 = nI 8) (hx : x ≤ 126) : F_M_goOn 271 (nI x) v = some (if 48 ≤ x ∧ x ≤ 57 ∧ ¬ (nI x - nI 48 < wi v 271 18) then nI 1 else nI 0, upI (upI v 271 19 (nI x - nI 48)) 271 10 (nI 9)) := by
  rw [M_go8 T h10]
  unfold F_M_goOn_300
  simp only [mK T, gd_true, beq_self_eq_true]
  have h : F_M_goOnSpan 271 (nI x) v = some (if 48 ≤ x ∧ x ≤ 57 ∧ ¬ (nI x - nI 48 < wi v 271 18) then nI 1 else nI 0, upI (upI v 271 19 (nI x - nI 48)) 271 10 (nI 9)) := by
    unfold F_M_goOnSpan
    simp only [mK T, h10, gd_true, beq_self_eq_true, M_isFig hx]
    rw [if_neg (show ¬ nI 8 = (6 : Int32) by decide +kernel), if_pos (show nI 8 = (8 : Int32) from rfl)]
    simp (disch := omega) only [l_48, wu0, wu1]
    by_cases e : 48 ≤ x ∧ x ≤ 57
    · rw [if_pos e, if_neg (show ¬ nI 1 = (0 : Int32) by decide +kernel)]
      by_cases e2 : nI x - nI 48 < wi v 271 18
      · rw [if_pos e2, if_neg (fun q => q.2.2 e2)]; rfl
      · rw [if_neg e2, if_pos ⟨e.1, e.2, e2⟩]; rfl
    · rw [if_neg e, if_pos (show nI 0 = (0 : Int32) from rfl), if_neg (fun q => e ⟨q.1, q.2.1⟩)]; rfl
  by_cases e : 48 ≤ x ∧ x ≤ 57 ∧ ¬ (nI x - nI 48 < wi v 271 18)
  · rw [if_pos e] at h ⊢; exact bdb h (by omega)
  · rw [if_neg e] at h ⊢; exact bdb h (by omega)
theorem G_span79 (T : Top L xs v) (h10 : (q = 7 ∨ q = 9) ∧ wi v 271 10 = nI q) (hx : x ≤ 126) : F_M_goOn 271 (nI x) v = if x = 45 ∧ q = 7 then some (nI 1, upI v 271 10 (nI 8)) else some (if x = 126 ∨ x = 94 then nI 1 else nI 0, upI (upI v 271 20 (nI (if x = 94 then 1 else 0))) 271 10 (nI 0)) := by
  obtain ⟨hq, h10⟩ := h10
  have k118 : ∀ b, b ≤ 1 → F_M_goOnSpan_118 271 (nI x) (nI b) 271 v = some (if x = 126 ∨ x = 94 then nI 1 else nI 0, upI (upI v 271 20 (nI b)) 271 10 (nI 0)) := by
    intro b hb
    have hb2 : (nI b == (0 : Int32) || nI b == 1) = true := by
      have : b = 0 ∨ b = 1 := by omega
      rcases this with e | e <;> subst e <;> decide +kernel
    unfold F_M_goOnSpan_118
    simp only [mK T, hb2, wk_upI, gd_true, beq_self_eq_true]
    by_cases e1 : x = 126
    · rw [if_pos (show nI x = (126 : Int32) by rw [e1]; rfl), if_pos (.inl e1)]; rfl
    · rw [if_neg (show ¬ nI x = (126 : Int32) from nIne (k := 126) hx (by omega) e1)]
      by_cases e2 : x = 94
      · rw [if_pos (show nI x = (94 : Int32) by rw [e2]; rfl), if_pos (.inr e2)]; rfl
      · rw [if_neg (show ¬ nI x = (94 : Int32) from nIne (k := 94) hx (by omega) e2), if_neg (fun q => q.elim e1 e2)]; rfl
  have k106 : F_M_goOnSpan_106 271 (nI x) v = some (if x = 126 ∨ x = 94 then nI 1 else nI 0, upI (upI v 271 20 (nI (if x = 94 then 1 else 0))) 271 10 (nI 0)) := by
    unfold F_M_goOnSpan_106
    by_cases e2 : x = 94
    · rw [if_pos (show nI x = (94 : Int32) by rw [e2]; rfl), if_pos e2]; exact k118 1 (by omega)
    · rw [if_neg (show ¬ nI x = (94 : Int32) from nIne (k := 94) hx (by omega) e2), if_neg e2]; exact k118 0 (by omega)
  have h : F_M_goOnSpan 271 (nI x) v = if x = 45 ∧ q = 7 then some (nI 1, upI v 271 10 (nI 8)) else some (if x = 126 ∨ x = 94 then nI 1 else nI 0, upI (upI v 271 20 (nI (if x = 94 then 1 else 0))) 271 10 (nI 0)) := by
    unfold F_M_goOnSpan
    simp only [mK T, h10, gd_true, beq_self_eq_true]
    rw [if_neg (show ¬ nI q = (6 : Int32) from nIne (k := 6) (by omega) (by omega) (by omega)), if_neg (show ¬ nI q = (8 : Int32) from nIne (k := 8) (by omega) (by omega) (by omega))]
    by_cases e : x = 45
    · rw [if_pos (show nI x = (45 : Int32) by rw [e]; rfl)]
      by_cases e2 : q = 7
      · rw [if_pos (show nI q = (7 : Int32) by rw [e2]; rfl), if_pos ⟨e, e2⟩]; rfl
      · rw [if_neg (show ¬ nI q = (7 : Int32) from nIne (k := 7) (by omega) (by omega) e2), if_neg (fun q => e2 q.2), k106]
    · rw [if_neg (show ¬ nI x = (45 : Int32) from nIne (k := 45) hx (by omega) e), if_neg (fun q => e q.1), k106]
  have hG : F_M_goOn 271 (nI x) v = (F_M_goOnSpan 271 (nI x) v).bind fun r => gd (r.1 == 0 || r.1 == 1) (some (r.1, r.2)) := by
    rcases hq with e | e <;> subst e
    · rw [M_go7 T h10]; unfold F_M_goOn_300; simp only [mK T, gd_true, beq_self_eq_true]
    · rw [M_go9 T h10]; unfold F_M_goOn_300; simp only [mK T, gd_true, beq_self_eq_true]
  rw [hG]
  by_cases e : x = 45 ∧ q = 7
  · rw [if_pos e] at h ⊢; exact bdb h (by omega)
  · rw [if_neg e] at h ⊢
    by_cases e2 : x = 126 ∨ x = 94
    · rw [if_pos e2] at h ⊢; exact bdb h (by omega)
    · rw [if_neg e2] at h ⊢; exact bdb h (by omega)
end
