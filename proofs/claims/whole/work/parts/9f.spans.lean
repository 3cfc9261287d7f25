/-! PURE: one letter more between the two conditions -/
section
variable {L : Nat} {xs : Nat → Int32} {u v u' v' : AW} {pg : Nat → Nat} {nP s k q x : Nat}
theorem Rsp.acc (T : Top L xs u) (h : wi u 23 5 = nI 5 ∨ wi u 23 5 = nI 6 ∨ wi u 23 5 = nI 7 ∨ wi u 23 5 = nI 8) (x : Int32) : F_Pg_accepts 23 x u = (F_Pg_readsSpan 23 x u).bind fun r => gd (r.1 == 0 || r.1 == 1) (some (r.1, r.2)) := by
  rcases h with h | h | h | h
  · rw [A_acc5 T h]; unfold F_Pg_accepts_134; simp only [t23 T, gd_true, beq_self_eq_true]
  · rw [A_acc6 T h]; unfold F_Pg_accepts_134; simp only [t23 T, gd_true, beq_self_eq_true]
  · rw [A_acc7 T h]; unfold F_Pg_accepts_134; simp only [t23 T, gd_true, beq_self_eq_true]
  · rw [A_acc8 T h]; unfold F_Pg_accepts_134; simp only [t23 T, gd_true, beq_self_eq_true]
/-- what the days' letters change -/
def XS (s a i : Nat) : Prop := (a = 23 ∧ i = 5) ∨ (a = s ∧ (i = 2 ∨ i = 3))
def XT (a i : Nat) : Prop := a = 271 ∧ (i = 10 ∨ i = 18 ∨ i = 19)
theorem Rsp.next {q' a b : Nat} (hs : s ∈ STab) (B : Rsp pg nP s q k u v) (f : FR (XS s) u u') (h : FR XT v v') (h1 : 6 ≤ q' ∧ q' ≤ 9) (c5 : wi u' 23 5 = nI (q' - 1)) (m10 : wi v' 271 10 = nI q') (nt : pg k ≠ 126 ∧ pg k ≠ 94) (e1 : 7 ≤ q' → wi u' s 2 = nI a ∧ wi v' 271 18 = nI a) (e2 : q' = 7 ∨ q' = 9 → wi u' s 3 = nI b ∧ wi v' 271 19 = nI b) (e3 : a ≤ 9 ∧ b ≤ 9 ∧ a ≤ b) : Rsp pg nP s q' (k + 1) u' v' := by
  have hsr := STab_rng s hs
  obtain ⟨-, -, ⟨c1, c2, -⟩, ⟨-, m2, m3⟩, wt, se, nt0, fn, co, mk, -⟩ := B
  exact ⟨h1.1, h1.2, ⟨(f.r 23 2).trans c1, (f.i (by unfold XS; omega)).trans c2, c5⟩, ⟨m10, (h.i (by unfold XT; omega)).trans m2, (h.i (by unfold XT; omega)).trans m3⟩, wt.fr h (by unfold XT; omega) (fun i => by unfold XT; omega), se.fr f h (fun i hi => by unfold XS; omega) (fun i h1 h2 => by unfold XT; omega), nt0.s nt.1 nt.2, fn.fr f h (fun a i h1 h2 => by unfold XS; omega) (fun a i h1 => by unfold XT; omega), co.fr f (fun a i h1 h2 => by unfold XS; omega), mk.fr h (by unfold XT; omega) (fun i hi => ⟨by unfold XT; omega, by unfold XT; omega⟩), a, b, e1, e2, e3⟩
theorem XS_XA {s : Nat} : ∀ a i, XS s a i → XA s a i := by
  intro a i h; unfold XS at h; unfold XA; omega
theorem XT_XB : ∀ a i, XT a i → XB a i := by
  intro a i h; unfold XT at h; unfold XB; omega
/-- behind ~ or ^ -/
theorem Rsp.tilde {a b : Nat} (T : Top L xs u) (T' : Top L xs v) (hs : s ∈ STab) (hkn : k < nP) (hc : pg k = 126 ∨ pg k = 94) (B : Rsp pg nP s q k u v) (h5 : wi u 23 5 = nI 6 ∨ wi u 23 5 = nI 8) (h10 : (q = 7 ∨ q = 9) ∧ wi v 271 10 = nI q) (e1 : wi u s 2 = nI a ∧ wi v 271 18 = nI a) (e2 : wi u s 3 = nI b ∧ wi v 271 19 = nI b) (e3 : a ≤ 9 ∧ b ≤ 9 ∧ a ≤ b) : OK1 (RR pg nP s (k + 1)) s (F_Pg_accepts 23 (nI (pg k))) (F_M_goOn 271 (nI (pg k))) u v := by
  have hsr := STab_rng s hs
  have hx : pg k ≤ 126 := by omega
  obtain ⟨-, -, ⟨c1, c2, -⟩, ⟨-, m2, m3⟩, wt, se, nt0, fn, co, mk, -⟩ := B
  obtain ⟨u', p1, p2, p3, p4, p5, p6, p7⟩ := P_tilde T hs c1 hx
  have A : F_Pg_accepts 23 (nI (pg k)) u = some (nI 1, u') := by
    rw [Rsp.acc T (h5.elim (fun q => .inr (.inl q)) (fun q => .inr (.inr (.inr q)))), P_span T hx, if_pos ⟨hc, h5⟩]
    exact bdb p1 (by omega)
  have G : F_M_goOn 271 (nI (pg k)) v = some (nI 1, upI (upI v 271 20 (nI (if pg k = 94 then 1 else 0))) 271 10 (nI 0)) := by
    rw [G_span79 T' h10 hx, if_neg (by omega), if_pos hc]
  have h : FR (fun a i => a = 271 ∧ (i = 10 ∨ i = 20)) v (upI (upI v 271 20 (nI (if pg k = 94 then 1 else 0))) 271 10 (nI 0)) := ((FR.refl (fun a i => a = 271 ∧ (i = 10 ∨ i = 20)) v).s _ _ _ ⟨rfl, .inr rfl⟩).s _ _ _ ⟨rfl, .inl rfl⟩
  have fc : FC (XA s) u u' := (FC.r3 u (s + 4)).trans (p2.mono (fun a i h => by unfold XA; omega)).c
  have r2 : wr u' 23 2 = s := (p2.r 23 2).trans c1
  have r3 : wr u' 23 3 = s + 4 := (p2.r 23 3).trans (by rw [wr_upR, if_pos ⟨rfl, rfl⟩])
  have se' : SE s (upR u 23 3 (s + 4)) v := se
  have fn' : FNd pg nP s 0 (upR u 23 3 (s + 4)) v := fn
  have co' : CO (upR u 23 3 (s + 4)) (s + 4) [] := co
  have nt2 : pg k ≠ 58 ∧ pg k ≠ 64 ∧ pg k ≠ 41 := by omega
  refine OK1.yes' A G fc (h.mono (fun a i h => by unfold XB; omega)) (.inl ⟨1, 0, k, 1, fun _ _ => nI 0, [], .inl ⟨⟨by omega, rfl, ⟨r2, r3, p3, p4, p5⟩, ⟨wu0 _ _ _ _, (h.i (by omega)).trans m2, (h.i (by omega)).trans m3⟩, p6, ?_, ?_, ⟨se'.fr p2 h (fun i hi => by omega) (fun i h1 h2 => by omega), .inr ⟨rfl, hkn, hc, nt0⟩, .inr ⟨rfl, fn'.fr p2 h (fun a i h1 h2 => by omega) (fun a i h1 => by omega), ?_⟩⟩, wt.fr h (by omega) (fun i => by omega)⟩, [], [], 0, ?_, co'.fr p2 (fun a i h1 h2 => by omega), mk.fr h (by omega) (fun i hi => ⟨by omega, by omega⟩), ?_, ?_, by omega, ?_⟩⟩)
  · intro i hi j hj
    show nI 0 = nI (nat (nI 0)) ∧ nat (nI 0) ≤ k + 1
    rw [nat0]; exact ⟨rfl, by omega⟩
  · intro q hq
    obtain rfl : q = 0 := by omega
    exact ⟨nt2.1, nt2.2.1, by show 0 < 80; omega, fun e => absurd e nt2.2.2⟩
  · refine ⟨a, b, if pg k = 94 then 1 else 0, (p2.i (by omega)).trans e1.1, (p2.i (by omega)).trans e2.1, p7, (h.i (by omega)).trans e1.2, (h.i (by omega)).trans e2.2, ?_, e3.2.2, e3.2.1, by split <;> omega⟩
    rw [wu1 (by omega), wu0]
  · show dst (pg k) (0, fun _ _ => nI 0) = _
    exact dst_plain (by omega)
  · rw [b10]; exact HE.nil
  · rw [nat0]; rfl
  · show 0 + 0 + 1 ≤ k + 1; omega
theorem step6 (T : Top L xs u) (T' : Top L xs v) (hs : s ∈ STab) (hkn : k < nP) (hnP : nP ≤ 80) (hx : pg k ≤ 126) (B : Rsp pg nP s q k u v) : OK1 (RR pg nP s (k + 1)) s (F_Pg_accepts 23 (nI (pg k))) (F_M_goOn 271 (nI (pg k))) u v := by
  have hsr := STab_rng s hs
  obtain ⟨h6, h9, ⟨c1, c2, c5⟩, ⟨m1, m2, m3⟩, wt, se, nt0, fn, co, mk, a, b, e1, e2, e3⟩ := id B
  have f3 : ∀ y, FR (XS s) u (upI u s 3 y) := fun y => (FR.refl (XS s) u).s _ _ _ (.inr ⟨rfl, .inr rfl⟩)
  have f3' : ∀ y, FR (XA s) u (upI u s 3 y) := fun y => (f3 y).mono XS_XA
  have hv : ∀ y z, FR XT v (upI (upI v 271 19 y) 271 10 z) := fun y z => ((FR.refl XT v).s _ _ _ ⟨rfl, .inr (.inr rfl)⟩).s _ _ _ ⟨rfl, .inl rfl⟩
  have hv3 : ∀ y w z, FR XT v (upI (upI (upI v 271 18 y) 271 19 w) 271 10 z) := fun y w z => (((FR.refl XT v).s _ _ _ ⟨rfl, .inr (.inl rfl)⟩).s _ _ _ ⟨rfl, .inr (.inr rfl)⟩).s _ _ _ ⟨rfl, .inl rfl⟩
  have hq : q = 6 ∨ q = 7 ∨ q = 8 ∨ q = 9 := by omega
  rcases hq with e | e | e | e <;> subst e
  · -- the first day
    have c5' : wi u 23 5 = nI 5 := c5
    have nA : ¬ (wi u 23 5 = nI 6 ∨ wi u 23 5 = nI 8) := by rw [c5', q_eq (by omega) (by omega), q_eq (by omega) (by omega)]; omega
    have nB : ¬ wi u 23 5 = nI 6 := fun q => nA (.inl q)
    have hA : F_Pg_accepts 23 (nI (pg k)) u = (F_Pg_readsSpan_98 23 (nI (pg k)) u).bind fun r => gd (r.1 == 0 || r.1 == 1) (some (r.1, r.2)) := by
      rw [Rsp.acc T (.inl c5'), P_span T hx, if_neg (fun q => nA q.2), if_neg (fun q => nB q.2)]
    have G := G_span6 T' m1 hx
    by_cases ed : 48 ≤ pg k ∧ pg k ≤ 57
    · rw [if_pos ed] at G
      have fa : FR (XS s) u (upI (upI (upI u s 2 (nI (pg k - 48))) s 3 (nI (pg k - 48))) 23 5 (nI 6)) := (((FR.refl (XS s) u).s _ _ _ (.inr ⟨rfl, .inl rfl⟩)).s _ _ _ (.inr ⟨rfl, .inr rfl⟩)).s _ _ _ (.inl ⟨rfl, rfl⟩)
      refine OK1.yes' (by rw [hA]; exact bdb (P_98a T hs c1 c5' ed) (by omega)) G (fa.mono XS_XA).c ((hv3 _ _ _).mono XT_XB) (.inr (.inl ⟨7, B.next (a := pg k - 48) (b := pg k - 48) hs fa (hv3 _ _ _) ⟨by omega, by omega⟩ (wu0 _ _ _ _) (wu0 _ _ _ _) (by omega) (fun _ => ⟨?_, ?_⟩) (fun _ => ⟨?_, ?_⟩) (by omega)⟩))
      · rw [wu1 (by omega), wu1 (by omega), wu0]
      · rw [wu1 (by omega), wu1 (by omega), wu0, q_sub ed.1]
      · rw [wu1 (by omega), wu0]
      · rw [wu1 (by omega), wu0, q_sub ed.1]
    · rw [if_neg ed] at G
      exact OK1.no' (by rw [hA]; exact bdb (P_98n hx ed) (by omega)) G (FR.refl _ _) ((hv3 _ _ _).mono XT_XB)
  · -- behind the first day
    have c5' : wi u 23 5 = nI 6 := c5
    by_cases ct : pg k = 126 ∨ pg k = 94
    · exact Rsp.tilde T T' hs hkn ct B (.inl c5') ⟨.inl rfl, m1⟩ (e1 (by omega)) (e2 (.inl rfl)) e3
    by_cases cm : pg k = 45
    · have fa : FR (XS s) u (upI u 23 5 (nI 7)) := (FR.refl (XS s) u).s _ _ _ (.inl ⟨rfl, rfl⟩)
      have fb : FR XT v (upI v 271 10 (nI 8)) := (FR.refl XT v).s _ _ _ ⟨rfl, .inl rfl⟩
      refine OK1.yes' (u' := upI u 23 5 (nI 7)) (v' := upI v 271 10 (nI 8)) ?_ ?_ (fa.mono XS_XA).c (fb.mono XT_XB) (.inr (.inl ⟨8, B.next (a := a) (b := b) hs fa fb ⟨by omega, by omega⟩ (wu0 _ _ _ _) (wu0 _ _ _ _) (by omega) (fun _ => ⟨?_, ?_⟩) (fun q => by omega) e3⟩))
      · rw [Rsp.acc T (.inr (.inl c5')), P_span T hx, if_neg (fun q => ct q.1), if_pos ⟨cm, c5'⟩]; exact bdb rfl (by omega)
      · rw [G_span79 T' ⟨.inl rfl, m1⟩ hx, if_pos ⟨cm, rfl⟩]
      · rw [wu1 (by omega)]; exact (e1 (by omega)).1
      · rw [wu1 (by omega)]; exact (e1 (by omega)).2
    · have hA : F_Pg_accepts 23 (nI (pg k)) u = (F_Pg_readsSpan_98 23 (nI (pg k)) u).bind fun r => gd (r.1 == 0 || r.1 == 1) (some (r.1, r.2)) := by
        rw [Rsp.acc T (.inr (.inl c5')), P_span T hx, if_neg (fun q => ct q.1), if_neg (fun q => cm q.1)]
      have G := G_span79 T' ⟨.inl rfl, m1⟩ hx
      rw [if_neg (fun q => cm q.1), if_neg ct] at G
      have fb : FR XB v (upI (upI v 271 20 (nI (if pg k = 94 then 1 else 0))) 271 10 (nI 0)) := ((FR.refl XB v).s _ _ _ (.inl ⟨rfl, by omega⟩)).s _ _ _ (.inl ⟨rfl, by omega⟩)
      by_cases ed : 48 ≤ pg k ∧ pg k ≤ 57
      · have P := P_98b T hs c1 (by rw [c5']; exact nIne (by omega) (by omega) (by omega)) ed
        rw [if_neg (by rw [c5']; exact nIne (by omega) (by omega) (by omega))] at P
        exact OK1.no' (by rw [hA]; exact bdb P (by omega)) G (f3' _) fb
      · exact OK1.no' (by rw [hA]; exact bdb (P_98n hx ed) (by omega)) G (FR.refl _ _) fb
  · -- the last day
    have c5' : wi u 23 5 = nI 7 := c5
    have nA : ¬ (wi u 23 5 = nI 6 ∨ wi u 23 5 = nI 8) := by rw [c5', q_eq (by omega) (by omega), q_eq (by omega) (by omega)]; omega
    have nB : ¬ wi u 23 5 = nI 6 := fun q => nA (.inl q)
    have hA : F_Pg_accepts 23 (nI (pg k)) u = (F_Pg_readsSpan_98 23 (nI (pg k)) u).bind fun r => gd (r.1 == 0 || r.1 == 1) (some (r.1, r.2)) := by
      rw [Rsp.acc T (.inr (.inr (.inl c5'))), P_span T hx, if_neg (fun q => nA q.2), if_neg (fun q => nB q.2)]
    have G := G_span8 T' m1 hx
    have ea := e1 (by omega)
    by_cases ed : 48 ≤ pg k ∧ pg k ≤ 57
    · have P := P_98b T hs c1 (by rw [c5']; exact nIne (by omega) (by omega) (by omega)) ed
      rw [if_pos c5', ea.1] at P
      rw [ea.2, q_sub ed.1] at G
      have ql : (nI (pg k - 48) < nI a) = (pg k - 48 < a) := q_lt (by omega) (by omega)
      by_cases el : nI (pg k - 48) < nI a
      · rw [if_pos el] at P
        rw [if_neg (fun q => q.2.2 el)] at G
        exact OK1.no' (by rw [hA]; exact bdb P (by omega)) G (f3' _) ((hv _ _).mono XT_XB)
      · rw [if_neg el] at P
        rw [if_pos ⟨ed.1, ed.2, el⟩] at G
        rw [ql] at el
        have fa : FR (XS s) u (upI (upI u s 3 (nI (pg k - 48))) 23 5 (nI 8)) := ((FR.refl (XS s) u).s _ _ _ (.inr ⟨rfl, .inr rfl⟩)).s _ _ _ (.inl ⟨rfl, rfl⟩)
        refine OK1.yes' (by rw [hA]; exact bdb P (by omega)) G (fa.mono XS_XA).c ((hv _ _).mono XT_XB) (.inr (.inl ⟨9, B.next (a := a) (b := pg k - 48) hs fa (hv _ _) ⟨by omega, by omega⟩ (wu0 _ _ _ _) (wu0 _ _ _ _) (by omega) (fun _ => ⟨?_, ?_⟩) (fun _ => ⟨?_, ?_⟩) (by omega)⟩))
        · rw [wu1 (by omega), wu1 (by omega)]; exact ea.1
        · rw [wu1 (by omega), wu1 (by omega)]; exact ea.2
        · rw [wu1 (by omega), wu0]
        · rw [wu1 (by omega), wu0]
    · rw [if_neg (fun q => ed ⟨q.1, q.2.1⟩)] at G
      exact OK1.no' (by rw [hA]; exact bdb (P_98n hx ed) (by omega)) G (FR.refl _ _) ((hv _ _).mono XT_XB)
  · -- behind the last day
    have c5' : wi u 23 5 = nI 8 := c5
    by_cases ct : pg k = 126 ∨ pg k = 94
    · exact Rsp.tilde T T' hs hkn ct B (.inr c5') ⟨.inr rfl, m1⟩ (e1 (by omega)) (e2 (.inr rfl)) e3
    have nB : ¬ wi u 23 5 = nI 6 := by rw [c5']; exact nIne (by omega) (by omega) (by omega)
    have hA : F_Pg_accepts 23 (nI (pg k)) u = (F_Pg_readsSpan_98 23 (nI (pg k)) u).bind fun r => gd (r.1 == 0 || r.1 == 1) (some (r.1, r.2)) := by
      rw [Rsp.acc T (.inr (.inr (.inr c5'))), P_span T hx, if_neg (fun q => ct q.1), if_neg (fun q => nB q.2)]
    have G := G_span79 T' ⟨.inr rfl, m1⟩ hx
    rw [if_neg (by omega), if_neg ct] at G
    have fb : FR XB v (upI (upI v 271 20 (nI (if pg k = 94 then 1 else 0))) 271 10 (nI 0)) := ((FR.refl XB v).s _ _ _ (.inl ⟨rfl, by omega⟩)).s _ _ _ (.inl ⟨rfl, by omega⟩)
    by_cases ed : 48 ≤ pg k ∧ pg k ≤ 57
    · have P := P_98b T hs c1 (by rw [c5']; exact nIne (by omega) (by omega) (by omega)) ed
      rw [if_neg (by rw [c5']; exact nIne (by omega) (by omega) (by omega))] at P
      exact OK1.no' (by rw [hA]; exact bdb P (by omega)) G (f3' _) fb
    · exact OK1.no' (by rw [hA]; exact bdb (P_98n hx ed) (by omega)) G (FR.refl _ _) fb
end
