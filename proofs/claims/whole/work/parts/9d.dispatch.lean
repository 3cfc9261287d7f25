/-! PURE: one letter more behind a factor, all cases -/
section
variable {L : Nat} {xs : Nat → Int32} {u v u1 v1 v2 u' v' : AW} {pg : Nat → Nat} {nP s k p g i0 m q q' g' x : Nat} {V V' : Nat → Nat → Int32} {W W' : List Nat}
theorem CO.u5 {c : Nat} {P : List (Nat × Int)} (h : CO u c P) (d : Int32) : CO (upI u c 5 d) c P := by
  obtain ⟨⟨h1, h2, h3⟩, h4, h5⟩ := h
  refine ⟨⟨(wu1 (by omega)).trans h1, h2, fun i m z hi => ?_⟩, (wu1 (by omega)).trans h4, (wu1 (by omega)).trans h5⟩
  rw [wu1 (by omega), wu1 (by omega)]
  exact h3 i m z hi
theorem conn_colon (T : Top L xs u) (T' : Top L xs v) (T1 : Top L xs v1) (hs : s ∈ STab) (hkn : k < nP) (hnP : nP ≤ 80) (hc : pg k = 58) (hq : q ≤ 5) (B : RB pg nP s q 0 0 i0 m k V W u v) (h1 : F_M_endNumber 271 v = some v1) (f1 : FR (XMk 0) v v1) (D : D5 pg s 0 0 i0 m k V W u v1) : ∃ u' v', F_Pg_goesOn 23 (nI (pg k)) u = some (nI 1, u') ∧ F_M_goOnBehind 271 (nI (pg k)) v = some (nI 1, v') ∧ FR (XAc s 0) u u' ∧ FR (XBc 0) v v' ∧ RR pg nP s (k + 1) u' v' := by
  obtain ⟨hp, hm, ⟨b1', b2, b3, b4, b5⟩, ⟨m1, m2, m3⟩, lc, vb, ds, rp, wt⟩ := id B
  have hsr := STab_rng s hs
  have hcT := cT hs hp
  have fu : FR (fun a i => a = 23 ∧ i = 9) u (upI u 23 9 (nI 3)) := (FR.refl (fun a i => a = 23 ∧ i = 9) u).s _ _ _ ⟨rfl, rfl⟩
  have Tu := T.up (a := 23) 9 (nI 3) (by omega)
  obtain ⟨u1, v2, P, Q, c, a1, a2, l1, f12, l2, l3, e1, e2, e3, e4⟩ := conn_end fu Tu T1 hs (by omega) hnP (by omega) (.inr ⟨hkn, .inl hc⟩) B f1 D
  have Tu1 := Tu.sh (a2.sh (XE_16 hcT))
  have T2 := T'.sh (f12.sh (fun a i h => XB_16 a i (XBc_XB a i h)))
  have A := P_colon T Tu1 b5 b3 b2 (tC Tu1 hcT).1 (by omega) a1
  have G := G_colon T' T1 T2 m3 m2 h1 l1
  rw [hc]
  have fa : FR (fun a i => (a = s + 1 + 3 * 0 ∧ i = 5) ∨ (a = 23 ∧ i = 5)) u1 (upI (upI u1 (s + 1 + 3 * 0) 5 (dpt (enT V 0) 0)) 23 5 (nI 5)) := ((FR.refl (fun a i => (a = s + 1 + 3 * 0 ∧ i = 5) ∨ (a = 23 ∧ i = 5)) u1).s _ _ _ (.inl ⟨rfl, rfl⟩)).s _ _ _ (.inr ⟨rfl, rfl⟩)
  have fb : FR (fun a i => a = 271 ∧ (i = 11 ∨ i = 10)) v2 (upI (upI v2 271 11 (nI 1)) 271 10 (nI 6)) := ((FR.refl (fun a i => a = 271 ∧ (i = 11 ∨ i = 10)) v2).s _ _ _ ⟨rfl, .inl rfl⟩).s _ _ _ ⟨rfl, .inr rfl⟩
  have f : FR (XAc s 0) u _ := ((fu.mono (fun a i h => by unfold XAc; omega)).trans (a2.mono (fun a i h => by unfold XE XF at h; unfold XAc; omega))).trans (fa.mono (fun a i h => by unfold XAc; omega))
  have h : FR (XBc 0) v _ := f12.trans (fb.mono (fun a i h => by unfold XBc; omega))
  obtain ⟨r1, r2, r3⟩ := rp
  have r4 : NTl pg k ∧ CO u (s + 4) [] ∧ MK v 1 [] := by
    rcases r3 with q | q
    · exact q.2
    · exact absurd q.1 (by omega)
  refine ⟨_, _, A, G, f, h, .inr (.inl ⟨6, by omega, by omega, ⟨?_, ?_, wu0 _ _ _ _⟩, ⟨wu0 _ _ _ _, ?_, ?_⟩, l3.fr fb (by omega) (by omega), r1.fr f h (fun i hi => by unfold XAc; omega) (fun i h1 h2 => by unfold XBc XMk; omega), r4.1.s (by omega) (by omega), ⟨P, Q, c, i0, m, V, ?_, ?_, e2.fr fb (by omega) (fun i hi => ⟨by omega, by omega⟩), e3, e4⟩, r4.2.1.fr f (fun a i h1 h2 => by unfold XAc; omega), r4.2.2.fr h (by unfold XBc XMk; omega) (fun i hi => ⟨by unfold XBc XMk; omega, by unfold XBc XMk; omega⟩), 0, 0, by omega, by omega, by omega, by omega, by omega⟩)⟩
  · exact (f.r 23 2).trans b1'
  · rw [wu1 (by omega), wu1 (by omega), a2.i (by unfold XE XF; omega), wu1 (by omega)]; exact b3
  · rw [wu1 (by omega), wu0]
  · rw [wu1 (by omega), wu1 (by omega), l2 12 (by omega) (by omega)]; exact m3
  · exact (e1.u5 _).fr ((FR.refl (fun a i => a = 23) _).s 23 5 (nI 5) rfl) (fun a i h1 h2 => by omega)
  · rw [wu1 (by omega), wu0]
theorem conn_at (T : Top L xs u) (T' : Top L xs v) (T1 : Top L xs v1) (hs : s ∈ STab) (hkn : k < nP) (hnP : nP ≤ 80) (hc : pg k = 64) (hq : q ≤ 5) (B : RB pg nP s q 1 0 i0 m k V W u v) (h1 : F_M_endNumber 271 v = some v1) (f1 : FR (XMk 1) v v1) (D : D5 pg s 1 0 i0 m k V W u v1) : ∃ u' v', F_Pg_goesOn 23 (nI (pg k)) u = some (nI 1, u') ∧ F_M_goOnBehind 271 (nI (pg k)) v = some (nI 1, v') ∧ FR (XAc s 1) u u' ∧ FR (XBc 1) v v' ∧ RR pg nP s (k + 1) u' v' := by
  obtain ⟨hp, hm, ⟨b1', b2, b3, b4, b5⟩, ⟨m1, m2, m3⟩, lc, vb, ds, rp, wt⟩ := id B
  have hsr := STab_rng s hs
  have hcT := cT hs hp
  have fu : FR (fun a i => a = 23 ∧ i = 9) u (upI u 23 9 (nI 3)) := (FR.refl (fun a i => a = 23 ∧ i = 9) u).s _ _ _ ⟨rfl, rfl⟩
  have Tu := T.up (a := 23) 9 (nI 3) (by omega)
  obtain ⟨u1, v2, P, Q, c, a1, a2, l1, f12, l2, l3, e1, e2, e3, e4⟩ := conn_end fu Tu T1 hs (by omega) hnP (by omega) (.inr ⟨hkn, .inr hc⟩) B f1 D
  have Tu1 := Tu.sh (a2.sh (XE_16 hcT))
  have T2 := T'.sh (f12.sh (fun a i h => XB_16 a i (XBc_XB a i h)))
  have A := P_at T Tu1 b5 b3 b2 (tC Tu1 hcT).1 (by omega) a1
  have G := G_at T' T1 T2 m3 m2 h1 l1
  rw [hc]
  have fa : FR (fun a i => (a = s + 1 + 3 * 1 ∧ i = 5) ∨ (a = 23 ∧ (i = 5 ∨ i = 8 ∨ i = 9))) u1 (upI (upI (upI (upI u1 (s + 1 + 3 * 1) 5 (dpt (enT V 0) 0)) 23 8 (nI 0)) 23 9 (nI 0)) 23 5 (nI 9)) := ((((FR.refl (fun a i => (a = s + 1 + 3 * 1 ∧ i = 5) ∨ (a = 23 ∧ (i = 5 ∨ i = 8 ∨ i = 9))) u1).s _ _ _ (.inl ⟨rfl, rfl⟩)).s _ _ _ (.inr ⟨rfl, .inr (.inl rfl)⟩)).s _ _ _ (.inr ⟨rfl, .inr (.inr rfl)⟩)).s _ _ _ (.inr ⟨rfl, .inl rfl⟩)
  have fb : FR (fun a i => a = 271 ∧ i = 10) v2 (upI v2 271 10 (nI 10)) := (FR.refl (fun a i => a = 271 ∧ i = 10) v2).s _ _ _ ⟨rfl, rfl⟩
  have f : FR (XAc s 1) u _ := ((fu.mono (fun a i h => by unfold XAc; omega)).trans (a2.mono (fun a i h => by unfold XE XF at h; unfold XAc; omega))).trans (fa.mono (fun a i h => by unfold XAc; omega))
  have h : FR (XBc 1) v _ := f12.trans (fb.mono (fun a i h => by unfold XBc; omega))
  obtain ⟨r1, r2, r3⟩ := rp
  have r4 : FNd pg nP s 0 u v ∧ SP s u v := by
    rcases r3 with q | q
    · exact absurd q.1 (by omega)
    · exact q.2
  refine ⟨_, _, A, G, f, h, .inr (.inr ⟨10, ⟨(f.r 23 2).trans b1', ?_⟩, ⟨wu0 _ _ _ _, ?_, ?_⟩, r4.1.fr f h (fun a i h1 h2 => by unfold XAc; omega) (fun a i h1 => by unfold XBc XMk; omega), ⟨P, Q, c, i0, m, V, ?_, ?_, e2.fr fb (by omega) (fun i hi => ⟨by omega, by omega⟩), e3, e4⟩, r4.2.fr f h (fun i h1 h2 => by unfold XAc; omega) (fun i h1 h2 => by unfold XBc XMk; omega), .inl ⟨rfl, wu0 _ _ _ _, ?_, ?_, r1.fr f h (fun i hi => by unfold XAc; omega) (fun i h1 h2 => by unfold XBc XMk; omega)⟩⟩)⟩
  · rw [wu1 (by omega), wu1 (by omega), wu1 (by omega), wu1 (by omega), a2.i (by unfold XE XF; omega), wu1 (by omega)]; exact b3
  · rw [wu1 (by omega), l2 11 (by omega) (by omega)]; exact m2
  · rw [wu1 (by omega), l2 12 (by omega) (by omega)]; exact m3
  · exact (e1.u5 _).fr ((((FR.refl (fun a i => a = 23) _).s 23 8 (nI 0) rfl).s 23 9 (nI 0) rfl).s 23 5 (nI 9) rfl) (fun a i h1 h2 => by omega)
  · rw [wu1 (by omega), wu1 (by omega), wu1 (by omega), wu0]
  · rw [wu1 (by omega), wu1 (by omega), wu0]
  · rw [wu1 (by omega), wu0]
/-- behind a factor: all letters -/
theorem step45 (T : Top L xs u) (T' : Top L xs v) (hs : s ∈ STab) (hkn : k < nP) (hnP : nP ≤ 80) (hc : pg k ≤ 126) (hq : q = 4 ∨ q = 5) (B : RB pg nP s q p g i0 m k V W u v) (D : (q = 4 ∧ D4 pg s p g i0 m k V W u v) ∨ (q = 5 ∧ D5 pg s p g i0 m k V W u v)) (hno : ¬ (48 ≤ pg k ∧ pg k ≤ 57) ∨ wi u 23 9 = nI 3) : OK1 (RR pg nP s (k + 1)) s (F_Pg_accepts 23 (nI (pg k))) (F_M_goOn 271 (nI (pg k))) u v := by
  obtain ⟨hp, hm, ⟨b1', b2, b3, b4, b5⟩, ⟨m1, m2, m3⟩, lc, vb, ds, rp, wt⟩ := id B
  have b4' : wi u 23 5 = nI 4 := by rw [b4]; rcases hq with e | e <;> subst e <;> rfl
  have hM : F_M_goOn 271 (nI (pg k)) v = ((F_M_goOnBehind 271 (nI (pg k)) v).bind fun r => gd (r.1 == 0 || r.1 == 1) (some (r.1, r.2))) ∨ F_M_goOn 271 (nI (pg k)) v = (((F_M_goOnBehind 271 (nI (pg k)) v).bind fun r => gd (r.1 == 0 || r.1 == 1) (some (r.1, r.2)))) := by
    left
    rcases D with ⟨e, D⟩ | ⟨e, D⟩
    · subst e
      obtain ⟨P, Q, c, fd, sg, f0, n0, dg, val, mi, d1, d2, d3, d4, d5, d6, d10, d11, ⟨e1, e2, e3, e4, e5, e6⟩, c7, c9, c10, r13, r14⟩ := D
      rw [G_beh4 T' m1 hc r13 (hno.elim .inl (fun q => .inr (by rw [c9, q_eq (by omega) (by omega)] at q; exact q)))]
      unfold F_M_goOn_288
      simp only [mK T', gd_true, beq_self_eq_true]
    · subst e
      rw [M_go5 T' m1]
  have hM' : F_M_goOn 271 (nI (pg k)) v = ((F_M_goOnBehind 271 (nI (pg k)) v).bind fun r => gd (r.1 == 0 || r.1 == 1) (some (r.1, r.2))) := hM.elim id id
  by_cases ed : 48 ≤ pg k ∧ pg k ≤ 57
  · have h9 : wi u 23 9 = nI 3 := hno.elim (fun q => absurd ed q) id
    refine OK1.no hp ?_ (by rw [hM']; exact bdb (G_no T' hc (by omega) (.inl (by omega)) (.inl (by omega)) (.inl (by omega)) (by omega)) (by omega)) (FR.refl _ _) (FR.refl _ _)
    rw [A_acc4 T b4', A_isDig hc, if_pos ed, if_neg (show ¬ nI 1 = (0 : Int32) by decide +kernel)]
    exact bdb (P_digit3 T hc h9) (by omega)
  have hA : F_Pg_accepts 23 (nI (pg k)) u = ((F_Pg_goesOn 23 (nI (pg k)) u).bind fun r => gd (r.1 == 0 || r.1 == 1) (some (r.1, r.2))) := by
    rw [A_acc4 T b4', A_isDig hc, if_neg ed, if_pos (show nI 0 = (0 : Int32) from rfl)]
  have fu : FR (XAc s p) u (upI u 23 9 (nI 3)) := (FR.refl _ u).s _ _ _ (.inl ⟨rfl, by omega, by omega⟩)
  have hlt : k ≤ 80 := by omega
  obtain ⟨v1, n1, n2, n3⟩ := D45 T' hs hlt hp ⟨m1, m2, m3⟩ D
  have T1 := T'.sh (n2.sh (fun a i h => XY_16 a i (.inl h)))
  have yes : (∃ u' v', F_Pg_goesOn 23 (nI (pg k)) u = some (nI 1, u') ∧ F_M_goOnBehind 271 (nI (pg k)) v = some (nI 1, v') ∧ FR (XAc s p) u u' ∧ FR (XBc p) v v' ∧ RR pg nP s (k + 1) u' v') → OK1 (RR pg nP s (k + 1)) s (F_Pg_accepts 23 (nI (pg k))) (F_M_goOn 271 (nI (pg k))) u v := by
    rintro ⟨u', v', h1, h2, h3, h4, h5⟩
    exact OK1.yes hp (by rw [hA]; exact bdb h1 (by omega)) (by rw [hM']; exact bdb h2 (by omega)) h3 h4 h5
  have no : pg k ≠ 38 → (pg k ≠ 41 ∨ g = 0) → (pg k ≠ 58 ∨ g ≠ 0 ∨ p ≠ 0) → (pg k ≠ 64 ∨ g ≠ 0 ∨ p ≠ 1) → pg k ≠ 124 → OK1 (RR pg nP s (k + 1)) s (F_Pg_accepts 23 (nI (pg k))) (F_M_goOn 271 (nI (pg k))) u v := by
    intro h1 h2 h3 h4 h5
    have hg : g < 2147483648 := by
      obtain ⟨P, Q, c, f0, n0, d1, d2, d3, d4, d5, d6, d10, d11⟩ := n3
      have hWl : W.length = (wb V g).length + (wl (nat (V 3 g)) f0 n0).length := by rw [d5, List.length_append]
      have := wb_len V g
      omega
    have pn := P_no T hc h1 (h2.elim .inl (fun e => .inr (by rw [b5, e]))) (h3.elim .inl (fun e => e.elim (fun e => .inr (.inl (by rw [b5, q_eq hg (by omega)]; exact e))) (fun e => .inr (.inr (by rw [b3, q_eq (by omega) (by omega)]; exact e))))) (h4.elim .inl (fun e => e.elim (fun e => .inr (.inl (by rw [b5, q_eq hg (by omega)]; exact e))) (fun e => .inr (.inr (by rw [b3, q_eq (by omega) (by omega)]; omega))))) h5
    have gn := G_no T' hc h1 (h2.elim .inl (fun e => .inr (by rw [m3, e]))) (h3.elim .inl (fun e => e.elim (fun e => .inr (.inl (by rw [m3, q_eq hg (by omega)]; exact e))) (fun e => .inr (.inr (by rw [m2, q_eq (by omega) (by omega)]; exact e))))) (h4.elim .inl (fun e => e.elim (fun e => .inr (.inl (by rw [m3, q_eq hg (by omega)]; exact e))) (fun e => .inr (.inr (by rw [m2, q_eq (by omega) (by omega)]; exact e))))) h5
    exact OK1.no hp (by rw [hA]; exact bdb pn (by omega)) (by rw [hM']; exact bdb gn (by omega)) fu (FR.refl _ _)
  by_cases c38 : pg k = 38
  · exact yes (conn_and T T' T1 hs hkn hnP c38 B n1 n2 n3)
  by_cases c124 : pg k = 124
  · exact yes (conn_or T T' T1 hs hkn hnP c124 B n1 n2 n3)
  by_cases c41 : pg k = 41
  · cases g with
    | zero => exact no c38 (.inr rfl) (.inl (by omega)) (.inl (by omega)) c124
    | succ g => exact yes (conn_close T T' T1 hs hkn hnP c41 B n1 n2 n3 b4')
  by_cases c58 : pg k = 58
  · by_cases e : g = 0 ∧ p = 0
    · obtain ⟨e1, e2⟩ := e
      subst e1 e2
      exact yes (conn_colon T T' T1 hs hkn hnP c58 (by omega) B n1 n2 n3)
    · exact no c38 (.inl c41) (.inr (by omega)) (.inl (by omega)) c124
  by_cases c64 : pg k = 64
  · by_cases e : g = 0 ∧ p = 1
    · obtain ⟨e1, e2⟩ := e
      subst e1 e2
      exact yes (conn_at T T' T1 hs hkn hnP c64 (by omega) B n1 n2 n3)
    · exact no c38 (.inl c41) (.inl c58) (.inr (by omega)) c124
  exact no c38 (.inl c41) (.inl c58) (.inl c64) c124
end
