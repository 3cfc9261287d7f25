/-! PURE: one letter more in a number -/
section
variable {L : Nat} {xs : Nat → Int32} {u v u' v' : AW} {pg : Nat → Nat} {nP s k p g i0 m q q' g' : Nat} {V V' : Nat → Nat → Int32} {W W' : List Nat}
/-- behind a number's first digit -/
theorem to4 (T : Top L xs u) (hs : s ∈ STab) (hkn : k < nP) (hnP : nP ≤ 80) (hq : q = 2 ∨ q = 3) (B : RB pg nP s q p g i0 m k V W u v) (D : D2 q pg s p g i0 m k V W u v) (hx : 48 ≤ pg k ∧ pg k ≤ 57) (f2 : FR (fun a i => a = 271 ∧ 10 ≤ i ∧ i ≤ 15) v v') (n10 : wi v' 271 10 = nI 4) (n11 : wi v' 271 11 = wi v 271 11) (n12 : wi v' 271 12 = wi v 271 12) (n13 : wi v' 271 13 = nI 1) (n14 : wi v' 271 14 = nI (pg k - 48)) (n15 : wi v' 271 15 = nI (q - 2)) : ∃ u', F_Pg_readsDigit 23 (nI (pg k)) u = some (nI 1, u') ∧ FR (XAc s p) u u' ∧ FR (XBc p) v v' ∧ RR pg nP s (k + 1) u' v' := by
  obtain ⟨hp, hm, ⟨b1', b2, b3, b4, b5⟩, ⟨m1, m2, m3⟩, lc, vb, ds, rp, wt⟩ := id B
  obtain ⟨P, Q, c, fd, sg, d1, d2, d3, d4, d5, d6, d7, d8, d9, d10, d11, d12, d13, d14, -⟩ := D
  have hWl : W.length = (wb V g).length + (wl (nat (V 3 g)) (nat (V 1 g)) (nat (V 0 g))).length := by rw [d5, List.length_append]
  have hg : g < 80 := by have := wb_len V g; omega
  have hd1 : (dpr pg i0 m).1 < 80 := by rw [d1]; exact hg
  have hl : P.length ≤ Q.length := d4.2.2.2.2.2.2
  have v1 := vb g (by omega) 1 (.inr (.inl rfl))
  have v0 := vb g (by omega) 0 (.inl rfl)
  have h5 : ¬ wi u 23 5 = nI 4 := by
    rw [b4]
    rcases hq with e | e <;> subst e <;> exact nIne (by omega) (by omega) (by decide)
  obtain ⟨u', p1, p2, p3, p4, p5, p6, p7, p8, p9, p10⟩ := P_dig1 T hs hp hx b2 b5 h5 (by omega) lc d2 (by omega) v1.1 (by omega) v0.1 (by omega) d10 d11 d12 (by omega)
  have h : FR (XBc p) v v' := f2.mono (fun a i h => by unfold XBc; omega)
  have hr : RB pg nP s 4 p g i0 (m + 1) (k + 1) (adF V g (nI 1)) W u' v' := B.next hs p2 h (p3.trans b3) p4 p5
    ⟨n10, n11.trans m2, n12.trans m3⟩ p6 (vb.ad (by omega)) (wt.fr f2 (by omega) (by omega)) (by omega) ⟨by omega, by omega, hd1, by omega⟩
  refine ⟨u', p1, p2, h, .inl ⟨p, g, i0, m + 1, _, _, .inr (.inr (.inr (.inr (.inl ⟨hr, P, Q, c, fd, sg, nat (V 1 g), nat (V 0 g), 1, pg k - 48, q - 2, ?_, p7, d3.fr f2 (by omega) (fun i hi => ⟨by omega, by omega⟩), ?_, ?_, ⟨?_, adF_0, by omega, by omega⟩, by omega, by omega, ⟨d8, d9, by omega, by omega, by omega, by omega⟩, p8, p9, p10, n13, n14, n15, (f2.i (by omega)).trans d13, (f2.i (by omega)).trans d14⟩))))⟩⟩
  · rw [dpr_s d1, hm]; exact dst_plain (by omega)
  · rw [hd_congr g (fun i j hi => adF_ne (by omega) j), adF_3 (by omega)]; exact d4
  · rw [wb_congr g (fun i j hi => adF_ne (by omega) j), adF_3 (by omega)]; exact d5
  · rw [adF_1, v1.1, nat_nI (by omega), nI_add]
theorem step2 (T : Top L xs u) (T' : Top L xs v) (hs : s ∈ STab) (hkn : k < nP) (hnP : nP ≤ 80) (hc : pg k ≤ 126) (B : RB pg nP s 2 p g i0 m k V W u v) (D : D2 2 pg s p g i0 m k V W u v) : OK1 (RR pg nP s (k + 1)) s (F_Pg_accepts 23 (nI (pg k))) (F_M_goOn 271 (nI (pg k))) u v := by
  obtain ⟨hp, hm, ⟨b1', b2, b3, b4, b5⟩, ⟨m1, m2, m3⟩, lc, vb, ds, rp, wt⟩ := id B
  have b4' : wi u 23 5 = nI 2 := b4
  obtain ⟨g1, g2, g3⟩ := G_num T' m1 hc
  have hf : ∀ x1 x2 x3 x4, FR (fun a i => a = 271 ∧ 10 ≤ i ∧ i ≤ 15) v (upI (upI (upI (upI v 271 15 x1) 271 13 x2) 271 14 x3) 271 10 x4) := fun x1 x2 x3 x4 => ((((FR.refl (fun a i => a = 271 ∧ 10 ≤ i ∧ i ≤ 15) v).s _ _ _ ⟨rfl, by omega, by omega⟩).s _ _ _ ⟨rfl, by omega, by omega⟩).s _ _ _ ⟨rfl, by omega, by omega⟩).s _ _ _ ⟨rfl, by omega, by omega⟩
  by_cases e : pg k = 45
  · obtain ⟨P, Q, c, fd, sg, d1, d2, d3, d4, d5, d6, d7, d8, d9, d10, d11, d12, d13, d14, -⟩ := D
    have hg : g < 80 := by
      have hWl : W.length = (wb V g).length + (wl (nat (V 3 g)) (nat (V 1 g)) (nat (V 0 g))).length := by rw [d5, List.length_append]
      have := wb_len V g; omega
    have hd1 : (dpr pg i0 m).1 < 80 := by rw [d1]; exact hg
    have f2 := hf (nI 1) (nI 0) (nI 0) (nI 3)
    have h : FR (XBc p) v _ := f2.mono (fun a i h => by unfold XBc; omega)
    have f3 : FR (fun a i => a = 23 ∧ (i = 10 ∨ i = 5)) u (upI (upI u 23 10 (nI 1)) 23 5 (nI 3)) := ((FR.refl (fun a i => a = 23 ∧ (i = 10 ∨ i = 5)) u).s _ _ _ ⟨rfl, .inl rfl⟩).s _ _ _ ⟨rfl, .inr rfl⟩
    have f : FR (XAc s p) u (upI (upI u 23 10 (nI 1)) 23 5 (nI 3)) := f3.mono (fun a i h => by unfold XAc; omega)
    have hsr := STab_rng s hs
    have hr : RB pg nP s 3 p g i0 (m + 1) (k + 1) V W _ _ := B.next hs f h ((f3.i (by omega)).trans b3) (wu0 _ _ _ _) ((f3.i (by omega)).trans b5)
      ⟨wu0 _ _ _ _, by simp (disch := omega) only [wu1]; exact m2, by simp (disch := omega) only [wu1]; exact m3⟩ (fun j i hj hi => (f3.i (by omega)).trans (lc j i hj hi)) (vb.mono (Nat.le_refl g) (Nat.le_succ k)) (wt.fr f2 (by omega) (by omega)) (by omega) ⟨by omega, by omega, hd1, by omega⟩
    refine OK1.yes hp ?_ (g1 e) f h (.inl ⟨p, g, i0, m + 1, _, _, .inr (.inr (.inr (.inl ⟨hr, P, Q, c, fd, sg, ?_, d2.fr f3 (fun a i h1 h2 => by omega), d3.fr f2 (by omega) (fun i hi => ⟨by omega, by omega⟩), d4, d5, by omega, by omega, d8, d9, (f3.i (by omega)).trans d10, (f3.i (by omega)).trans d11, ?_, (f2.i (by omega)).trans d13, (f2.i (by omega)).trans d14, fun _ => ?_⟩)))⟩)
    · rw [A_acc2 T b4', if_pos (show nI (pg k) = (45 : Int32) by rw [e]; rfl)]; exact bdb (P_minus T) (by omega)
    · rw [dpr_s d1, hm]; exact dst_plain (by omega)
    · rw [wu1 (by omega), wu0]
    · simp (disch := omega) only [wu0, wu1]
  · have hA : F_Pg_accepts 23 (nI (pg k)) u = ((F_Pg_readsDigit 23 (nI (pg k)) u).bind fun r => gd (r.1 == 0 || r.1 == 1) (some (r.1, r.2))) := by
      rw [A_acc2 T b4', if_neg (show ¬ nI (pg k) = (45 : Int32) from nIne (k := 45) hc (by omega) e)]
    by_cases ed : 48 ≤ pg k ∧ pg k ≤ 57
    · obtain ⟨u', p1, p2, p3, p4⟩ := to4 (v' := upI (upI (upI (upI v 271 15 (nI 0)) 271 13 (nI 1)) 271 14 (nI (pg k - 48))) 271 10 (nI 4)) T hs hkn hnP (.inl rfl) B D ed (hf _ _ _ _) (wu0 _ _ _ _) (by simp (disch := omega) only [wu1]) (by simp (disch := omega) only [wu1]) (by simp (disch := omega) only [wu0, wu1]) (by simp (disch := omega) only [wu0, wu1]) (by simp (disch := omega) only [wu0, wu1])
      exact OK1.yes hp (by rw [hA]; exact bdb p1 (by omega)) (g2 e ed) p2 p3 p4
    · obtain ⟨y, gy⟩ := g3 e ed
      exact OK1.no hp (by rw [hA]; exact bdb (P_digit0 hc ed) (by omega)) gy (FR.refl _ _) ((hf _ _ _ _).mono (fun a i h => by unfold XBc; omega))
theorem step3 (T : Top L xs u) (T' : Top L xs v) (hs : s ∈ STab) (hkn : k < nP) (hnP : nP ≤ 80) (hc : pg k ≤ 126) (B : RB pg nP s 3 p g i0 m k V W u v) (D : D2 3 pg s p g i0 m k V W u v) : OK1 (RR pg nP s (k + 1)) s (F_Pg_accepts 23 (nI (pg k))) (F_M_goOn 271 (nI (pg k))) u v := by
  obtain ⟨hp, hm, ⟨b1', b2, b3, b4, b5⟩, ⟨m1, m2, m3⟩, lc, vb, ds, rp, wt⟩ := id B
  have b4' : wi u 23 5 = nI 3 := b4
  obtain ⟨g1, g2⟩ := G_dig3 T' m1 hc
  have hf : ∀ x2 x3 x4, FR (fun a i => a = 271 ∧ 10 ≤ i ∧ i ≤ 15) v (upI (upI (upI v 271 13 x2) 271 14 x3) 271 10 x4) := fun x2 x3 x4 => (((FR.refl (fun a i => a = 271 ∧ 10 ≤ i ∧ i ≤ 15) v).s _ _ _ ⟨rfl, by omega, by omega⟩).s _ _ _ ⟨rfl, by omega, by omega⟩).s _ _ _ ⟨rfl, by omega, by omega⟩
  have d15 : wi v 271 15 = nI 1 := by
    obtain ⟨P, Q, c, fd, sg, d1, d2, d3, d4, d5, d6, d7, d8, d9, d10, d11, d12, d13, d14, d15⟩ := D
    exact d15 rfl
  by_cases ed : 48 ≤ pg k ∧ pg k ≤ 57
  · obtain ⟨u', p1, p2, p3, p4⟩ := to4 (v' := upI (upI (upI v 271 13 (nI 1)) 271 14 (nI (pg k - 48))) 271 10 (nI 4)) T hs hkn hnP (.inr rfl) B D ed (hf _ _ _) (wu0 _ _ _ _) (by simp (disch := omega) only [wu1]) (by simp (disch := omega) only [wu1]) (by simp (disch := omega) only [wu0, wu1]) (by simp (disch := omega) only [wu0, wu1]) (by simp (disch := omega) only [wu1]; exact d15)
    exact OK1.yes hp (by rw [A_acc3 T b4']; exact bdb p1 (by omega)) (g1 ed) p2 p3 p4
  · obtain ⟨y, gy⟩ := g2 ed
    exact OK1.no hp (by rw [A_acc3 T b4']; exact bdb (P_digit0 hc ed) (by omega)) gy (FR.refl _ _) ((hf _ _ _).mono (fun a i h => by unfold XBc; omega))
/-- a digit more -/
theorem step4d (T : Top L xs u) (T' : Top L xs v) (hs : s ∈ STab) (hkn : k < nP) (hnP : nP ≤ 80) (hc : pg k ≤ 126) (B : RB pg nP s 4 p g i0 m k V W u v) (D : D4 pg s p g i0 m k V W u v) (ed : 48 ≤ pg k ∧ pg k ≤ 57) (h3 : ¬ wi u 23 9 = nI 3) : OK1 (RR pg nP s (k + 1)) s (F_Pg_accepts 23 (nI (pg k))) (F_M_goOn 271 (nI (pg k))) u v := by
  obtain ⟨hp, hm, ⟨b1', b2, b3, b4, b5⟩, ⟨m1, m2, m3⟩, lc, vb, ds, rp, wt⟩ := id B
  obtain ⟨P, Q, c, fd, sg, f0, n0, dg, val, mi, d1, d2, d3, d4, d5, ⟨d6, d7, d8, d9⟩, d10, d11, ⟨e1, e2, e3, e4, e5, e6⟩, c7, c9, c10, r13, r14, r15, r16, r17⟩ := D
  have hdg : dg < 3 := by
    rcases Nat.lt_or_ge dg 3 with q | q
    · exact q
    · exfalso; apply h3; rw [c9, show dg = 3 by omega]
  have hsr := STab_rng s hs
  have hcT := cT hs hp
  have b4' : wi u 23 5 = nI 4 := b4
  have hg : g < 80 := by
    have hWl : W.length = (wb V g).length + (wl (nat (V 3 g)) f0 n0).length := by rw [d5, List.length_append]
    have := wb_len V g; omega
  have hd1 : (dpr pg i0 m).1 < 80 := by rw [d1]; exact hg
  have hval : val ≤ 99 := by
    have : dg = 1 ∨ dg = 2 := by omega
    rcases this with e | e <;> subst e <;> omega
  rw [List.append_assoc] at d2
  obtain ⟨u1, p1, p2, p3, p4⟩ := P_digit T b2 hcT d2 c7 c9 hdg c10 e3 hval ed
  have T1 := T.sh (p2.sh (fun a i h => by omega))
  have f3 : FR (fun a i => (a = 23 ∧ (i = 9 ∨ i = 5)) ∨ a = s + 1 + 3 * p + 2) u (upI u1 23 5 (nI 4)) := (p2.mono (fun a i h => by omega)).s _ _ _ (.inl ⟨rfl, .inr rfl⟩)
  have f : FR (XAc s p) u (upI u1 23 5 (nI 4)) := f3.mono (fun a i h => by unfold XAc; omega)
  have f2 : FR (fun a i => a = 271 ∧ 13 ≤ i ∧ i ≤ 14) v (upI (upI v 271 13 (nI (dg + 1))) 271 14 (nI (10 * val + (pg k - 48)))) := ((FR.refl (fun a i => a = 271 ∧ 13 ≤ i ∧ i ≤ 14) v).s _ _ _ ⟨rfl, by omega, by omega⟩).s _ _ _ ⟨rfl, by omega, by omega⟩
  have h : FR (XBc p) v _ := f2.mono (fun a i h => by unfold XBc; omega)
  have hr : RB pg nP s 4 p g i0 (m + 1) (k + 1) V W (upI u1 23 5 (nI 4)) _ := B.next hs f h ((f3.i (by omega)).trans b3) (wu0 _ _ _ _) ((f3.i (by omega)).trans b5)
    ⟨(f2.i (by omega)).trans m1, (f2.i (by omega)).trans m2, (f2.i (by omega)).trans m3⟩ (fun j i hj hi => (f3.i (by omega)).trans (lc j i hj hi)) (vb.mono (Nat.le_refl g) (Nat.le_succ k)) (wt.fr f2 (by omega) (by omega)) (by omega) ⟨by omega, by omega, hd1, by omega⟩
  refine OK1.yes hp ?_ (G_dig4 T' m1 ed r13 r14 hdg) f h (.inl ⟨p, g, i0, m + 1, _, _, .inr (.inr (.inr (.inr (.inl ⟨hr, P, Q, c, fd, sg, f0, n0, dg + 1, 10 * val + (pg k - 48), mi, ?_, ?_, d3.fr f2 (by omega) (fun i hi => ⟨by omega, by omega⟩), d4, d5, ⟨d6, d7, by omega, by omega⟩, by omega, by omega, ⟨e1, e2, e3, by omega, by omega, ?_⟩, (f3.i (by omega)).trans c7, ?_, (f3.i (by omega)).trans c10, ?_, ?_, (f2.i (by omega)).trans r15, (f2.i (by omega)).trans r16, (f2.i (by omega)).trans r17⟩))))⟩)
  · rw [A_acc4 T b4', A_isDig hc, if_pos ed, if_neg (show ¬ nI 1 = (0 : Int32) by decide +kernel)]
    refine bdb ?_ (by omega)
    rw [p1, if_pos b4']
    unfold F_Pg_readsDigit_84
    simp only [t23 T1, gd_true, beq_self_eq_true]
    exact bdb (A_goes T1 (nI 4)) (by omega)
  · rw [dpr_s d1, hm]; exact dst_plain (by omega)
  · rw [List.append_assoc]
    exact p3.fr ((FR.refl (fun a i => a = 23) _).s 23 5 (nI 4) rfl) (fun a i h1 h2 => by omega)
  · rw [Nat.pow_succ]; omega
  · rw [wu1 (by omega)]; exact p4
  · rw [wu1 (by omega), wu0]
  · rw [wu0]
end
