/-! PURE: behind a factor: a bracket closes, a condition ends -/
section
variable {L : Nat} {xs : Nat → Int32} {u v u1 v1 v2 u' v' : AW} {pg : Nat → Nat} {nP s k p g i0 m q q' g' x : Nat} {V V' : Nat → Nat → Int32} {W W' : List Nat}
theorem conn_close (T : Top L xs u) (T' : Top L xs v) (T1 : Top L xs v1) (hs : s ∈ STab) (hkn : k < nP) (hnP : nP ≤ 80) (hc : pg k = 41) (B : RB pg nP s q p (g + 1) i0 m k V W u v) (h1 : F_M_endNumber 271 v = some v1) (f1 : FR (XMk p) v v1) (D : D5 pg s p (g + 1) i0 m k V W u v1) (h5 : wi u 23 5 = nI 4) : ∃ u' v', F_Pg_goesOn 23 (nI (pg k)) u = some (nI 1, u') ∧ F_M_goOnBehind 271 (nI (pg k)) v = some (nI 1, v') ∧ FR (XAc s p) u u' ∧ FR (XBc p) v v' ∧ RR pg nP s (k + 1) u' v' := by
  obtain ⟨hp, hm, ⟨b1', b2, b3, b4, b5⟩, ⟨m1, m2, m3⟩, lc, vb, ds, rp, wt⟩ := id B
  obtain ⟨P, Q, c, f0, n0, d1, d2, d3, d4, d5, ⟨d6, d7, d8, d9⟩, d10, d11⟩ := D
  have hsr := STab_rng s hs
  have hcT := cT hs hp
  have hwb : (wb V (g + 1)).length = (wb V g).length + (b1 (nat (V 3 g)) + b1 (nat (V 1 g)) + nat (V 0 g)) + 1 := by
    show ((wb V g ++ wl (nat (V 3 g)) (nat (V 1 g)) (nat (V 0 g))) ++ [15]).length = _
    rw [List.length_append, List.length_append, wl_len]; rfl
  have hWl : W.length = (wb V (g + 1)).length + (b1 (nat (V 3 (g + 1))) + b1 f0 + n0) := by rw [d5, List.length_append, wl_len]
  have hg : g + 1 < 80 := by have := wb_len V (g + 1); omega
  have hd1 : (dpr pg i0 m).1 < 80 := by rw [d1]; exact hg
  have hPQ : P.length ≤ Q.length := d4.2.2.2.2.2.2
  have hlP := len_PQ (P := P) n0 f0
  have wt1 : WT v1 (wb V (g + 1) ++ wl (nat (V 3 (g + 1))) f0 n0) := by rw [← d5]; exact wt.fr f1 (by unfold XMk; omega) (fun i => by unfold XMk; omega)
  obtain ⟨v2, l1, l2, l3, l4⟩ := M_lay14 T1 (by omega) (wb_15 V (g + 1)) ((f1.i (by unfold XMk; omega)).trans m2) wt1 d3 (by omega)
  have T2 := T1.sh (l2.sh XY_16)
  have vt := vb (g + 1) (by omega) 3 (.inr (.inr rfl))
  have vf := vb g (by omega) 1 (.inr (.inl rfl))
  have vn := vb g (by omega) 0 (.inl rfl)
  have bt := b1_le (nat (V 3 (g + 1)))
  have bf := b1_le f0
  have g12 : ∀ i, (i = 11 ∨ i = 12) → wi v2 271 i = wi v 271 i := fun i hi => (l2.i (by unfold XY XMk; omega)).trans (f1.i (by unfold XMk; omega))
  have l3' : WT v2 ((wb V g ++ wl (nat (V 3 g)) (nat (V 1 g)) (nat (V 0 g))) ++ [15]) := l3
  have G := G_close T' T1 T2 m3 (by omega) h1 l1 l3' ((g12 12 (by omega)).trans m3)
  have f0a : FR (fun a i => a = 23 ∧ i = 9) u (upI u 23 9 (nI 3)) := (FR.refl (fun a i => a = 23 ∧ i = 9) u).s _ _ _ ⟨rfl, rfl⟩
  have Tu := T.up (a := 23) 9 (nI 3) (by omega)
  have co1 : CO (upI u 23 9 (nI 3)) (s + 1 + 3 * p) ((P ++ ntl n0) ++ adl f0) := d2.fr f0a (fun a i h1 h2 => by omega)
  obtain ⟨u1, a1, a2, a3, a4, a5⟩ := A_endLevel Tu (show g + 1 ≤ 80 by omega) ((f0a.i (by omega)).trans b5) (fun j i hj hi => (f0a.i (by omega)).trans (lc j i hj hi)) vt.1 (by omega) ((f0a.r 23 3).trans b2) hcT co1.1 (by omega)
  have Tu1 := Tu.sh (a2.sh (XE_16 hcT))
  have co2 := co1.steps hcT a2 a5 (cms_orl _ _)
  have f1b : FR (fun a i => a = 23 ∧ i = 11) u1 (upI u1 23 11 (nI g)) := (FR.refl (fun a i => a = 23 ∧ i = 11) u1).s _ _ _ ⟨rfl, rfl⟩
  have Tu2 := Tu1.up (a := 23) 11 (nI g) (by omega)
  have co3 : CO (upI u1 23 11 (nI g)) (s + 1 + 3 * p) (((P ++ ntl n0) ++ adl f0) ++ orl (nat (V 3 (g + 1)))) := co2.fr f1b (fun a i h1 h2 => by omega)
  have e1 : ∀ j, enT V (g + 1) j g = V j g := fun j => enT_ne (by omega) j
  obtain ⟨u2, c1, c2, c3, c4, c5⟩ := A_endFactor (f := nat (V 1 g)) (n := nat (V 0 g)) (V := enT V (g + 1)) Tu2 (show g ≤ 80 by omega) (wu0 _ _ _ _) (fun j i hj hi => by rw [wu1 (by omega)]; exact a4 j i hj (by omega)) (dpt (enT V (g + 1)) (g + 1)) ((e1 0).trans vn.1) ((e1 1).trans vf.1) (by omega) (by omega) ((f1b.r 23 3).trans ((a2.r 23 3).trans ((f0a.r 23 3).trans b2))) hcT co3.1 (by rw [List.length_append, orl_len]; omega)
  have co4 := co3.steps hcT c2 c5 (by rw [cms_adl, cms_ntl])
  rw [hc]
  have f12 := XM_c f1 l2
  have f3 : FR (fun a i => a = 271 ∧ (i = 28 ∨ i = 12 ∨ i = 10)) v2 (upI (upI (upI v2 271 28 (nI (wb V g ++ wl (nat (V 3 g)) (nat (V 1 g)) (nat (V 0 g))).length)) 271 12 (nI g)) 271 10 (nI 5)) := (((FR.refl (fun a i => a = 271 ∧ (i = 28 ∨ i = 12 ∨ i = 10)) v2).s _ _ _ ⟨rfl, .inl rfl⟩).s _ _ _ ⟨rfl, .inr (.inl rfl)⟩).s _ _ _ ⟨rfl, .inr (.inr rfl)⟩
  have h : FR (XBc p) v _ := f12.trans (f3.mono (fun a i h => by unfold XBc; omega))
  have xe : ∀ y a i, XE (s + 1 + 3 * p) y a i → XAc s p a i := fun y a i h => by unfold XE XF at h; unfold XAc; omega
  have f : FR (XAc s p) u u2 := (((f0a.mono (fun a i h => by unfold XAc; omega)).trans (a2.mono (xe _))).trans (f1b.mono (fun a i h => by unfold XAc; omega))).trans (c2.mono (xe _))
  have q0 : ∀ i, i ≠ 11 → i ≠ 9 → wi u2 23 i = wi u 23 i := fun i h h' => by rw [c2.i (by unfold XE XF; omega), wu1 (by omega), a2.i (by unfold XE XF; omega), wu1 (by omega)]
  have q9 : wi u2 23 9 = nI 3 := by rw [c2.i (by unfold XE XF; omega), wu1 (by omega), a2.i (by unfold XE XF; omega), wu0]
  have vb' : VB (enT V (g + 1)) g k := fun i hi j hj => by rw [enT_ne (by omega) j]; exact vb i (by omega) j hj
  have hr : RB pg nP s 5 p g i0 (m + 1) (k + 1) (adF (enT V (g + 1)) g (dpt (enT V (g + 1)) (g + 1))) (wb V g ++ wl (nat (V 3 g)) (nat (V 1 g)) (nat (V 0 g))) u2 _ := B.next hs f h ((q0 4 (by omega) (by omega)).trans b3) ((q0 5 (by omega) (by omega)).trans h5) c3
    ⟨wu0 _ _ _ _, ((f3.i (by omega)).trans (g12 11 (by omega))).trans m2, by rw [wu1 (by omega), wu0]⟩ c4 (vb'.ad (by omega))
    (l3'.pop.fr (((FR.refl (fun a i => a = 271 ∧ (i = 12 ∨ i = 10)) _).s 271 12 _ ⟨rfl, .inl rfl⟩).s 271 10 _ ⟨rfl, .inr rfl⟩) (by omega) (by omega)) (by omega) ⟨by omega, by omega, hd1, fun _ => by rw [d1]; exact Nat.succ_pos g⟩
  have hhd : ∀ d, hd (adF (enT V (g + 1)) g d) g = hd V g := fun d => hd_congr g (fun i j hi => by rw [adF_ne (by omega), enT_ne (by omega)])
  have hh1 : hd V (g + 1) = hd V g + b1 (nat (V 1 g)) + b1 (nat (V 3 g)) := rfl
  have hwb2 : ∀ d, wb (adF (enT V (g + 1)) g d) g = wb V g := fun d => wb_congr g (fun i j hi => by rw [adF_ne (by omega), enT_ne (by omega)])
  refine ⟨_, _, P_close T Tu1 b5 (by omega) a1 a3 c1, G, f, h, .inl ⟨p, g, i0, m + 1, _, _, .inr (.inr (.inr (.inr (.inr ⟨hr, q9, _, _, c, nat (V 1 g), nat (V 0 g), ?_, co4, l4.fr f3 (by omega) (fun i hi => ⟨by omega, by omega⟩), ?_, ?_, ⟨?_, adF_0, by omega, by omega⟩, by omega, ?_⟩))))⟩⟩
  · rw [dpr_s d1, hm, hc]; rfl
  · rw [hhd, adF_3 (by omega), e1 3]
    exact ((((d4.nots n0 (by omega) (by omega)).cast (show _ = (hd V (g + 1) + b1 (nat (V 3 (g + 1)))) + b1 f0 + 1 by omega)).ands (by omega)).ors (by omega)).cast (by omega)
  · rw [hwb2, adF_3 (by omega), e1 3]
  · rw [adF_1, e1 1, vf.1, nat_nI (by omega), nI_add]
  · rw [List.length_append, List.length_append, List.length_append, List.length_append, List.length_replicate, adl_len, orl_len, wl_len]
    omega
/-- a condition's end, on both sides -/
theorem conn_end {u0 : AW} (fu : FR (fun a i => a = 23 ∧ i = 9) u0 u) (T : Top L xs u) (T1 : Top L xs v1) (hs : s ∈ STab) (hk : k < 80 + p) (hnP : nP ≤ 80) (hkn : k ≤ nP) (hc : k = nP ∨ (k < nP ∧ (pg k = 58 ∨ pg k = 64))) (B : RB pg nP s q p 0 i0 m k V W u0 v) (f1 : FR (XMk p) v v1) (D : D5 pg s p 0 i0 m k V W u0 v1) : ∃ u1 v2 P Q c, F_Pg_endLevel 23 u = some (dpt (enT V 0) 0, u1) ∧ FR (XE (s + 1 + 3 * p) 0) u u1 ∧ F_M_layDown 271 (nI 14) v1 = some v2 ∧ FR (XBc p) v v2 ∧ (∀ i, 10 ≤ i → i ≤ 23 → wi v2 271 i = wi v 271 i) ∧ WT v2 [] ∧ CO u1 (s + 1 + 3 * p) P ∧ MK v2 p Q ∧ HE P Q c 1 ∧ dpr pg i0 m = (0, V) ∧ dsf pg i0 m ∧ (i0 + m = nP ∨ (i0 + m < nP ∧ (pg (i0 + m) = 58 ∨ pg (i0 + m) = 64))) ∧ ST1 pg nP p i0 := by
  obtain ⟨hp, hm, ⟨b1', b2, b3, b4, b5⟩, ⟨m1, m2, m3⟩, lc, vb, ds, rp, wt⟩ := id B
  obtain ⟨P, Q, c, f0, n0, d1, d2, d3, d4, d5, ⟨d6, d7, d8, d9⟩, d10, d11⟩ := D
  have hsr := STab_rng s hs
  have hcT := cT hs hp
  have hWl : W.length = (wb V 0).length + (b1 (nat (V 3 0)) + b1 f0 + n0) := by rw [d5, List.length_append, wl_len]
  have hPQ : P.length ≤ Q.length := d4.2.2.2.2.2.2
  have hlP := len_PQ (P := P) n0 f0
  have wt1 : WT v1 (wb V 0 ++ wl (nat (V 3 0)) f0 n0) := by rw [← d5]; exact wt.fr f1 (by unfold XMk; omega) (fun i => by unfold XMk; omega)
  obtain ⟨v2, l1, l2, l3, l4⟩ := M_lay14 T1 (by omega) (wb_15 V 0) ((f1.i (by unfold XMk; omega)).trans m2) wt1 d3 (by omega)
  have vt := vb 0 (by omega) 3 (.inr (.inr rfl))
  have bt := b1_le (nat (V 3 0))
  have bf := b1_le f0
  have d2' : CO u (s + 1 + 3 * p) ((P ++ ntl n0) ++ adl f0) := d2.fr fu (fun a i h1 h2 => by omega)
  obtain ⟨u1, a1, a2, a3, a4, a5⟩ := A_endLevel T (show 0 ≤ 80 by omega) ((fu.i (by omega)).trans b5) (fun j i hj hi => (fu.i (by omega)).trans (lc j i hj hi)) vt.1 (by omega) ((fu.r 23 3).trans b2) hcT d2'.1 (by omega)
  have h0 : hd V 0 = 0 := rfl
  refine ⟨u1, v2, _, _, c, a1, a2, l1, XM_c f1 l2, fun i h1 h2 => (l2.i (by unfold XY XMk; omega)).trans (f1.i (by unfold XMk; omega)), l3, d2'.steps hcT a2 a5 (cms_orl _ _), l4, ?_, d1, ds, by rw [hm]; exact hc, rp.2.1⟩
  exact ((((d4.nots n0 (by omega) (by omega)).cast (show _ = (0 + b1 (nat (V 3 0))) + b1 f0 + 1 by omega)).ands (by omega)).ors (by omega)).cast (by omega)
end
