/-! PURE: behind a factor: and, or, brackets, ends -/
section
variable {L : Nat} {xs : Nat → Int32} {u v u1 v1 v2 u' v' : AW} {pg : Nat → Nat} {nP s k p g i0 m q q' g' x : Nat} {V V' : Nat → Nat → Int32} {W W' : List Nat}
theorem wb_15 (V : Nat → Nat → Int32) (g : Nat) : wb V g = [] ∨ ∃ U, wb V g = U ++ [15] := wb_last V g
theorem conn_and (T : Top L xs u) (T' : Top L xs v) (T1 : Top L xs v1) (hs : s ∈ STab) (hkn : k < nP) (hnP : nP ≤ 80) (hc : pg k = 38) (B : RB pg nP s q p g i0 m k V W u v) (h1 : F_M_endNumber 271 v = some v1) (f1 : FR (XMk p) v v1) (D : D5 pg s p g i0 m k V W u v1) : ∃ u' v', F_Pg_goesOn 23 (nI (pg k)) u = some (nI 1, u') ∧ F_M_goOnBehind 271 (nI (pg k)) v = some (nI 1, v') ∧ FR (XAc s p) u u' ∧ FR (XBc p) v v' ∧ RR pg nP s (k + 1) u' v' := by
  obtain ⟨hp, hm, ⟨b1', b2, b3, b4, b5⟩, ⟨m1, m2, m3⟩, lc, vb, ds, rp, wt⟩ := id B
  obtain ⟨P, Q, c, f0, n0, d1, d2, d3, d4, d5, ⟨d6, d7, d8, d9⟩, d10, d11⟩ := D
  have hsr := STab_rng s hs
  have hWl : W.length = (wb V g).length + (b1 (nat (V 3 g)) + b1 f0 + n0) := by rw [d5, List.length_append, wl_len]
  have hg : g < 80 := by have := wb_len V g; omega
  have hd1 : (dpr pg i0 m).1 < 80 := by rw [d1]; exact hg
  have wt1 : WT v1 (wb V g ++ wl (nat (V 3 g)) f0 n0) := by rw [← d5]; exact wt.fr f1 (by unfold XMk; omega) (fun i => by unfold XMk; omega)
  obtain ⟨v2, l1, l2, l3, l4⟩ := M_lay13 T1 (by omega) (wb_15 V g) ((f1.i (by unfold XMk; omega)).trans m2) wt1 d3 (by omega)
  have T2 := T1.sh (l2.sh XY_16)
  have b01 : ∀ y, b1 y ≤ 1 := fun y => by unfold b1; split <;> omega
  have hlen : (wb V g ++ (if nat (V 3 g) = 0 then [] else [14])).length = (wb V g).length + b1 (nat (V 3 g)) := by
    rw [List.length_append]; unfold b1; split <;> rfl
  have G := G_andor T' T1 T2 (.inl ⟨rfl, rfl⟩) h1 l1 l3 (by rw [hlen]; have := b01 (nat (V 3 g)); have := b01 f0; omega)
  rw [hc]
  have f12 := XM_c f1 l2
  have f3 : FR (fun a i => a = 283 ∨ (a = 271 ∧ (i = 28 ∨ i = 10))) v2 (upI (upI (upI v2 283 (wb V g ++ (if nat (V 3 g) = 0 then [] else [14])).length (nI 13)) 271 28 (nI ((wb V g ++ (if nat (V 3 g) = 0 then [] else [14])).length + 1))) 271 10 (nI 0)) := (((FR.refl (fun a i => a = 283 ∨ (a = 271 ∧ (i = 28 ∨ i = 10))) v2).s _ _ _ (.inl rfl)).s _ _ _ (.inr ⟨rfl, .inl rfl⟩)).s _ _ _ (.inr ⟨rfl, .inr rfl⟩)
  have h : FR (XBc p) v _ := f12.trans (f3.mono (fun a i h => by unfold XBc; omega))
  have f4 : FR (fun a i => a = 23 ∧ (i = 9 ∨ i = 5)) u (upI (upI u 23 9 (nI 3)) 23 5 (nI 0)) := ((FR.refl (fun a i => a = 23 ∧ (i = 9 ∨ i = 5)) u).s _ _ _ ⟨rfl, .inl rfl⟩).s _ _ _ ⟨rfl, .inr rfl⟩
  have f : FR (XAc s p) u _ := f4.mono (fun a i h => by unfold XAc; omega)
  have g12 : ∀ i, (i = 11 ∨ i = 12) → wi v2 271 i = wi v 271 i := fun i hi => (l2.i (by unfold XY XMk; omega)).trans (f1.i (by unfold XMk; omega))
  have hr : RB pg nP s 0 p g i0 (m + 1) (k + 1) V ((wb V g ++ (if nat (V 3 g) = 0 then [] else [14])) ++ [13]) _ _ := B.next hs f h ((f4.i (by omega)).trans b3) (wu0 _ _ _ _) ((f4.i (by omega)).trans b5)
    ⟨wu0 _ _ _ _, ((f3.i (by omega)).trans (g12 11 (by omega))).trans m2, ((f3.i (by omega)).trans (g12 12 (by omega))).trans m3⟩ (fun j i hj hi => (f4.i (by omega)).trans (lc j i hj hi)) (vb.mono (Nat.le_refl g) (Nat.le_succ k))
    ((l3.push (by rw [hlen]; have := b01 (nat (V 3 g)); have := b01 f0; omega) (by omega)).fr ((FR.refl (fun a i => a = 271 ∧ i = 10) _).s 271 10 _ ⟨rfl, rfl⟩) (by omega) (by omega)) (by omega) ⟨by omega, by omega, hd1, by omega⟩
  have hb : b1 (nat (V 1 g)) = 1 := by rw [d6, nat_nI (by omega)]; unfold b1; rw [if_neg (by omega)]
  refine ⟨_, _, P_amp T, G, f, h, .inl ⟨p, g, i0, m + 1, _, _, .inl ⟨hr, _, _, c, ?_, d2.fr f4 (fun a i h1 h2 => by omega), l4.fr f3 (by omega) (fun i hi => ⟨by omega, by omega⟩), ?_, ?_, by omega, ?_⟩⟩⟩
  · rw [dpr_s d1, hm, hc]; rfl
  · exact ((((d4.nots n0 (by omega) (by omega)).cast (show _ = (hd V g + b1 (nat (V 3 g))) + b1 f0 + 1 by omega)).ands (by omega)).cast (by omega))
  · rw [d6, d7, nat_nI (by omega), nat0, List.append_assoc]
    unfold wl
    rw [if_neg (show ¬ f0 + 1 = 0 by omega)]
    rfl
  · have : adl f0 = [] ∧ b1 f0 = 0 ∨ (adl f0).length = 1 ∧ b1 f0 = 1 := by
      unfold adl b1
      by_cases e : f0 = 0
      · rw [if_pos e, if_pos e]; exact .inl ⟨rfl, rfl⟩
      · rw [if_neg e, if_neg e]; exact .inr ⟨rfl, rfl⟩
    have e3 : (adl f0).length = b1 f0 := by
      rcases this with ⟨e, e2⟩ | ⟨e, e2⟩
      · rw [e, e2]; rfl
      · rw [e, e2]
    rw [List.length_append, List.length_append, List.length_append, List.length_replicate, hlen, e3]
    show _ + (_ + 1) + _ ≤ _
    omega
theorem adl_len (f : Nat) : (adl f).length = b1 f := by
  unfold adl b1; split <;> rfl
theorem orl_len (f : Nat) : (orl f).length = b1 f := by
  unfold orl b1; split <;> rfl
theorem b1_le (y : Nat) : b1 y ≤ 1 := by unfold b1; split <;> omega
theorem len_PQ {P : List (Nat × Int)} (n f : Nat) : ((P ++ ntl n) ++ adl f).length ≤ P.length + n + b1 f := by
  rw [List.length_append, List.length_append, adl_len]
  have := ntl_len n
  omega
theorem conn_or (T : Top L xs u) (T' : Top L xs v) (T1 : Top L xs v1) (hs : s ∈ STab) (hkn : k < nP) (hnP : nP ≤ 80) (hc : pg k = 124) (B : RB pg nP s q p g i0 m k V W u v) (h1 : F_M_endNumber 271 v = some v1) (f1 : FR (XMk p) v v1) (D : D5 pg s p g i0 m k V W u v1) : ∃ u' v', F_Pg_goesOn 23 (nI (pg k)) u = some (nI 1, u') ∧ F_M_goOnBehind 271 (nI (pg k)) v = some (nI 1, v') ∧ FR (XAc s p) u u' ∧ FR (XBc p) v v' ∧ RR pg nP s (k + 1) u' v' := by
  obtain ⟨hp, hm, ⟨b1', b2, b3, b4, b5⟩, ⟨m1, m2, m3⟩, lc, vb, ds, rp, wt⟩ := id B
  obtain ⟨P, Q, c, f0, n0, d1, d2, d3, d4, d5, ⟨d6, d7, d8, d9⟩, d10, d11⟩ := D
  have hsr := STab_rng s hs
  have hcT := cT hs hp
  have hWl : W.length = (wb V g).length + (b1 (nat (V 3 g)) + b1 f0 + n0) := by rw [d5, List.length_append, wl_len]
  have hg : g < 80 := by have := wb_len V g; omega
  have hd1 : (dpr pg i0 m).1 < 80 := by rw [d1]; exact hg
  have hPQ : P.length ≤ Q.length := d4.2.2.2.2.2.2
  have hlP := len_PQ (P := P) n0 f0
  have wt1 : WT v1 (wb V g ++ wl (nat (V 3 g)) f0 n0) := by rw [← d5]; exact wt.fr f1 (by unfold XMk; omega) (fun i => by unfold XMk; omega)
  obtain ⟨v2, l1, l2, l3, l4⟩ := M_lay14 T1 (by omega) (wb_15 V g) ((f1.i (by unfold XMk; omega)).trans m2) wt1 d3 (by omega)
  have T2 := T1.sh (l2.sh XY_16)
  have v3 := vb g (by omega) 3 (.inr (.inr rfl))
  have bt := b1_le (nat (V 3 g))
  have bf := b1_le f0
  have hbl : (wb V g).length < 80 := by omega
  have G := G_andor T' T1 T2 (.inr ⟨rfl, rfl⟩) h1 l1 l3 hbl
  have f0a : FR (fun a i => a = 23 ∧ i = 9) u (upI u 23 9 (nI 3)) := (FR.refl (fun a i => a = 23 ∧ i = 9) u).s _ _ _ ⟨rfl, rfl⟩
  have Tu := T.up (a := 23) 9 (nI 3) (by omega)
  have co1 : CO (upI u 23 9 (nI 3)) (s + 1 + 3 * p) ((P ++ ntl n0) ++ adl f0) := d2.fr f0a (fun a i h1 h2 => by omega)
  obtain ⟨u1, a1, a2, a3, a4, a5⟩ := A_endTerm Tu (show g ≤ 80 by omega) ((f0a.i (by omega)).trans b5) (fun j i hj hi => (f0a.i (by omega)).trans (lc j i hj hi)) v3.1 (by omega) ((f0a.r 23 3).trans b2) hcT co1.1 (by omega)
  have Tu1 := Tu.sh (a2.sh (XE_16 hcT))
  have co2 := co1.steps hcT a2 a5 (cms_orl _ _)
  rw [hc]
  have f12 := XM_c f1 l2
  have f3 : FR (fun a i => a = 283 ∨ (a = 271 ∧ (i = 28 ∨ i = 10))) v2 (upI (upI (upI v2 283 (wb V g).length (nI 14)) 271 28 (nI ((wb V g).length + 1))) 271 10 (nI 0)) := (((FR.refl (fun a i => a = 283 ∨ (a = 271 ∧ (i = 28 ∨ i = 10))) v2).s _ _ _ (.inl rfl)).s _ _ _ (.inr ⟨rfl, .inl rfl⟩)).s _ _ _ (.inr ⟨rfl, .inr rfl⟩)
  have h : FR (XBc p) v _ := f12.trans (f3.mono (fun a i h => by unfold XBc; omega))
  have f : FR (XAc s p) u (upI u1 23 5 (nI 0)) := ((f0a.mono (fun a i h => by unfold XAc; omega)).trans (a2.mono (fun a i h => by unfold XE XF at h; unfold XAc; omega))).s _ _ _ (.inl ⟨rfl, by omega, by omega⟩)
  have g12 : ∀ i, (i = 11 ∨ i = 12) → wi v2 271 i = wi v 271 i := fun i hi => (l2.i (by unfold XY XMk; omega)).trans (f1.i (by unfold XMk; omega))
  have hr : RB pg nP s 0 p g i0 (m + 1) (k + 1) (enT V g) (wb V g ++ [14]) _ _ := B.next hs f h (by rw [wu1 (by omega), a2.i (by unfold XE XF; omega), wu1 (by omega)]; exact b3) (wu0 _ _ _ _) (by rw [wu1 (by omega)]; exact a3)
    ⟨wu0 _ _ _ _, ((f3.i (by omega)).trans (g12 11 (by omega))).trans m2, ((f3.i (by omega)).trans (g12 12 (by omega))).trans m3⟩ (fun j i hj hi => by rw [wu1 (by omega)]; exact a4 j i hj hi) (vb.en (by omega))
    ((l3.push hbl (by omega)).fr ((FR.refl (fun a i => a = 271 ∧ i = 10) _).s 271 10 _ ⟨rfl, rfl⟩) (by omega) (by omega)) (by omega) ⟨by omega, by omega, hd1, by omega⟩
  have e3 : nat (enT V g 3 g) = nat (V 3 g) + 1 := by rw [enT_3, nat_add1 v3.1 v3.2 (by omega)]
  refine ⟨_, _, P_bar T Tu1 a1, G, f, h, .inl ⟨p, g, i0, m + 1, _, _, .inl ⟨hr, _, _, c, ?_, co2.fr ((FR.refl (fun a i => a = 23) _).s 23 5 (nI 0) rfl) (fun a i h1 h2 => by omega), l4.fr f3 (by omega) (fun i hi => ⟨by omega, by omega⟩), ?_, ?_, by omega, ?_⟩⟩⟩
  · rw [dpr_s d1, hm, hc]; rfl
  · rw [hd_congr g (fun i j hi => enT_ne (by omega) j), enT_1 (.inl rfl), b10, e3]
    have : b1 (nat (V 3 g) + 1) = 1 := by unfold b1; rw [if_neg (by omega)]
    rw [this]
    exact ((((d4.nots n0 (by omega) (by omega)).cast (show _ = (hd V g + b1 (nat (V 3 g))) + b1 f0 + 1 by omega)).ands (by omega)).ors (by omega))
  · rw [wb_congr g (fun i j hi => enT_ne (by omega) j), enT_1 (.inl rfl), e3, enT_0, d7, nat0]
    unfold wl
    rw [if_neg (show ¬ nat (V 3 g) + 1 = 0 by omega)]
    rfl
  · rw [List.length_append, List.length_append, List.length_append, List.length_append, List.length_replicate, adl_len, orl_len]
    show _ + (_ + 1) + _ ≤ _
    omega
end
