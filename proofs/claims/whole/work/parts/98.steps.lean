/-! PURE: one letter more in a condition -/
section
variable {L : Nat} {xs : Nat → Int32} {u v u' v' : AW} {pg : Nat → Nat} {nP s k p g i0 m q q' g' : Nat} {V V' : Nat → Nat → Int32} {W W' : List Nat} {R : AW → AW → Prop} {FA FM : AW → Option (Int32 × AW)}
theorem OK1.no (hp : p ≤ 1) (h1 : FA u = some (nI 0, u')) (h2 : FM v = some (nI 0, v')) (f : FR (XAc s p) u u') (h : FR (XBc p) v v') : OK1 R s FA FM u v := ⟨0, u', v', h1, h2, by omega, (f.mono (XAc_XA hp)).c, h.mono XBc_XB, fun e => by omega⟩
theorem OK1.yes (hp : p ≤ 1) (h1 : FA u = some (nI 1, u')) (h2 : FM v = some (nI 1, v')) (f : FR (XAc s p) u u') (h : FR (XBc p) v v') (r : R u' v') : OK1 R s FA FM u v := ⟨1, u', v', h1, h2, by omega, (f.mono (XAc_XA hp)).c, h.mono XBc_XB, fun _ => r⟩
theorem RB.next (B : RB pg nP s q p g i0 m k V W u v) (hs : s ∈ STab) (f : FR (XAc s p) u u') (h : FR (XBc p) v v') (c4 : wi u' 23 4 = nI p) (c5 : wi u' 23 5 = nI (min q' 4)) (c11 : wi u' 23 11 = nI g') (mb : MB p q' g' v') (lc : LC u' V' g') (vb : VB V' g' (k + 1)) (wt : WT v' W') (hnt : pg k ≠ 126 ∧ pg k ≠ 94) (hds : pg k ≠ 58 ∧ pg k ≠ 64 ∧ (dpr pg i0 m).1 < 80 ∧ (pg k = 41 → 0 < (dpr pg i0 m).1)) : RB pg nP s q' p g' i0 (m + 1) (k + 1) V' W' u' v' := by
  obtain ⟨h1, h2, ⟨a1, a2, a3, a4, a5⟩, h4, h5, h6, h7, h8, h9⟩ := B
  refine ⟨h1, by omega, ⟨(f.r 23 2).trans a1, (f.r 23 3).trans a2, c4, c5, c11⟩, mb, lc, vb, dsf_s h7 (by rw [h2]; exact hds), h8.fr hs f h (fun _ => hnt), wt⟩
theorem cT (hs : s ∈ STab) (hp : p ≤ 1) : s + 1 + 3 * p ∈ CTab := by
  have : p = 0 ∨ p = 1 := by omega
  rcases this with e | e <;> subst e
  · exact (Cs_ok s hs).1
  · exact (Cs_ok s hs).2
theorem fdx_lt {c : Nat} (h : fdx c < 4) : c = 83 ∨ c = 87 ∨ c = 82 ∨ c = 84 := by
  unfold fdx at h
  by_cases h1 : c = 83
  · exact .inl h1
  by_cases h2 : c = 87
  · exact .inr (.inl h2)
  by_cases h3 : c = 82
  · exact .inr (.inr (.inl h3))
  by_cases h4 : c = 84
  · exact .inr (.inr (.inr h4))
  rw [if_neg h1, if_neg h2, if_neg h3, if_neg h4] at h
  omega
theorem sgx_lt {c : Nat} (h : sgx c < 3) : c = 60 ∨ c = 61 ∨ c = 62 := by
  unfold sgx at h
  by_cases h1 : c = 60
  · exact .inl h1
  by_cases h2 : c = 61
  · exact .inr (.inl h2)
  by_cases h3 : c = 62
  · exact .inr (.inr h3)
  rw [if_neg h1, if_neg h2, if_neg h3] at h
  omega
theorem dst_fd {c : Nat} (h : c = 83 ∨ c = 87 ∨ c = 82 ∨ c = 84) : dst c (g, V) = (g, adF V g (nI 1)) := by
  unfold dst
  rw [if_neg (by omega), if_neg (by omega), if_neg (by omega), if_pos h]
theorem nat0 : nat (nI 0) = 0 := by decide +kernel
theorem b10 : b1 (nat (nI 0)) = 0 := by rw [nat0]; rfl
theorem wl_n (t f n : Nat) : wl t f (n + 1) = wl t f n ++ [12] := by
  unfold wl
  rw [List.replicate_succ', List.append_assoc, List.append_assoc]
theorem step0 (T : Top L xs u) (T' : Top L xs v) (hs : s ∈ STab) (hkn : k < nP) (hnP : nP ≤ 80) (hc : pg k ≤ 126) (B : RB pg nP s 0 p g i0 m k V W u v) (D : D0 pg s p g i0 m k V W u v) : OK1 (RR pg nP s (k + 1)) s (F_Pg_accepts 23 (nI (pg k))) (F_M_goOn 271 (nI (pg k))) u v := by
  obtain ⟨hp, hm, ⟨b1', b2, b3, b4, b5⟩, ⟨m1, m2, m3⟩, lc, vb, ds, rp, wt⟩ := id B
  obtain ⟨P, Q, c, d1, d2, d3, d4, d5, d6, d7⟩ := D
  have hsr := STab_rng s hs
  have hg : g < 80 := by
    have e1 : W.length = (wb V g).length + (wl (nat (V 3 g)) (nat (V 1 g)) (nat (V 0 g))).length := by rw [d5, List.length_append]
    have := wb_len V g
    omega
  have hd1 : (dpr pg i0 m).1 < 80 := by rw [d1]; exact hg
  have b4' : wi u 23 5 = nI 0 := b4
  have l0 : wi u 32 g = V 0 g := lc 0 g (by omega) (by omega)
  have hw8 := wt.2.1
  by_cases c40 : pg k = 40
  · obtain ⟨u', p1, p2, p3, p4⟩ := P_paren T (show g + 1 ≤ 80 by omega) b5
    have f : FR (XAc s p) u u' := p2.mono (fun a i h => by unfold XO at h; unfold XAc; omega)
    have h : FR (XBc p) v (upI (upI (upI v 283 W.length (nI 15)) 271 28 (nI (W.length + 1))) 271 12 (nI (g + 1))) := (((FR.refl (XBc p) v).s _ _ _ (.inr (.inr rfl))).s _ _ _ (.inl ⟨rfl, .inr rfl⟩)).s _ _ _ (.inl ⟨rfl, .inl ⟨by omega, by omega⟩⟩)
    have hn : FR (fun a i => a = 283 ∨ a = 271) v (upI (upI (upI v 283 W.length (nI 15)) 271 28 (nI (W.length + 1))) 271 12 (nI (g + 1))) := (((FR.refl (fun a i => a = 283 ∨ a = 271) v).s _ _ _ (.inl rfl)).s _ _ _ (.inr rfl)).s _ _ _ (.inr rfl)
    have n4 : wi u' 23 4 = nI p := (p2.i (by unfold XO; omega)).trans b3
    have n5 : wi u' 23 5 = nI (min 0 4) := (p2.i (by unfold XO; omega)).trans b4
    have hr : RB pg nP s 0 p (g + 1) i0 (m + 1) (k + 1) (opL V (g + 1)) (W ++ [15]) u' _ := B.next hs f h n4 n5 p3
      ⟨by simp (disch := omega) only [wu1]; exact m1, by simp (disch := omega) only [wu1]; exact m2, wu0 _ _ _ _⟩ (lc.opn (by omega) p2 p4) (vb.op (by omega)) ((wt.push (by omega) (by omega)).fr ((FR.refl (fun a i => a = 271 ∧ i = 12) _).s _ _ _ ⟨rfl, rfl⟩) (by omega) (by omega)) (by omega) ⟨by omega, by omega, hd1, by omega⟩
    refine OK1.yes hp ?_ ?_ f h (.inl ⟨p, g + 1, i0, m + 1, _, _, .inl ⟨hr, P, Q, c, ?_, d2.fr p2 (fun a i h1 h2 => by unfold XO; omega), d3.fr hn (by omega) (fun i hi => ⟨by omega, by omega⟩), ?_, ?_, by omega, ?_⟩⟩)
    · rw [A_acc0 T b4', c40]; exact bdb p1 (by omega)
    · rw [M_go0 T' m1, c40]; exact bdb (G_paren T' wt (by omega) m3) (by omega)
    · rw [dpr_s d1, hm, c40]; rfl
    · rw [opL_eq, opL_eq, b10, Nat.add_zero, Nat.add_zero]
      unfold hd
      rw [hd_congr g (fun i j hi => opL_ne (by omega) j), opL_ne (by omega), opL_ne (by omega)]
      exact d4
    · rw [opL_eq, opL_eq, opL_eq, nat0]
      unfold wb
      rw [wb_congr g (fun i j hi => opL_ne (by omega) j), opL_ne (by omega), opL_ne (by omega), opL_ne (by omega), ← d5]
      exact (List.append_nil _).symm
    · rw [List.length_append]; show Q.length + (W.length + 1) + p ≤ k + 1; omega
  by_cases c33 : pg k = 33
  · have p1 := P_not T (show g ≤ 80 by omega) b5
    have f : FR (XAc s p) u (upI u 32 g (wi u 32 g + nI 1)) := (FR.refl (XAc s p) u).s _ _ _ (.inr (.inl ⟨by omega, by omega⟩))
    have f2 : FR (fun a i => a = 32) u (upI u 32 g (wi u 32 g + nI 1)) := (FR.refl (fun a i => a = 32) u).s _ _ _ rfl
    have h : FR (XBc p) v (upI (upI v 283 W.length (nI 12)) 271 28 (nI (W.length + 1))) := ((FR.refl (XBc p) v).s _ _ _ (.inr (.inr rfl))).s _ _ _ (.inl ⟨rfl, .inr rfl⟩)
    have hn : FR (fun a i => a = 283 ∨ a = 271) v (upI (upI v 283 W.length (nI 12)) 271 28 (nI (W.length + 1))) := ((FR.refl (fun a i => a = 283 ∨ a = 271) v).s _ _ _ (.inl rfl)).s _ _ _ (.inr rfl)
    have hr : RB pg nP s 0 p g i0 (m + 1) (k + 1) (nuL V g) (W ++ [12]) (upI u 32 g (wi u 32 g + nI 1)) _ := B.next hs f h ((f2.i (by omega)).trans b3) ((f2.i (by omega)).trans b4) ((f2.i (by omega)).trans b5)
      ⟨by simp (disch := omega) only [wu1]; exact m1, by simp (disch := omega) only [wu1]; exact m2, by simp (disch := omega) only [wu1]; exact m3⟩ (by
        intro j i hj hi
        by_cases e : i = g ∧ j = 0
        · rw [e.1, e.2, nuL_eq, show 32 + 0 = 32 from rfl, wu0, l0]
        · rw [nuL_ne (by omega), wu1 (by omega)]; exact lc j i hj hi) (vb.nu (by omega)) (wt.push (by omega) (by omega)) (by omega) ⟨by omega, by omega, hd1, by omega⟩
    have vb0 := vb g (by omega) 0 (.inl rfl)
    refine OK1.yes hp ?_ ?_ f h (.inl ⟨p, g, i0, m + 1, _, _, .inl ⟨hr, P, Q, c, ?_, d2.fr f2 (fun a i h1 h2 => by omega), d3.fr hn (by omega) (fun i hi => ⟨by omega, by omega⟩), ?_, ?_, by omega, ?_⟩⟩)
    · rw [A_acc0 T b4', c33]; exact bdb p1 (by omega)
    · rw [M_go0 T' m1, c33]; exact bdb (G_not T' wt (by omega)) (by omega)
    · rw [dpr_s d1, hm, c33]; rfl
    · rw [hd_congr g (fun i j hi => nuL_ne (by omega)), nuL_ne (by omega), nuL_ne (by omega)]
      exact d4
    · rw [wb_congr g (fun i j hi => nuL_ne (by omega)), nuL_ne (by omega), nuL_ne (by omega), nuL_eq, nat_add1 vb0.1 vb0.2 (by omega), wl_n, ← List.append_assoc, ← d5]
    · rw [List.length_append]; show Q.length + (W.length + 1) + p ≤ k + 1; omega
  have pf := P_field T hc c40 c33
  have gf := G_field T' hc c40 c33
  have f : ∀ x y, FR (XAc s p) u (upI (upI u 23 6 x) 23 5 y) := fun x y => ((FR.refl (XAc s p) u).s _ _ _ (.inl ⟨rfl, by omega, by omega⟩)).s _ _ _ (.inl ⟨rfl, by omega, by omega⟩)
  have h : ∀ x y, FR (XBc p) v (upI (upI v 271 16 x) 271 10 y) := fun x y => ((FR.refl (XBc p) v).s _ _ _ (.inl ⟨rfl, by omega⟩)).s _ _ _ (.inl ⟨rfl, by omega⟩)
  by_cases e : fdx (pg k) < 4
  · rw [if_pos e] at pf gf
    have ec := fdx_lt e
    have f2 : FR (fun a i => a = 23) u (upI (upI u 23 6 (nI (fdx (pg k)))) 23 5 (nI 1)) := ((FR.refl (fun a i => a = 23) u).s _ _ _ rfl).s _ _ _ rfl
    have hn : FR (fun a i => a = 271) v (upI (upI v 271 16 (nI (fdx (pg k)))) 271 10 (nI 1)) := ((FR.refl (fun a i => a = 271) v).s _ _ _ rfl).s _ _ _ rfl
    have hr : RB pg nP s 1 p g i0 (m + 1) (k + 1) V W (upI (upI u 23 6 (nI (fdx (pg k)))) 23 5 (nI 1)) (upI (upI v 271 16 (nI (fdx (pg k)))) 271 10 (nI 1)) := B.next hs (f _ _) (h _ _) (by simp (disch := omega) only [wu1]; exact b3) (wu0 _ _ _ _) (by simp (disch := omega) only [wu1]; exact b5)
      ⟨wu0 _ _ _ _, by simp (disch := omega) only [wu1]; exact m2, by simp (disch := omega) only [wu1]; exact m3⟩ (fun j i hj hi => (f2.i (by omega)).trans (lc j i hj hi)) (vb.mono (Nat.le_refl g) (Nat.le_succ k)) (wt.fr ((((FR.refl (fun a i => a = 271 ∧ i < 20) v).s 271 16 _ ⟨rfl, by omega⟩)).s 271 10 _ ⟨rfl, by omega⟩) (by omega) (by omega)) (by omega) ⟨by omega, by omega, hd1, by omega⟩
    refine OK1.yes hp ?_ ?_ (f _ _) (h _ _) (.inl ⟨p, g, i0, m + 1, _, _, .inr (.inl ⟨hr, P, Q, c, fdx (pg k), ?_, d2.fr f2 (fun a i h1 h2 => by omega), d3.fr hn (by omega) (fun i hi => ⟨by omega, by omega⟩), d4, d5, by omega, by omega, ?_, ?_, e⟩)⟩)
    · rw [A_acc0 T b4']; exact bdb pf (by omega)
    · rw [M_go0 T' m1]; exact bdb gf (by omega)
    · rw [dpr_s d1, hm]; exact dst_fd ec
    · simp (disch := omega) only [wu0, wu1]
    · simp (disch := omega) only [wu0, wu1]
  · rw [if_neg e] at pf gf
    exact OK1.no hp (by rw [A_acc0 T b4']; exact bdb pf (by omega)) (by rw [M_go0 T' m1]; exact bdb gf (by omega)) ((FR.refl (XAc s p) u).s _ _ _ (.inl ⟨rfl, by omega, by omega⟩)) (h _ _)
theorem step1 (T : Top L xs u) (T' : Top L xs v) (hs : s ∈ STab) (hkn : k < nP) (hnP : nP ≤ 80) (hc : pg k ≤ 126) (B : RB pg nP s 1 p g i0 m k V W u v) (D : D1 pg s p g i0 m k V W u v) : OK1 (RR pg nP s (k + 1)) s (F_Pg_accepts 23 (nI (pg k))) (F_M_goOn 271 (nI (pg k))) u v := by
  obtain ⟨hp, hm, ⟨b1', b2, b3, b4, b5⟩, ⟨m1, m2, m3⟩, lc, vb, ds, rp, wt⟩ := id B
  obtain ⟨P, Q, c, fd, d1, d2, d3, d4, d5, d6, d7, d8, d9, d10⟩ := D
  have hsr := STab_rng s hs
  have hg : g < 80 := by
    have e1 : W.length = (wb V g).length + (wl (nat (V 3 g)) (nat (V 1 g)) (nat (V 0 g))).length := by rw [d5, List.length_append]
    have := wb_len V g
    omega
  have hd1 : (dpr pg i0 m).1 < 80 := by rw [d1]; exact hg
  have b4' : wi u 23 5 = nI 1 := b4
  obtain ⟨sv, g1, g2⟩ := G_sign T' m1 hc
  have h : FR (XBc p) v (upI (upI v 271 17 (nI sv)) 271 10 (nI 2)) := ((FR.refl (XBc p) v).s _ _ _ (.inl ⟨rfl, by omega⟩)).s _ _ _ (.inl ⟨rfl, by omega⟩)
  have hl : P.length < 80 := by have := d4.2.2.2.2.2.2; omega
  by_cases e : sgx (pg k) < 3
  · rw [if_pos e] at g1
    have ec := sgx_lt e
    obtain ⟨u', p1, p2, p3, p4, p5, p6, p7⟩ := P_sign T (cT hs hp) b2 d2 hl d8 d10 hc e
    have f : FR (XAc s p) u u' := p2.mono (fun a i h => by unfold XAc; omega)
    have hn : FR (fun a i => a = 271) v (upI (upI v 271 17 (nI sv)) 271 10 (nI 2)) := ((FR.refl (fun a i => a = 271) v).s _ _ _ rfl).s _ _ _ rfl
    have hr : RB pg nP s 2 p g i0 (m + 1) (k + 1) V W u' (upI (upI v 271 17 (nI sv)) 271 10 (nI 2)) := B.next hs f h ((p2.i (by omega)).trans b3) p4 ((p2.i (by omega)).trans b5)
      ⟨wu0 _ _ _ _, by simp (disch := omega) only [wu1]; exact m2, by simp (disch := omega) only [wu1]; exact m3⟩ (fun j i hj hi => (p2.i (by omega)).trans (lc j i hj hi)) (vb.mono (Nat.le_refl g) (Nat.le_succ k)) (wt.fr ((((FR.refl (fun a i => a = 271 ∧ i < 20) v).s 271 17 _ ⟨rfl, by omega⟩)).s 271 10 _ ⟨rfl, by omega⟩) (by omega) (by omega)) (by omega) ⟨by omega, by omega, hd1, by omega⟩
    refine OK1.yes hp ?_ g1 f h (.inl ⟨p, g, i0, m + 1, _, _, .inr (.inr (.inl ⟨hr, P, Q, c, fd, sgx (pg k), ?_, p3, d3.fr hn (by omega) (fun i hi => ⟨by omega, by omega⟩), d4, d5, by omega, by omega, d10, e, p5, p6, p7, ?_, ?_, by omega⟩))⟩)
    · rw [A_acc1 T b4']; exact bdb p1 (by omega)
    · rw [dpr_s d1, hm]; exact dst_plain (by omega)
    · simp (disch := omega) only [wu0, wu1]; exact d9
    · simp (disch := omega) only [wu0, wu1]; rw [g2 e]
  · rw [if_neg e] at g1
    exact OK1.no hp (by rw [A_acc1 T b4']; exact bdb (P_sign0 T hc e) (by omega)) g1 (FR.refl _ _) h
/-- a number's first digit, on the class's side -/
theorem P_dig1 (T : Top L xs u) (hs : s ∈ STab) (hp : p ≤ 1) {x mi md fo no : Nat} {P : List (Nat × Int)} (hx : 48 ≤ x ∧ x ≤ 57) (b2 : wr u 23 3 = s + 1 + 3 * p) (b5 : wi u 23 11 = nI g) (h5 : ¬ wi u 23 5 = nI 4) (hg : g ≤ 80) (lc : LC u V g) (hC : CO u (s + 1 + 3 * p) (P ++ [(md, 0)])) (hl : P.length + 3 ≤ 80) (hf : V 1 g = nI fo) (hf8 : fo ≤ 80) (hn : V 0 g = nI no) (hn8 : no ≤ 80) (h7 : wi u 23 7 = nI P.length) (h9 : wi u 23 9 = nI 0) (h10 : wi u 23 10 = nI mi) (hmi : mi < 2) : ∃ u', F_Pg_readsDigit 23 (nI x) u = some (nI 1, u') ∧ FR (XAc s p) u u' ∧ wi u' 23 4 = wi u 23 4 ∧ wi u' 23 5 = nI 4 ∧ wi u' 23 11 = nI g ∧ LC u' (adF V g (nI 1)) g ∧ CO u' (s + 1 + 3 * p) (((P ++ [(md, zz mi (x - 48))]) ++ ntl no) ++ adl fo) ∧ wi u' 23 7 = nI P.length ∧ wi u' 23 9 = nI 1 ∧ wi u' 23 10 = nI mi := by
  have hsr := STab_rng s hs
  have hcT := cT hs hp
  have e0 : zz mi 0 = 0 := by unfold zz; split <;> rfl
  have hC' : CO u (s + 1 + 3 * p) ((P ++ [(md, zz mi 0)]) ++ []) := by rw [e0, List.append_nil]; exact hC
  obtain ⟨u1, p1, p2, p3, p4⟩ := P_digit T b2 hcT hC' h7 h9 (by omega) h10 hmi (by omega) hx
  rw [show 10 * 0 + (x - 48) = x - 48 by omega, List.append_nil] at p3
  have T1 := T.sh (p2.sh (fun a i h => by omega))
  obtain ⟨u2, q1, q2, q3, q4, q5⟩ := A_endFactor T1 hg ((p2.i (by omega)).trans b5) (fun j i hj hi => (p2.i (by omega)).trans (lc j i hj hi)) (nI 1) hn hf hn8 hf8 ((p2.r 23 3).trans b2) hcT p3.1 (by rw [List.length_append]; show P.length + 1 + 2 ≤ 80; omega)
  have c2 := p3.steps hcT q2 q5 (by rw [cms_adl, cms_ntl])
  have T2 := T1.sh (q2.sh (XE_16 hcT))
  have q0 : ∀ i, i ≠ 11 → wi u2 23 i = wi u1 23 i := fun i h => q2.i (by unfold XE XF; omega)
  refine ⟨upI u2 23 5 (nI 4), ?_, ((p2.mono ?_).trans (q2.mono ?_)).s 23 5 _ (.inl ⟨rfl, by omega, by omega⟩), ?_, wu0 _ _ _ _, ?_, ?_, ?_, ?_, ?_, ?_⟩
  · rw [p1, if_neg h5, q1, bd_s]
    unfold F_Pg_readsDigit_84
    simp only [t23 T2, gd_true, beq_self_eq_true]
    exact bdb (A_goes T2 (nI 4)) (by omega)
  · intro a i h; unfold XAc; omega
  · intro a i h; unfold XE XF at h; unfold XAc; omega
  · rw [wu1 (by omega), q0 4 (by omega), p2.i (by omega)]
  · rw [wu1 (by omega)]; exact q3
  · intro j i hj hi; rw [wu1 (by omega)]; exact q4 j i hj hi
  · exact c2.fr ((FR.refl (fun a i => a = 23) _).s 23 5 (nI 4) rfl) (fun a i h1 h2 => by omega)
  · rw [wu1 (by omega), q0 7 (by omega), p2.i (by omega)]; exact h7
  · rw [wu1 (by omega), q0 9 (by omega)]; exact p4
  · rw [wu1 (by omega), q0 10 (by omega), p2.i (by omega)]; exact h10
end
