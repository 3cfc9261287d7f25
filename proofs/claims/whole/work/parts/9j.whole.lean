/-! PURE: whether the page is a whole saying -/
section
variable {L : Nat} {xs : Nat → Int32} {u v u' v' : AW} {pg : Nat → Nat} {np s k p g q st : Nat}
theorem P_whole27 (T : Top L xs u) (h5 : wi u 23 5 = nI st) (hst : st ≤ 14) : F_Pg_isWhole_27 u 23 0 = some (if (st = 13 ∧ 0 < wi u 23 8) ∨ st = 14 then nI 1 else nI 0) := by
  unfold F_Pg_isWhole_27 F_Pg_isWhole_48
  rw [if_pos (show (0 : Int32) = 0 from rfl)]
  simp only [t23 T, h5, gd_true, beq_self_eq_true]
  by_cases e : st = 13
  · rw [if_pos (show nI st = (13 : Int32) by rw [e]; rfl)]
    by_cases e2 : (0 : Int32) < wi u 23 8
    · rw [if_pos e2, if_pos (.inl ⟨e, e2⟩)]; rfl
    · rw [if_neg e2, if_neg (show ¬ nI st = (14 : Int32) from nIne (k := 14) (by omega) (by omega) (by omega)), if_neg (fun q => q.elim (fun q => e2 q.2) (fun q => by omega))]; rfl
  · rw [if_neg (show ¬ nI st = (13 : Int32) from nIne (k := 13) (by omega) (by omega) e)]
    by_cases e2 : st = 14
    · rw [if_pos (show nI st = (14 : Int32) by rw [e2]; rfl), if_pos (.inr e2)]; rfl
    · rw [if_neg (show ¬ nI st = (14 : Int32) from nIne (k := 14) (by omega) (by omega) e2), if_neg (fun q => q.elim (fun q => e q.1) e2)]; rfl
theorem P_whole (T : Top L xs u) (h5 : wi u 23 5 = nI st) (hst : st ≤ 14) (h4 : st ≠ 4) : F_Pg_isWhole u 23 = some (if (st = 13 ∧ 0 < wi u 23 8) ∨ st = 14 then nI 1 else nI 0) := by
  unfold F_Pg_isWhole
  simp only [t23 T, h5, gd_true, beq_self_eq_true]
  rw [if_neg (show ¬ nI st = (4 : Int32) from nIne (k := 4) (by omega) (by omega) h4), P_whole27 T h5 hst]
theorem P_whole4 (T : Top L xs u) (h5 : wi u 23 5 = nI 4) (h4 : wi u 23 4 = nI p) (hp : p ≤ 1) (h11 : wi u 23 11 = nI g) (hg : g ≤ 80) : F_Pg_isWhole u 23 = some (if p = 1 ∧ g = 0 then nI 1 else nI 0) := by
  have k27 : F_Pg_isWhole_27 u 23 0 = some (nI 0) := by rw [P_whole27 T h5 (by omega), if_neg (by omega)]
  unfold F_Pg_isWhole
  simp only [t23 T, h5, h4, h11, k27, gd_true, beq_self_eq_true]
  rw [if_pos (show nI 4 = (4 : Int32) from rfl)]
  by_cases e : p = 1
  · rw [if_neg (show ¬ nI p = (0 : Int32) from nIne (k := 0) (by omega) (by omega) (by omega))]
    by_cases e2 : g = 0
    · rw [if_pos (show nI g = (0 : Int32) by rw [e2]; rfl), if_pos ⟨e, e2⟩]
      unfold F_Pg_isWhole_27
      rw [if_neg (show ¬ (1 : Int32) = 0 by decide +kernel)]; rfl
    · rw [if_neg (show ¬ nI g = (0 : Int32) from nIne (k := 0) (by omega) (by omega) e2), if_neg (fun q => e2 q.2)]
  · rw [if_pos (show nI p = (0 : Int32) by rw [show p = 0 by omega]; rfl), if_neg (fun q => e q.1)]
theorem G_whole69 (T : Top L xs v) (h10 : wi v 271 10 = nI q) (hq : q ≤ 14) : F_M_isWhole_69 271 v = some (if q = 14 then nI 1 else nI 0, v) := by
  unfold F_M_isWhole_69
  simp only [mK T, h10, gd_true, beq_self_eq_true]
  by_cases e : q = 14
  · rw [if_pos (show nI q = (14 : Int32) by rw [e]; rfl), if_pos e]; rfl
  · rw [if_neg (show ¬ nI q = (14 : Int32) from nIne (k := 14) (by omega) (by omega) e), if_neg e]; rfl
/-- not behind a factor of the second condition's outermost level -/
theorem G_whole (T : Top L xs v) (mb : MB p q g v) (hq : q ≤ 14) (hp : p ≤ 1) (hg : g ≤ 80) (h : ¬ (p = 1 ∧ g = 0 ∧ (q = 4 ∨ q = 5))) : F_M_isWhole 271 v = F_M_isWhole_43 271 v := by
  obtain ⟨m1, m2, m3⟩ := mb
  unfold F_M_isWhole
  simp only [mK T, m1, m2, m3, gd_true, beq_self_eq_true]
  by_cases e1 : p = 1
  · rw [if_pos (show nI p = (1 : Int32) by rw [e1]; rfl)]
    by_cases e2 : g = 0
    · rw [if_pos (show nI g = (0 : Int32) by rw [e2]; rfl), if_neg (show ¬ nI q = (4 : Int32) from nIne (k := 4) (by omega) (by omega) (fun e => h ⟨e1, e2, .inl e⟩)), if_neg (show ¬ nI q = (5 : Int32) from nIne (k := 5) (by omega) (by omega) (fun e => h ⟨e1, e2, .inr e⟩))]
    · rw [if_neg (show ¬ nI g = (0 : Int32) from nIne (k := 0) (by omega) (by omega) e2)]
  · rw [if_neg (show ¬ nI p = (1 : Int32) from nIne (k := 1) (by omega) (by omega) e1)]
theorem G_whole43 (T : Top L xs v) (h10 : wi v 271 10 = nI q) (hq : q ≤ 14) (h12 : q ≠ 12) : F_M_isWhole_43 271 v = some (if q = 14 then nI 1 else nI 0, v) := by
  unfold F_M_isWhole_43
  simp only [mK T, h10, gd_true, beq_self_eq_true]
  rw [if_neg (show ¬ nI q = (12 : Int32) from nIne (k := 12) (by omega) (by omega) h12), G_whole69 T h10 hq]
theorem G_whole45 (T : Top L xs v) (mb : MB 1 q 0 v) (hq : q = 4 ∨ q = 5) {v1 v2 : AW} (T1 : Top L xs v1) (h1 : F_M_endNumber 271 v = some v1) (h2 : F_M_layDown 271 (nI 14) v1 = some v2) : F_M_isWhole 271 v = some (nI 1, v2) := by
  obtain ⟨m1, m2, m3⟩ := mb
  have k31 : F_M_isWhole_31 271 v = some (nI 1, v2) := by
    unfold F_M_isWhole_31
    simp only [l_14, mK T, mK T1, h1, h2, gd_true, beq_self_eq_true, bd_s]
    rfl
  unfold F_M_isWhole
  simp only [mK T, m1, m2, m3, gd_true, beq_self_eq_true]
  rw [if_pos (show nI 1 = (1 : Int32) from rfl), if_pos (show nI 0 = (0 : Int32) from rfl)]
  rcases hq with e | e <;> subst e
  · rw [if_pos (show nI 4 = (4 : Int32) from rfl), k31]
  · rw [if_neg (show ¬ nI 5 = (4 : Int32) by decide +kernel), if_pos (show nI 5 = (5 : Int32) from rfl), k31]
/-- a whole saying, on both sides -/
def SEA (s : Nat) (u v : AW) : Prop := wi u s 5 = wi v 271 21 ∧ wi u s 6 = wi v 271 22 ∧ wi u s 7 = wi v 271 23 ∧ okSea (wi v 271 21) (wi v 271 22) (wi v 271 23)
def WHL (pg : Nat → Nat) (np s : Nat) (u v : AW) : Prop := FNd pg np s 0 u v ∧ FNd pg np s 1 u v ∧ SP s u v ∧ SEA s u v
theorem SE.sea (h : SE s u v) : SEA s u v := by
  obtain ⟨h1, h2, h3, h4, h5, h6⟩ := h
  exact ⟨h1.trans h4.symm, h2.trans h5.symm, h3.trans h6.symm, .inl h6, .inl h4⟩
theorem finish4 (T : Top L xs u) {u1 : AW} {c : Nat} {d : Int32} (h5 : wi u 23 5 = nI 4) (h3 : wr u 23 3 = c) (kc : wk u1 c = 6) (h : F_Pg_endLevel 23 u = some (d, u1)) : F_Pg_finish 23 u = some (upI u1 c 5 d) := by
  unfold F_Pg_finish
  simp only [t23 T, h5, h3, h, kc, gd_true, beq_self_eq_true, bd_s]
  rw [if_pos (show nI 4 = (4 : Int32) from rfl)]
theorem wholeAB (T : Top L xs u) (T' : Top L xs v) (hs : s ∈ STab) (hnP : np ≤ 80) (B : RR pg np s np u v) : (F_Pg_isWhole u 23 = some (nI 0) ∧ F_M_isWhole 271 v = some (nI 0, v)) ∨ (F_Pg_isWhole u 23 = some (nI 1) ∧ ∃ u' v', F_Pg_finish 23 u = some u' ∧ F_M_isWhole 271 v = some (nI 1, v') ∧ FR (XA s) u u' ∧ FR XB v v' ∧ WHL pg np s u' v') := by
  have hsr := STab_rng s hs
  rcases B with ⟨p, g, i0, m, V, W, h⟩ | ⟨q, h⟩ | ⟨q, h⟩
  · have no : ∀ q, q ≤ 3 → RB pg np s q p g i0 m np V W u v → g ≤ 80 → (F_Pg_isWhole u 23 = some (nI 0) ∧ F_M_isWhole 271 v = some (nI 0, v)) := by
      intro q hq B hg
      obtain ⟨hp, hm, ⟨b1', b2, b3, b4, b5⟩, mb, -⟩ := B
      refine ⟨?_, ?_⟩
      · rw [P_whole T b4 (by omega) (by omega), if_neg (by omega)]
      · rw [G_whole T' mb (by omega) hp hg (by omega), G_whole43 T' mb.1 (by omega) (by omega), if_neg (by omega)]
    have hgl : ∀ (t f n : Nat), W = wb V g ++ wl t f n → W.length ≤ 80 → g ≤ 80 := by
      intro t f n e1 e2
      have e3 : W.length = (wb V g).length + (wl t f n).length := by rw [e1, List.length_append]
      have := wb_len V g
      omega
    have yes : ∀ q, ((q = 4 ∧ D4 pg s p g i0 m np V W u v) ∨ (q = 5 ∧ D5 pg s p g i0 m np V W u v)) → RB pg np s q p g i0 m np V W u v → (F_Pg_isWhole u 23 = some (nI 0) ∧ F_M_isWhole 271 v = some (nI 0, v)) ∨ (F_Pg_isWhole u 23 = some (nI 1) ∧ ∃ u' v', F_Pg_finish 23 u = some u' ∧ F_M_isWhole 271 v = some (nI 1, v') ∧ FR (XA s) u u' ∧ FR XB v v' ∧ WHL pg np s u' v') := by
      intro q D B
      have hq : q = 4 ∨ q = 5 := by rcases D with q | q <;> omega
      obtain ⟨hp, hm, ⟨b1', b2, b3, b4, b5⟩, mb, lc, vb, ds, rp, wt⟩ := id B
      have b4' : wi u 23 5 = nI 4 := by rw [b4]; rcases hq with e | e <;> subst e <;> rfl
      obtain ⟨v1, n1, n2, n3⟩ := D45 T' hs hnP hp mb D
      have T1 := T'.sh (n2.sh (fun a i h => XY_16 a i (.inl h)))
      have hg : g ≤ 80 := by
        obtain ⟨P, Q, c, f0, n0, d1, d2, d3, d4, d5, d6, d10, d11⟩ := n3
        exact hgl _ _ _ d5 wt.2.1
      by_cases e : p = 1 ∧ g = 0
      · obtain ⟨e1, e2⟩ := e
        subst e1 e2
        right
        refine ⟨by rw [P_whole4 T b4' b3 hp b5 hg, if_pos ⟨rfl, rfl⟩], ?_⟩
        obtain ⟨u1, v2, P, Q, c, a1, a2, l1, f12, l2, l3, e1, e2, e3, e4⟩ := conn_end (FR.refl _ u) T T1 hs (by omega) hnP (Nat.le_refl np) (.inl rfl) B n2 n3
        have hcT := cT hs hp
        have Tu1 := T.sh (a2.sh (XE_16 hcT))
        have fa : FR (XAc s 1) u (upI u1 (s + 1 + 3 * 1) 5 (dpt (enT V 0) 0)) := (a2.mono (fun a i h => by unfold XE XF at h; unfold XAc; omega)).s _ _ _ (.inr (.inr ⟨by omega, by omega⟩))
        obtain ⟨r1, r2, r3⟩ := rp
        have r4 : FNd pg np s 0 u v ∧ SP s u v := by
          rcases r3 with q | q
          · exact absurd q.1 (by omega)
          · exact q.2
        refine ⟨_, v2, finish4 T b4' b2 (tC Tu1 hcT).1 a1, G_whole45 T' mb hq T1 n1 l1, fa.mono (XAc_XA hp), f12.mono XBc_XB, r4.1.fr fa f12 (fun a i h1 h2 => by unfold XAc; omega) (fun a i h1 => by unfold XBc XMk; omega), ⟨P, Q, c, i0, m, V, e1.u5 _, wu0 _ _ _ _, e2, e3, e4⟩, r4.2.fr fa f12 (fun i h1 h2 => by unfold XAc; omega) (fun i h1 h2 => by unfold XBc XMk; omega), ?_⟩
        exact SE.sea (r1.fr fa f12 (fun i hi => by unfold XAc; omega) (fun i h1 h2 => by unfold XBc XMk; omega))
      · left
        refine ⟨by rw [P_whole4 T b4' b3 hp b5 hg, if_neg e], ?_⟩
        rw [G_whole T' mb (by omega) hp hg (fun q => e ⟨q.1, q.2.1⟩), G_whole43 T' mb.1 (by omega) (by omega), if_neg (by omega)]
    rcases h with ⟨B, D⟩ | ⟨B, D⟩ | ⟨B, D⟩ | ⟨B, D⟩ | ⟨B, D⟩ | ⟨B, h9, D⟩
    · obtain ⟨P, Q, c, d1, d2, d3, d4, d5, d6⟩ := id D
      exact .inl (no 0 (by omega) B (hgl _ _ _ d5 B.2.2.2.2.2.2.2.2.2.1))
    · obtain ⟨P, Q, c, fd, d1, d2, d3, d4, d5, d6⟩ := id D
      exact .inl (no 1 (by omega) B (hgl _ _ _ d5 B.2.2.2.2.2.2.2.2.2.1))
    · obtain ⟨P, Q, c, fd, sg, d1, d2, d3, d4, d5, d6⟩ := id D
      exact .inl (no 2 (by omega) B (hgl _ _ _ d5 B.2.2.2.2.2.2.2.2.2.1))
    · obtain ⟨P, Q, c, fd, sg, d1, d2, d3, d4, d5, d6⟩ := id D
      exact .inl (no 3 (by omega) B (hgl _ _ _ d5 B.2.2.2.2.2.2.2.2.2.1))
    · exact yes 4 (.inl ⟨rfl, D⟩) B
    · exact yes 5 (.inr ⟨rfl, D⟩) B
  · left
    obtain ⟨h6, h9, ⟨c1, c2, c5⟩, mb, -⟩ := h
    refine ⟨?_, ?_⟩
    · rw [P_whole T c5 (by omega) (by omega), if_neg (by omega)]
    · rw [G_whole T' mb (by omega) (by omega) (by omega) (by omega), G_whole43 T' mb.1 (by omega) (by omega), if_neg (by omega)]
  · obtain ⟨b1', mb, b3, b4, b5, cs⟩ := h
    rcases cs with ⟨e, c5, c8, c9, se⟩ | ⟨e, c5, se, val, dg, c8, c9, r14, r13, hv, hd1, hd, h0⟩ | ⟨e, sn, a, val, dg, s5, r21, ha, c5, c8, c9, r14, r13, hv, hd, h0, h00⟩ | ⟨e, c5, se⟩ | ⟨e, c5, sn, x, s7, r23, hx⟩ <;> subst e
    · left
      exact ⟨by rw [P_whole T c5 (by omega) (by omega), if_neg (by omega)], by rw [G_whole T' mb (by omega) (by omega) (by omega) (by omega), G_whole43 T' mb.1 (by omega) (by omega), if_neg (by omega)]⟩
    · left
      exact ⟨by rw [P_whole T c5 (by omega) (by omega), if_neg (by omega)], by rw [G_whole T' mb (by omega) (by omega) (by omega) (by omega), G_whole43 T' mb.1 (by omega) (by omega), if_neg (by omega)]⟩
    · have km : F_M_isMonth v 271 = some (if 0 < val then nI 1 else nI 0) := by
        unfold F_M_isMonth
        simp only [mK T', r13, r14, gd_true, beq_self_eq_true]
        by_cases e : dg = 0
        · rw [if_pos (show nI dg ≤ (0 : Int32) by rw [e]; decide +kernel), if_neg (by omega)]; rfl
        · rw [if_neg (show ¬ nI dg ≤ (0 : Int32) by rw [l_0, q_le (by omega) (by omega)]; omega), M_in_iff, nI_toInt (by omega), show (1 : Int64).toInt = 1 from by decide +kernel, show (12 : Int64).toInt = 12 from by decide +kernel]
          by_cases e : 0 < val
          · rw [if_pos e, if_pos (show (1 : Int) ≤ (val : Int) ∧ (val : Int) ≤ 12 by omega), if_neg (show ¬ (1 : Int32) = 0 by decide +kernel)]; rfl
          · rw [if_neg e, if_neg (show ¬ ((1 : Int) ≤ (val : Int) ∧ (val : Int) ≤ 12) by omega), if_pos rfl]; rfl
      have G := G_whole T' mb (by omega) (by omega) (by omega) (by omega)
      have hst : (if dg = 0 then 12 else 13) ≤ 14 ∧ (if dg = 0 then 12 else 13) ≠ 4 := by split <;> omega
      have P := P_whole T c5 hst.1 hst.2
      rw [c8] at P
      by_cases hv0 : 0 < val
      · right
        have hd0 : dg ≠ 0 := fun e => by have := h00 e; omega
        rw [if_neg hd0] at c5
        rw [if_pos (.inl ⟨by rw [if_neg hd0], by rw [l_0, q_lt (by omega) (by omega)]; exact hv0⟩)] at P
        have fa : FR (fun a i => a = s ∧ i = 6) u (upI u s 6 (nI val)) := (FR.refl (fun a i => a = s ∧ i = 6) u).s _ _ _ ⟨rfl, rfl⟩
        have fb : FR (fun a i => a = 271 ∧ i = 22) v (upI v 271 22 (nI val)) := (FR.refl (fun a i => a = 271 ∧ i = 22) v).s _ _ _ ⟨rfl, rfl⟩
        refine ⟨P, upI u s 6 (nI val), upI v 271 22 (nI val), ?_, ?_, fa.mono (fun a i h => by unfold XA; omega), fb.mono (fun a i h => by unfold XB; omega), b3.fr fa fb (fun a i h1 h2 => by omega) (fun a i h1 => by omega), b4.fr fa fb (fun a i h1 h2 => by omega) (fun a i h1 => by omega), b5.fr fa fb (fun i h1 h2 => by omega) (fun i h1 h2 => by omega), ?_, ?_, ?_, ?_⟩
        · unfold F_Pg_finish
          simp only [t23 T, c5, b1'.1, c8, tY T hs, gd_true, beq_self_eq_true]
          rw [if_neg (show ¬ nI 13 = (4 : Int32) by decide +kernel), if_pos (show nI 13 = (13 : Int32) from rfl)]
        · rw [G]
          unfold F_M_isWhole_43
          simp only [mK T', mb.1, km, r14, gd_true, beq_self_eq_true, bd_s]
          rw [if_pos (show nI 12 = (12 : Int32) from rfl), if_pos hv0, if_neg (show ¬ nI 1 = (0 : Int32) by decide +kernel)]; rfl
        · rw [wu1 (by omega), wu1 (by omega), s5, r21]
        · rw [wu0, wu0]
        · rw [wu1 (by omega), wu1 (by omega), sn.2.1, sn.2.2.2]
        · rw [wu0, wu1 (by omega), wu1 (by omega), r21, sn.2.2.2]
          exact ⟨.inl rfl, .inr ⟨by rw [nat_nI (by omega)], by rw [nat_nI (by omega)], by rw [nat_nI (by omega)]; omega, by rw [nat_nI (by omega)]; omega⟩⟩
      · left
        rw [if_neg (fun q => q.elim (fun q => hv0 (by have := q.2; rw [l_0, q_lt (by omega) (by omega)] at this; exact this)) (fun q => by revert q; split <;> omega))] at P
        refine ⟨P, ?_⟩
        rw [G]
        unfold F_M_isWhole_43
        simp only [mK T', mb.1, km, gd_true, beq_self_eq_true, bd_s]
        rw [if_pos (show nI 12 = (12 : Int32) from rfl), if_neg hv0, if_pos (show nI 0 = (0 : Int32) from rfl), G_whole69 T' mb.1 (by omega), if_neg (by omega)]
    · left
      exact ⟨by rw [P_whole T c5 (by omega) (by omega), if_neg (by omega)], by rw [G_whole T' mb (by omega) (by omega) (by omega) (by omega), G_whole43 T' mb.1 (by omega) (by omega), if_neg (by omega)]⟩
    · right
      refine ⟨by rw [P_whole T c5 (by omega) (by omega), if_pos (.inr rfl)], u, v, ?_, by rw [G_whole T' mb (by omega) (by omega) (by omega) (by omega), G_whole43 T' mb.1 (by omega) (by omega), if_pos rfl], FR.refl _ _, FR.refl _ _, b3, b4, b5, ?_, ?_, ?_, ?_⟩
      · unfold F_Pg_finish
        simp only [t23 T, c5, gd_true, beq_self_eq_true]
        rw [if_neg (show ¬ nI 14 = (4 : Int32) by decide +kernel), if_neg (show ¬ nI 14 = (13 : Int32) by decide +kernel)]
      · rw [sn.1, sn.2.2.1]
      · rw [sn.2.1, sn.2.2.2]
      · rw [s7, r23]
      · exact ⟨.inr ⟨by rw [r23, nat_nI (by omega)], by rw [r23, nat_nI (by omega)]; omega⟩, .inl sn.2.2.1⟩
end
