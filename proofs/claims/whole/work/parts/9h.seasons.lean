/-! PURE: one letter more in the season, all cases -/
section
variable {L : Nat} {xs : Nat → Int32} {u v u' v' : AW} {pg : Nat → Nat} {nP s k q x : Nat}
/-- what the season's letters change -/
def XU (s a i : Nat) : Prop := (a = 23 ∧ (i = 5 ∨ i = 8 ∨ i = 9)) ∨ (a = s ∧ 5 ≤ i)
def XV (a i : Nat) : Prop := a = 271 ∧ (i = 10 ∨ i = 13 ∨ i = 14 ∨ 21 ≤ i ∧ i ≤ 23)
theorem XU_XA {s : Nat} : ∀ a i, XU s a i → XA s a i := by
  intro a i h; unfold XU at h; unfold XA; omega
theorem XV_XB : ∀ a i, XV a i → XB a i := by
  intro a i h; unfold XV at h; unfold XB; omega
/-- what a season's letter keeps -/
def Rkp (pg : Nat → Nat) (nP s q : Nat) (u v : AW) : Prop := (wr u 23 2 = s ∧ wi u 23 4 = nI 1) ∧ MB 1 q 0 v ∧ FNd pg nP s 0 u v ∧ FNd pg nP s 1 u v ∧ SP s u v
theorem Rkp.fr {q' : Nat} (hs : s ∈ STab) (B : Rkp pg nP s q u v) (f : FR (XU s) u u') (h : FR XV v v') (m10 : wi v' 271 10 = nI q') : Rkp pg nP s q' u' v' := by
  have hsr := STab_rng s hs
  obtain ⟨⟨c1, c2⟩, ⟨-, m2, m3⟩, f0, f1, sp⟩ := B
  exact ⟨⟨(f.r 23 2).trans c1, (f.i (by unfold XU; omega)).trans c2⟩, ⟨m10, (h.i (by unfold XV; omega)).trans m2, (h.i (by unfold XV; omega)).trans m3⟩, f0.fr f h (fun a i h1 h2 => by unfold XU; omega) (fun a i h1 => by unfold XV; omega), f1.fr f h (fun a i h1 h2 => by unfold XU; omega) (fun a i h1 => by unfold XV; omega), sp.fr f h (fun i h1 h2 => by unfold XU; omega) (fun i h1 h2 => by unfold XV; omega)⟩
theorem G_83z (T : Top L xs v) (hx : x ≤ 126) (h : ¬ (48 ≤ x ∧ x ≤ 57)) (h2 : wi v 271 13 = nI 0) : F_M_goOnSeason_83 271 (nI x) v = some (nI 0, v) := by
  by_cases e : wi v 271 10 = nI 11
  · by_cases ex : x = 45
    · have km : F_M_isMonth v 271 = some (nI 0) := by
        unfold F_M_isMonth
        simp only [mK T, h2, gd_true, beq_self_eq_true]
        rw [if_pos (show nI 0 ≤ (0 : Int32) by decide +kernel)]; rfl
      unfold F_M_goOnSeason_83
      rw [M_isFig hx, if_neg h, if_pos (show nI 0 = (0 : Int32) from rfl)]
      simp only [mK T, km, gd_true, beq_self_eq_true, bd_s]
      rw [if_pos (show wi v 271 10 = (11 : Int32) from e), if_pos (show nI x = (45 : Int32) by rw [ex]; rfl), if_pos (show nI 0 = (0 : Int32) from rfl)]; rfl
    · exact G_83n T hx h (.inr ex)
  · exact G_83n T hx h (.inl e)
theorem step10 (T : Top L xs u) (T' : Top L xs v) (hs : s ∈ STab) (hx : pg k ≤ 126) (B : Rse pg nP s q k u v) : OK1 (RR pg nP s (k + 1)) s (F_Pg_accepts 23 (nI (pg k))) (F_M_goOn 271 (nI (pg k))) u v := by
  have hsr := STab_rng s hs
  obtain ⟨b1', b2, b3, b4, b5, cs⟩ := B
  have K : Rkp pg nP s q u v := ⟨b1', b2, b3, b4, b5⟩
  have c1 := b1'.1
  have m1 := b2.1
  have mk : ∀ {q' : Nat} {u' v' : AW}, Rkp pg nP s q' u' v' → _ → Rse pg nP s q' (k + 1) u' v' := fun K c => ⟨K.1, K.2.1, K.2.2.1, K.2.2.2.1, K.2.2.2.2, c⟩
  -- a month's figure
  have mon : ∀ (val dg nx q' : Nat) (w : AW), FR XV v w → Top L xs w → wi u 23 8 = nI val → wi u 23 9 = nI dg → wi w 271 14 = nI val → wi w 271 13 = nI dg → val ≤ 12 → dg ≤ 3 → 48 ≤ pg k ∧ pg k ≤ 57 → F_Pg_accepts 23 (nI (pg k)) u = ((F_Pg_readsMonth 23 (nI (pg k)) (nI nx) u).bind fun r => gd (r.1 == 0 || r.1 == 1) (some (r.1, r.2))) → F_M_goOn 271 (nI (pg k)) v = ((F_M_goOnSeason_83 271 (nI (pg k)) w).bind fun r => gd (r.1 == 0 || r.1 == 1) (some (r.1, r.2))) → (∀ u' v', FR (fun a i => a = 23 ∧ (i = 5 ∨ i = 8 ∨ i = 9)) u u' → FR (fun a i => a = 271 ∧ (i = 13 ∨ i = 14)) w v' → wi u' 23 8 = nI (10 * val + (pg k - 48)) → wi u' 23 9 = nI (dg + 1) → wi u' 23 5 = nI nx → wi v' 271 14 = nI (10 * val + (pg k - 48)) → wi v' 271 13 = nI (dg + 1) → dg < 3 → okM (10 * val + (pg k - 48)) (dg + 1) → Rse pg nP s q' (k + 1) u' v') → OK1 (RR pg nP s (k + 1)) s (F_Pg_accepts 23 (nI (pg k))) (F_M_goOn 271 (nI (pg k))) u v := by
    intro val dg nx q' w fw Tw h8 h9 h14 h13 hv hd ed hA hM fin
    obtain ⟨g1, g2⟩ := G_83 Tw ed h13 h14 hv hd
    have fv : FR (fun a i => a = 271 ∧ (i = 13 ∨ i = 14)) w (upI (upI w 271 13 (nI (dg + 1))) 271 14 (nI (10 * val + (pg k - 48)))) := ((FR.refl (fun a i => a = 271 ∧ (i = 13 ∨ i = 14)) w).s _ _ _ ⟨rfl, .inl rfl⟩).s _ _ _ ⟨rfl, .inr rfl⟩
    have fvB : FR XB v (upI (upI w 271 13 (nI (dg + 1))) 271 14 (nI (10 * val + (pg k - 48)))) := (fw.mono XV_XB).trans (fv.mono (fun a i h => by unfold XB; omega))
    by_cases h3 : dg < 3
    · obtain ⟨p1, p2⟩ := P_month (nx := nx) T ed h8 h9 hv h3
      by_cases ok : okM (10 * val + (pg k - 48)) (dg + 1)
      · have fu : FR (fun a i => a = 23 ∧ (i = 5 ∨ i = 8 ∨ i = 9)) u (upI (upI (upI u 23 8 (nI (10 * val + (pg k - 48)))) 23 9 (nI (dg + 1))) 23 5 (nI nx)) := (((FR.refl (fun a i => a = 23 ∧ (i = 5 ∨ i = 8 ∨ i = 9)) u).s _ _ _ ⟨rfl, .inr (.inl rfl)⟩).s _ _ _ ⟨rfl, .inr (.inr rfl)⟩).s _ _ _ ⟨rfl, .inl rfl⟩
        exact OK1.yes' (by rw [hA]; exact bdb (p1 ok) (by omega)) (by rw [hM]; exact bdb (g1 ⟨h3, ok⟩) (by omega)) (fu.mono (fun a i h => by unfold XA; omega)).c fvB (.inr (.inr ⟨q', fin _ _ fu fv (by rw [wu1 (by omega), wu1 (by omega), wu0]) (by rw [wu1 (by omega), wu0]) (wu0 _ _ _ _) (wu0 _ _ _ _) (by rw [wu1 (by omega), wu0]) h3 ok⟩))
      · exact OK1.no' (by rw [hA]; exact bdb (p2 ok) (by omega)) (by rw [hM]; exact bdb (g2 (fun q => ok q.2)) (by omega)) (((FR.refl (XA s) u).s _ _ _ (.inl ⟨rfl, by omega, by omega⟩)).s _ _ _ (.inl ⟨rfl, by omega, by omega⟩)) fvB
    · exact OK1.no' (by rw [hA]; exact bdb (P_month3 T hx (by rw [h9, show dg = 3 by omega])) (by omega)) (by rw [hM]; exact bdb (g2 (fun q => h3 q.1)) (by omega)) (FR.refl _ _) fvB
  rcases cs with ⟨e, c5, c8, c9, se⟩ | ⟨e, c5, se, val, dg, c8, c9, r14, r13, hv, hd1, hd, h0⟩ | ⟨e, sn, a, val, dg, s5, r21, ha, c5, c8, c9, r14, r13, hv, hd, h0, h00⟩ | ⟨e, c5, se⟩ | ⟨e, c5, -⟩ <;> subst e
  · -- the season begins
    have G := G_306 T' (nI (pg k)) (.inl m1)
    rw [G_sea10 T' hx m1] at G
    have fw : FR XV v (upI (upI (upI v 271 13 (nI 0)) 271 14 (nI 0)) 271 10 (nI 11)) := (((FR.refl XV v).s _ _ _ ⟨rfl, by omega⟩).s _ _ _ ⟨rfl, by omega⟩).s _ _ _ ⟨rfl, by omega⟩
    have Tw := T'.sh (fw.sh (fun a i h => by unfold XV at h; omega))
    by_cases e : pg k = 35
    · rw [if_pos e] at G
      have fu : FR (XU s) u (upI u 23 5 (nI 10)) := (FR.refl (XU s) u).s _ _ _ (.inl ⟨rfl, .inl rfl⟩)
      have fv : FR XV v (upI v 271 10 (nI 13)) := (FR.refl XV v).s _ _ _ ⟨rfl, .inl rfl⟩
      have fu2 : FR (fun a i => a = 23) u (upI u 23 5 (nI 10)) := (FR.refl (fun a i => a = 23) u).s _ _ _ rfl
      have fv2 : FR (fun a i => a = 271 ∧ i = 10) v (upI v 271 10 (nI 13)) := (FR.refl (fun a i => a = 271 ∧ i = 10) v).s _ _ _ ⟨rfl, rfl⟩
      refine OK1.yes' (u' := upI u 23 5 (nI 10)) (v' := upI v 271 10 (nI 13)) ?_ (by rw [G]; exact bdb rfl (by omega)) (fu.mono XU_XA).c (fv.mono XV_XB) (.inr (.inr ⟨13, mk (K.fr hs fu fv (wu0 _ _ _ _)) (.inr (.inr (.inr (.inl ⟨rfl, wu0 _ _ _ _, se.fr fu2 fv2 (fun i hi => by omega) (fun i h1 h2 => by omega)⟩))))⟩))
      rw [A_acc9 T c5, if_pos (show nI (pg k) = (35 : Int32) by rw [e]; rfl)]; exact bdb (A_goes T (nI 10)) (by omega)
    · rw [if_neg e] at G
      have hA : F_Pg_accepts 23 (nI (pg k)) u = ((F_Pg_readsMonth 23 (nI (pg k)) (nI 11) u).bind fun r => gd (r.1 == 0 || r.1 == 1) (some (r.1, r.2))) := by
        rw [A_acc9 T c5, if_neg (show ¬ nI (pg k) = (35 : Int32) from nIne (k := 35) hx (by omega) e)]; rfl
      by_cases ed : 48 ≤ pg k ∧ pg k ≤ 57
      · refine mon 0 0 11 11 _ fw Tw c8 c9 (by simp (disch := omega) only [wu0, wu1]) (by simp (disch := omega) only [wu0, wu1]) (by omega) (by omega) ed hA G ?_
        intro u' v' fu fv a1 a2 a3 a4 a5 a6 a7
        have fv' : FR XV v v' := fw.trans (fv.mono (fun a i h => by unfold XV; omega))
        refine mk (K.fr hs (fu.mono (fun a i h => by unfold XU; omega)) fv' (by rw [fv.i (by omega), wu0])) (.inr (.inl ⟨rfl, a3, ?_, _, _, a1, a2, a4, a5, a7.1, by omega, by omega, fun e0 => ?_⟩))
        · have fw2 : FR (fun a i => a = 271 ∧ i ≤ 14) v v' := ((((FR.refl (fun a i => a = 271 ∧ i ≤ 14) v).s _ _ _ ⟨rfl, by omega⟩).s _ _ _ ⟨rfl, by omega⟩).s _ _ _ ⟨rfl, by omega⟩).trans (fv.mono (fun a i h => by omega))
          exact se.fr fu fw2 (fun i hi => by omega) (fun i h1 h2 => by omega)
        · omega
      · exact OK1.no' (by rw [hA]; exact bdb (P_month0 hx ed) (by omega)) (by rw [G]; exact bdb (G_83z Tw hx ed (by simp (disch := omega) only [wu0, wu1])) (by omega)) (FR.refl _ _) (fw.mono XV_XB)
  · -- the first month
    have G := G_306 T' (nI (pg k)) (.inr (.inl m1))
    rw [G_sea12 T' ⟨.inl rfl, m1⟩] at G
    by_cases e : pg k = 45
    · obtain ⟨p1, p2⟩ := P_mdash T hs c1 c8 hv
      obtain ⟨g1, g2⟩ := G_83m T' m1 r13 r14 ⟨hd1, hd⟩ hv
      have hA : F_Pg_accepts 23 (nI (pg k)) u = ((F_Pg_readsMonthDash 23 u).bind fun r => gd (r.1 == 0 || r.1 == 1) (some (r.1, r.2))) := by
        rw [A_acc11 T c5, if_pos (show nI (pg k) = (45 : Int32) by rw [e]; rfl)]
      rw [e] at G
      have hM : F_M_goOn 271 (nI (pg k)) v = ((F_M_goOnSeason_83 271 (nI 45) v).bind fun r => gd (r.1 == 0 || r.1 == 1) (some (r.1, r.2))) := by rw [e]; exact G
      by_cases hv0 : 0 < val
      · have fu : FR (XU s) u (upI (upI (upI (upI u s 5 (nI val)) 23 8 (nI 0)) 23 9 (nI 0)) 23 5 (nI 12)) := ((((FR.refl (XU s) u).s _ _ _ (.inr ⟨rfl, by omega⟩)).s _ _ _ (.inl ⟨rfl, by omega⟩)).s _ _ _ (.inl ⟨rfl, by omega⟩)).s _ _ _ (.inl ⟨rfl, by omega⟩)
        have fv : FR XV v (upI (upI (upI (upI v 271 21 (nI val)) 271 13 (nI 0)) 271 14 (nI 0)) 271 10 (nI 12)) := ((((FR.refl XV v).s _ _ _ ⟨rfl, by omega⟩).s _ _ _ ⟨rfl, by omega⟩).s _ _ _ ⟨rfl, by omega⟩).s _ _ _ ⟨rfl, by omega⟩
        obtain ⟨s1, s2, s3, s4, s5, s6⟩ := se
        refine OK1.yes' (by rw [hA]; exact bdb (p1 hv0) (by omega)) (by rw [hM]; exact bdb (g1 hv0) (by omega)) (fu.mono XU_XA).c (fv.mono XV_XB) (.inr (.inr ⟨12, mk (K.fr hs fu fv (wu0 _ _ _ _)) (.inr (.inr (.inl ⟨rfl, ⟨?_, ?_, ?_, ?_⟩, val, 0, 0, ?_, ?_, by omega, ?_, ?_, ?_, ?_, ?_, by omega, by omega, by omega, fun _ => rfl⟩)))⟩))
        · simp (disch := omega) only [wu1]; exact s2
        · simp (disch := omega) only [wu1]; exact s3
        · simp (disch := omega) only [wu1]; exact s5
        · simp (disch := omega) only [wu1]; exact s6
        · simp (disch := omega) only [wu0, wu1]
        · simp (disch := omega) only [wu0, wu1]
        · rw [wu0, if_pos rfl]
        · simp (disch := omega) only [wu0, wu1]
        · simp (disch := omega) only [wu0, wu1]
        · simp (disch := omega) only [wu0, wu1]
        · simp (disch := omega) only [wu0, wu1]
      · have hv1 : val = 0 := by omega
        exact OK1.no' (by rw [hA]; exact bdb (p2 hv1) (by omega)) (by rw [hM]; exact bdb (g2 hv1) (by omega)) ((((FR.refl (XA s) u).s _ _ _ (.inr (.inr ⟨by omega, by omega⟩))).s _ _ _ (.inl ⟨rfl, by omega, by omega⟩)).s _ _ _ (.inl ⟨rfl, by omega, by omega⟩)) (FR.refl _ _)
    · have hA : F_Pg_accepts 23 (nI (pg k)) u = ((F_Pg_readsMonth 23 (nI (pg k)) (nI 11) u).bind fun r => gd (r.1 == 0 || r.1 == 1) (some (r.1, r.2))) := by
        rw [A_acc11 T c5, if_neg (show ¬ nI (pg k) = (45 : Int32) from nIne (k := 45) hx (by omega) e)]; rfl
      by_cases ed : 48 ≤ pg k ∧ pg k ≤ 57
      · refine mon val dg 11 11 v (FR.refl _ _) T' c8 c9 r14 r13 hv hd ed hA G ?_
        intro u' v' fu fv a1 a2 a3 a4 a5 a6 a7
        refine mk (K.fr hs (fu.mono (fun a i h => by unfold XU; omega)) (fv.mono (fun a i h => by unfold XV; omega)) ((fv.i (by omega)).trans m1)) (.inr (.inl ⟨rfl, a3, se.fr fu fv (fun i hi => by omega) (fun i h1 h2 => by omega), _, _, a1, a2, a4, a5, a7.1, by omega, by omega, fun e0 => ?_⟩))
        have := a7.2; omega
      · exact OK1.no' (by rw [hA]; exact bdb (P_month0 hx ed) (by omega)) (by rw [G]; exact bdb (G_83n T' hx ed (.inr e)) (by omega)) (FR.refl _ _) (FR.refl _ _)
  · -- the last month
    have G := G_306 T' (nI (pg k)) (.inr (.inr (.inl m1)))
    rw [G_sea12 T' ⟨.inr rfl, m1⟩] at G
    have hA : F_Pg_accepts 23 (nI (pg k)) u = ((F_Pg_readsMonth 23 (nI (pg k)) (nI 13) u).bind fun r => gd (r.1 == 0 || r.1 == 1) (some (r.1, r.2))) := by
      by_cases e0 : dg = 0
      · rw [if_pos e0] at c5
        rw [A_acc12 T c5]; unfold F_Pg_accepts_190; simp only [t23 T, gd_true, beq_self_eq_true]; rfl
      · rw [if_neg e0] at c5
        rw [A_acc13 T c5]; unfold F_Pg_accepts_190; simp only [t23 T, gd_true, beq_self_eq_true]; rfl
    by_cases ed : 48 ≤ pg k ∧ pg k ≤ 57
    · refine mon val dg 13 12 v (FR.refl _ _) T' c8 c9 r14 r13 hv hd ed hA G ?_
      intro u' v' fu fv a1 a2 a3 a4 a5 a6 a7
      refine mk (K.fr hs (fu.mono (fun a i h => by unfold XU; omega)) (fv.mono (fun a i h => by unfold XV; omega)) ((fv.i (by omega)).trans m1)) (.inr (.inr (.inl ⟨rfl, ⟨(fu.i (by omega)).trans sn.1, (fu.i (by omega)).trans sn.2.1, (fv.i (by omega)).trans sn.2.2.1, (fv.i (by omega)).trans sn.2.2.2⟩, a, _, _, (fu.i (by omega)).trans s5, (fv.i (by omega)).trans r21, ha, by rw [if_neg (by omega)]; exact a3, a1, a2, a4, a5, a7.1, by omega, fun e0 => ?_, fun e0 => by omega⟩)))
      have := a7.2; omega
    · exact OK1.no' (by rw [hA]; exact bdb (P_month0 hx ed) (by omega)) (by rw [G]; exact bdb (G_83n T' hx ed (.inl (by rw [m1]; exact nIne (by omega) (by omega) (by omega)))) (by omega)) (FR.refl _ _) (FR.refl _ _)
  · -- a saint
    have G := G_306 T' (nI (pg k)) (.inr (.inr (.inr m1)))
    rw [G_sea13 T' hx m1] at G
    have P := P_saint T hs c1 hx
    have hA : F_Pg_accepts 23 (nI (pg k)) u = ((F_Pg_readsSaint 23 (nI (pg k)) u).bind fun r => gd (r.1 == 0 || r.1 == 1) (some (r.1, r.2))) := by
      rw [A_acc10 T c5]
    have fv : FR XV v (upI (upI v 271 23 (nI (pg k) - nI 48)) 271 10 (nI 14)) := ((FR.refl XV v).s _ _ _ ⟨rfl, by omega⟩).s _ _ _ ⟨rfl, by omega⟩
    by_cases ed : 48 ≤ pg k ∧ pg k ≤ 55
    · rw [if_pos ed] at G P
      have fu : FR (XU s) u (upI (upI u s 7 (nI (pg k) - nI 48)) 23 5 (nI 14)) := ((FR.refl (XU s) u).s _ _ _ (.inr ⟨rfl, by omega⟩)).s _ _ _ (.inl ⟨rfl, by omega⟩)
      obtain ⟨s1, s2, s3, s4, s5, s6⟩ := se
      refine OK1.yes' (by rw [hA]; exact bdb P (by omega)) (by rw [G]; exact bdb rfl (by omega)) (fu.mono XU_XA).c (fv.mono XV_XB) (.inr (.inr ⟨14, mk (K.fr hs fu fv (wu0 _ _ _ _)) (.inr (.inr (.inr (.inr ⟨rfl, wu0 _ _ _ _, ⟨?_, ?_, ?_, ?_⟩, pg k - 48, ?_, ?_, by omega⟩))))⟩))
      · simp (disch := omega) only [wu1]; exact s1
      · simp (disch := omega) only [wu1]; exact s2
      · simp (disch := omega) only [wu1]; exact s4
      · simp (disch := omega) only [wu1]; exact s5
      · rw [wu1 (by omega), wu0, q_sub (by omega)]
      · rw [wu1 (by omega), wu0, q_sub (by omega)]
    · rw [if_neg ed] at G P
      exact OK1.no' (by rw [hA]; exact bdb P (by omega)) (by rw [G]; exact bdb rfl (by omega)) ((FR.refl (XA s) u).s _ _ _ (.inr (.inr ⟨by omega, by omega⟩))) (fv.mono XV_XB)
  · exact OK1.no' (A_acc14 T c5 _) (M_go14 T' m1 _) (FR.refl _ _) (FR.refl _ _)
end
