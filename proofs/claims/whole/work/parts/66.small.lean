/-! PURE: asks, forget, blank, count, entry, list -/
theorem Sa_answer {L : Nat} {xs : Nat → Int32} {S : Nat → Nat → Int32} {w : AW} (T : Top L xs w) {s k m : Nat} (hs : s ∈ STab) (K : SyK S w k s) (b : S 13 (12 * k + 4) = nI 0 ∨ S 13 (12 * k + 4) = nI 1) (hm : m < 12) : F_Sa_answer w s (nI m) = some (S 13 (12 * k + m)) := by
  have ty := tY T hs
  have h : m = 0 ∨ m = 1 ∨ m = 2 ∨ m = 3 ∨ m = 4 ∨ m = 5 ∨ m = 6 ∨ m = 7 ∨ m = 8 ∨ m = 9 ∨ m = 10 ∨ m = 11 := by omega
  obtain ⟨-, -, k0, k1, k2, k3, k4, k5, k6, k7, k8, k9, k10, k11⟩ := K
  unfold F_Sa_answer
  rcases h with e | e | e | e | e | e | e | e | e | e | e | e <;> subst e
  · rw [if_neg (by decide +kernel), if_pos (by decide +kernel)]
    simp only [ty.1, ty.2.1, ty.2.2.1, ty.2.2.2.1.1, ty.2.2.2.2.1, k0, Nat.add_zero, gd_true, beq_self_eq_true, bd_s, if_true, if_false, ↓reduceIte, ite_true, ite_false, Bool.and_self, Bool.and_true, Bool.true_and, Nat.reduceBEq, Bool.or_true, Bool.true_or, Bool.or_self]
  · rw [if_neg (by decide +kernel), if_neg (by decide +kernel), if_pos (by decide +kernel)]
    simp only [ty.1, ty.2.1, ty.2.2.1, ty.2.2.2.1.1, ty.2.2.2.2.1, k1, Nat.add_zero, gd_true, beq_self_eq_true, bd_s, if_true, if_false, ↓reduceIte, ite_true, ite_false, Bool.and_self, Bool.and_true, Bool.true_and, Nat.reduceBEq, Bool.or_true, Bool.true_or, Bool.or_self]
  · rw [if_neg (by decide +kernel), if_neg (by decide +kernel), if_neg (by decide +kernel), if_pos (by decide +kernel)]
    simp only [ty.1, ty.2.1, ty.2.2.1, ty.2.2.2.1.1, ty.2.2.2.2.1, k2, Nat.add_zero, gd_true, beq_self_eq_true, bd_s, if_true, if_false, ↓reduceIte, ite_true, ite_false, Bool.and_self, Bool.and_true, Bool.true_and, Nat.reduceBEq, Bool.or_true, Bool.true_or, Bool.or_self]
  · rw [if_neg (by decide +kernel), if_neg (by decide +kernel), if_neg (by decide +kernel), if_neg (by decide +kernel), if_pos (by decide +kernel)]
    simp only [ty.1, ty.2.1, ty.2.2.1, ty.2.2.2.1.1, ty.2.2.2.2.1, k3, Nat.add_zero, gd_true, beq_self_eq_true, bd_s, if_true, if_false, ↓reduceIte, ite_true, ite_false, Bool.and_self, Bool.and_true, Bool.true_and, Nat.reduceBEq, Bool.or_true, Bool.true_or, Bool.or_self]
  · rw [if_neg (by decide +kernel), if_neg (by decide +kernel), if_neg (by decide +kernel), if_neg (by decide +kernel), if_neg (by decide +kernel), if_pos (by decide +kernel)]
    simp only [qL, ↓qM, ty.1, k4, gd_true, beq_self_eq_true, bd_s, if_true, if_false, ↓reduceIte, ite_true, ite_false, Bool.and_self, Bool.and_true, Bool.true_and, Nat.reduceBEq, Bool.or_true, Bool.true_or, Bool.or_self]
    rcases b with b | b
    · rw [b, if_pos rfl]
    · rw [b, if_neg (show ¬ nI 1 = nI 0 by decide +kernel)]
  · rw [if_neg (by decide +kernel), if_neg (by decide +kernel), if_neg (by decide +kernel), if_neg (by decide +kernel), if_neg (by decide +kernel), if_neg (by decide +kernel), if_pos (by decide +kernel)]
    simp only [ty.1, ty.2.1, ty.2.2.1, ty.2.2.2.1.1, ty.2.2.2.2.1, k5, Nat.add_zero, gd_true, beq_self_eq_true, bd_s, if_true, if_false, ↓reduceIte, ite_true, ite_false, Bool.and_self, Bool.and_true, Bool.true_and, Nat.reduceBEq, Bool.or_true, Bool.true_or, Bool.or_self]
  · rw [if_neg (by decide +kernel), if_neg (by decide +kernel), if_neg (by decide +kernel), if_neg (by decide +kernel), if_neg (by decide +kernel), if_neg (by decide +kernel), if_neg (by decide +kernel), if_pos (by decide +kernel)]
    simp only [ty.1, ty.2.1, ty.2.2.1, ty.2.2.2.1.1, ty.2.2.2.2.1, k6, Nat.add_zero, gd_true, beq_self_eq_true, bd_s, if_true, if_false, ↓reduceIte, ite_true, ite_false, Bool.and_self, Bool.and_true, Bool.true_and, Nat.reduceBEq, Bool.or_true, Bool.true_or, Bool.or_self]
  · rw [if_neg (by decide +kernel), if_neg (by decide +kernel), if_neg (by decide +kernel), if_neg (by decide +kernel), if_neg (by decide +kernel), if_neg (by decide +kernel), if_neg (by decide +kernel), if_neg (by decide +kernel), if_pos (by decide +kernel)]
    simp only [ty.1, ty.2.1, ty.2.2.1, ty.2.2.2.1.1, ty.2.2.2.2.1, k7, Nat.add_zero, gd_true, beq_self_eq_true, bd_s, if_true, if_false, ↓reduceIte, ite_true, ite_false, Bool.and_self, Bool.and_true, Bool.true_and, Nat.reduceBEq, Bool.or_true, Bool.true_or, Bool.or_self]
  · rw [if_neg (by decide +kernel), if_neg (by decide +kernel), if_neg (by decide +kernel), if_neg (by decide +kernel), if_neg (by decide +kernel), if_neg (by decide +kernel), if_neg (by decide +kernel), if_neg (by decide +kernel), if_neg (by decide +kernel), if_pos (by decide +kernel)]
    simp only [ty.1, ty.2.1, ty.2.2.1, ty.2.2.2.1.1, ty.2.2.2.2.1, k8, Nat.add_zero, gd_true, beq_self_eq_true, bd_s, if_true, if_false, ↓reduceIte, ite_true, ite_false, Bool.and_self, Bool.and_true, Bool.true_and, Nat.reduceBEq, Bool.or_true, Bool.true_or, Bool.or_self]
  · rw [if_neg (by decide +kernel), if_neg (by decide +kernel), if_neg (by decide +kernel), if_neg (by decide +kernel), if_neg (by decide +kernel), if_neg (by decide +kernel), if_neg (by decide +kernel), if_neg (by decide +kernel), if_neg (by decide +kernel), if_neg (by decide +kernel), if_pos (by decide +kernel)]
    simp only [ty.1, ty.2.1, ty.2.2.1, ty.2.2.2.1.1, ty.2.2.2.2.1, k9, Nat.add_zero, gd_true, beq_self_eq_true, bd_s, if_true, if_false, ↓reduceIte, ite_true, ite_false, Bool.and_self, Bool.and_true, Bool.true_and, Nat.reduceBEq, Bool.or_true, Bool.true_or, Bool.or_self]
  · rw [if_neg (by decide +kernel), if_neg (by decide +kernel), if_neg (by decide +kernel), if_neg (by decide +kernel), if_neg (by decide +kernel), if_neg (by decide +kernel), if_neg (by decide +kernel), if_neg (by decide +kernel), if_neg (by decide +kernel), if_neg (by decide +kernel), if_neg (by decide +kernel), if_pos (by decide +kernel)]
    simp only [ty.1, ty.2.1, ty.2.2.1, ty.2.2.2.1.1, ty.2.2.2.2.1, k10, Nat.add_zero, gd_true, beq_self_eq_true, bd_s, if_true, if_false, ↓reduceIte, ite_true, ite_false, Bool.and_self, Bool.and_true, Bool.true_and, Nat.reduceBEq, Bool.or_true, Bool.true_or, Bool.or_self]
  · rw [if_neg (by decide +kernel), if_neg (by decide +kernel), if_neg (by decide +kernel), if_neg (by decide +kernel), if_neg (by decide +kernel), if_neg (by decide +kernel), if_neg (by decide +kernel), if_neg (by decide +kernel), if_neg (by decide +kernel), if_neg (by decide +kernel), if_neg (by decide +kernel), if_neg (by decide +kernel), if_pos (by decide +kernel)]
    simp only [ty.1, ty.2.1, ty.2.2.1, ty.2.2.2.1.1, ty.2.2.2.2.1, k11, Nat.add_zero, gd_true, beq_self_eq_true, bd_s, if_true, if_false, ↓reduceIte, ite_true, ite_false, Bool.and_self, Bool.and_true, Bool.true_and, Nat.reduceBEq, Bool.or_true, Bool.true_or, Bool.or_self]
theorem S_asks {L : Nat} {xs : Nat → Int32} {S : Nat → Nat → Int32} {w : AW} (I : Inv L xs S w) (x1 x2 : Int32) : ∃ r, F_A_asks w 16 x1 x2 = some r ∧ F_M_asks w 271 x1 x2 = some r := by
  have T := I.1
  have Is := I.2.2.1.2.2.2.2.1
  have As := I.2.2.2.2.2.2.1
  unfold F_A_asks F_M_asks
  simp only [qL, ↓qM, t16 T, mK T, A_sayingOf T Is As, M_isSaying T I.2.1 Is, q_b0, M_wi, qLJ, gd_true, beq_self_eq_true, bd_s, if_true, if_false, ↓reduceIte, ite_true, ite_false, Bool.and_self, Bool.and_true, Bool.true_and, Nat.reduceBEq, Bool.or_true, Bool.true_or, Bool.or_self]
  by_cases h1 : 0 ≤ x1.toInt ∧ x1.toInt < nS S
  · have h8 := Is.2.1
    obtain ⟨k, rfl, hk⟩ := q_of h1.1 (n := 7) (by omega) (by omega)
    rw [q_int (by omega)] at h1
    have hk2 : k < nS S := by omega
    have hS := I.say hk2
    have ty := tY T hS.1
    rw [q_int (by omega), if_pos h1, decide_eq_true h1, nat_nI (by omega), if_neg hS.2, if_neg (by simp)]
    by_cases h2 : 0 ≤ x2.toInt ∧ x2.toInt ≤ 11
    · obtain ⟨m, rfl, hm⟩ := q_of h2.1 (n := 11) h2.2 (by omega)
      refine ⟨S 13 (12 * k + m), ?_, ?_⟩
      · simp only [ty.1, Sa_answer T hS.1 (As.2 k hk2) (I.k8 hk2).2.2.2.2.1 (show m < 12 by omega), gd_true, beq_self_eq_true, bd_s, if_true, if_false, ↓reduceIte, ite_true, ite_false, Bool.and_self, Bool.and_true, Bool.true_and, Nat.reduceBEq, Bool.or_true, Bool.true_or, Bool.or_self]
      · rw [if_neg (not_not_intro h2)]
        simp (disch := omega) only [mSay T, pk_mul, nI_add, q_inb, q_nat, ra13 I.2.1, gd_true, beq_self_eq_true, bd_s, if_true, if_false, ↓reduceIte, ite_true, ite_false, Bool.and_self, Bool.and_true, Bool.true_and, Nat.reduceBEq, Bool.or_true, Bool.true_or, Bool.or_self]
    · refine ⟨mI 102, ?_, ?_⟩
      · simp only [ty.1, gd_true, beq_self_eq_true, bd_s, if_true, if_false, ↓reduceIte, ite_true, ite_false, Bool.and_self, Bool.and_true, Bool.true_and, Nat.reduceBEq, Bool.or_true, Bool.true_or, Bool.or_self]
        unfold F_Sa_answer
        rw [if_pos (by omega)]; simp only [qL, ↓qM, gd_true, beq_self_eq_true, bd_s, if_true, if_false, ↓reduceIte, ite_true, ite_false, Bool.and_self, Bool.and_true, Bool.true_and, Nat.reduceBEq, Bool.or_true, Bool.true_or, Bool.or_self]
      · rw [if_pos h2]
  · rw [if_neg h1, decide_eq_false h1]
    exact ⟨mI 101, by rw [if_pos rfl], by rw [if_pos rfl]⟩
/-- the state with one field anew -/
theorem S_forget {L : Nat} {xs : Nat → Int32} {S : Nat → Nat → Int32} {w : AW} (I : Inv L xs S w) : STEP L xs w (F_A_forget 16) (F_M_forget 271) := by
  have T := I.1
  have s1 : Sh w (upI w 16 4 (nI 0)) := Sh.upI w _ _ (by omega)
  have T1 := T.sh s1
  have ne : ∀ a i, ¬ (a = 16) → wi (upI w 16 4 (nI 0)) a i = wi w a i := fun a i h => by rw [wi_upI, if_neg (fun e => h e.1)]
  obtain ⟨a1, a2, a3, a4, a5, a6, a7⟩ := I.2.2.2
  have e29 : uS S 0 29 (nI 0) 0 29 = nI 0 := uS_eq
  have hn : nS (uS S 0 29 (nI 0)) = 0 := by unfold nS; rw [e29]; rfl
  have R1 : RA S (upI w 16 4 (nI 0)) := by
    unfold RA
    rw [RS_eq (w := w) (fun a i h => ne a i (by omega))]
    exact I.2.1
  refine ⟨S 0 29, _, _, uS S 0 29 (nI 0), ?_, T1, ?_, Inv.mq T1 ?_ ?_ (AF.upI (a := 271) _ 29 (nI 0) (by omega)) (R1.upK 29 (nI 0) (by decide))⟩
  · unfold F_A_forget
    simp only [qL, ↓qM, t16 T, a4.1, gd_true, beq_self_eq_true, bd_s, if_true, if_false, ↓reduceIte, ite_true, ite_false, Bool.and_self, Bool.and_true, Bool.true_and, Nat.reduceBEq, Bool.or_true, Bool.true_or, Bool.or_self]
  · unfold F_M_forget
    simp only [qL, ↓qM, mK T1, rf29 R1, gd_true, beq_self_eq_true, bd_s, if_true, if_false, ↓reduceIte, ite_true, ite_false, Bool.and_self, Bool.and_true, Bool.true_and, Nat.reduceBEq, Bool.or_true, Bool.true_or, Bool.or_self]
  · have i := I.2.2.1
    refine ⟨IMf_S (uS_nei (.inr (by omega))) i.1, IMs_S (uS_ne (by omega)) (uS_ne (by omega)) (uS_ne (by omega)) (uS_ne (by omega)) i.2.1, IMd_S (uS_ne (by omega)) i.2.2.1, IMpg_S (uS_nei (.inr (by omega))) (uS_ne (by omega)) i.2.2.2.1, ?_, IMle_S (uS_nei (.inr (by omega))) (uS_nei (.inr (by omega))) (uS_nei (.inr (by omega))) (uS_ne (by omega)) i.2.2.2.2.2⟩
    unfold IMsy
    rw [hn, e29]
    exact ⟨rfl, by omega, fun k hk => by omega⟩
  · refine ⟨CalA_S (uS_nei (.inr (by omega))) (uS_ne (by omega)) (uS_ne (by omega)) (uS_ne (by omega)) (uS_ne (by omega)) (CalA_w (fun a i h1 h2 => ne a i (by omega)) a1), DiaA_S (uS_ne (by omega)) (DiaA_w (fun a i h1 h2 => ne a i (by omega)) a2), PgA_S (uS_nei (.inr (by omega))) (uS_ne (by omega)) (PgA_w (ne 23 0 (by omega)) (fun i => ne 24 i (by omega)) a3), ?_, LeA_S (uS_nei (.inr (by omega))) (uS_nei (.inr (by omega))) (uS_ne (by omega)) (uS_ne (by omega)) (LeA_w (fun a i h => ne a i (by omega)) a5), AlA_S (uS_ne (by omega)) (uS_ne (by omega)) (AlA_w (fun a i h1 h2 => ne a i (by omega)) (fun a n h1 h2 => gD_j (fun _ _ => rfl) a n) a6), WFs_j (w := w) (fun _ _ => rfl) a7⟩
    unfold SyA
    rw [hn, e29, wi_upI, if_pos ⟨rfl, rfl⟩]
    exact ⟨rfl, fun k hk => by omega⟩
theorem S_blank {L : Nat} {xs : Nat → Int32} {S : Nat → Nat → Int32} {w : AW} (I : Inv L xs S w) : STEP L xs w (F_A_blank 16) (F_M_blank 271) := by
  have T := I.1
  have s1 : Sh w (upI w 23 0 (nI 0)) := Sh.upI w _ _ (by omega)
  have T1 := T.sh s1
  have ne : ∀ a i, ¬ (a = 23) → wi (upI w 23 0 (nI 0)) a i = wi w a i := fun a i h => by rw [wi_upI, if_neg (fun e => h e.1)]
  obtain ⟨a1, a2, a3, a4, a5, a6, a7⟩ := I.2.2.2
  have e9 : uS S 0 9 (nI 0) 0 9 = nI 0 := uS_eq
  have hn : nP (uS S 0 9 (nI 0)) = 0 := by unfold nP; rw [e9]; rfl
  have R1 : RA S (upI w 23 0 (nI 0)) := by
    unfold RA
    rw [RS_eq (w := w) (fun a i h => ne a i (by omega))]
    exact I.2.1
  refine ⟨S 0 9, _, _, uS S 0 9 (nI 0), ?_, T1, ?_, Inv.mq T1 ?_ ?_ (AF.upI (a := 271) _ 9 (nI 0) (by omega)) (R1.upK 9 (nI 0) (by decide))⟩
  · unfold F_A_blank
    simp only [qL, ↓qM, t16 T, t23 T, a3.1, gd_true, beq_self_eq_true, bd_s, if_true, if_false, ↓reduceIte, ite_true, ite_false, Bool.and_self, Bool.and_true, Bool.true_and, Nat.reduceBEq, Bool.or_true, Bool.true_or, Bool.or_self]
  · unfold F_M_blank
    simp only [qL, ↓qM, mK T1, rf9 R1, gd_true, beq_self_eq_true, bd_s, if_true, if_false, ↓reduceIte, ite_true, ite_false, Bool.and_self, Bool.and_true, Bool.true_and, Nat.reduceBEq, Bool.or_true, Bool.true_or, Bool.or_self]
  · have i := I.2.2.1
    refine ⟨IMf_S (uS_nei (.inr (by omega))) i.1, IMs_S (uS_ne (by omega)) (uS_ne (by omega)) (uS_ne (by omega)) (uS_ne (by omega)) i.2.1, IMd_S (uS_ne (by omega)) i.2.2.1, ?_, IMsy_S (uS_nei (.inr (by omega))) (uS_ne (by omega)) (uS_ne (by omega)) (uS_ne (by omega)) (uS_ne (by omega)) i.2.2.2.2.1, IMle_S (uS_nei (.inr (by omega))) (uS_nei (.inr (by omega))) (uS_nei (.inr (by omega))) (uS_ne (by omega)) i.2.2.2.2.2⟩
    unfold IMpg
    rw [hn, e9]
    exact ⟨rfl, by omega, fun k hk => by omega⟩
  · refine ⟨CalA_S (uS_nei (.inr (by omega))) (uS_ne (by omega)) (uS_ne (by omega)) (uS_ne (by omega)) (uS_ne (by omega)) (CalA_w (fun a i h1 h2 => ne a i (by omega)) a1), DiaA_S (uS_ne (by omega)) (DiaA_w (fun a i h1 h2 => ne a i (by omega)) a2), ?_, SyA_S (uS_nei (.inr (by omega))) (uS_ne (by omega)) (uS_ne (by omega)) (uS_ne (by omega)) (uS_ne (by omega)) (SyA_w (ne 16 4 (by omega)) (fun _ _ => rfl) (fun k hk a i h1 h2 => ne a i (by have := I.sr hk; omega)) a4), LeA_S (uS_nei (.inr (by omega))) (uS_nei (.inr (by omega))) (uS_ne (by omega)) (uS_ne (by omega)) (LeA_w (fun a i h => ne a i (by omega)) a5), AlA_S (uS_ne (by omega)) (uS_ne (by omega)) (AlA_w (fun a i h1 h2 => ne a i (by omega)) (fun a n h1 h2 => gD_j (fun _ _ => rfl) a n) a6), WFs_j (w := w) (fun _ _ => rfl) a7⟩
    unfold PgA
    rw [hn, e9, wi_upI, if_pos ⟨rfl, rfl⟩]
    exact ⟨rfl, fun k hk => by omega⟩
theorem S_count {L : Nat} {xs : Nat → Int32} {S : Nat → Nat → Int32} {w : AW} (I : Inv L xs S w) (x : Int32) : ∃ r, F_A_count w 16 x = some r ∧ F_M_count w 271 x = some r := by
  have T := I.1
  have R := I.2.1
  obtain ⟨a1, a2, a3, a4, a5, a6, a7⟩ := I.2.2.2
  unfold F_A_count F_M_count
  simp only [qL, ↓qM, t16 T, t17 T, t23 T, t136 T, mK T, a4.1, a3.1, a1.1, a5.1, rf29 R, rf9 R, rf0 R, rf40 R, gd_true, beq_self_eq_true, bd_s, if_true, if_false, ↓reduceIte, ite_true, ite_false, Bool.and_self, Bool.and_true, Bool.true_and, Nat.reduceBEq, Bool.or_true, Bool.true_or, Bool.or_self]
  by_cases h : 0 ≤ x.toInt ∧ x.toInt ≤ 3
  · obtain ⟨m, rfl, hm⟩ := q_of h.1 (n := 3) h.2 (by omega)
    rw [if_neg (by omega)]
    have : m = 0 ∨ m = 1 ∨ m = 2 ∨ m = 3 := by omega
    rcases this with e | e | e | e <;> subst e
    · rw [if_pos rfl, if_pos rfl]; exact ⟨_, rfl, rfl⟩
    · rw [if_neg (show ¬ nI 1 = nI 0 by decide +kernel), if_pos rfl, if_neg (show ¬ nI 1 = nI 0 by decide +kernel), if_pos rfl]; exact ⟨_, rfl, rfl⟩
    · rw [if_neg (show ¬ nI 2 = nI 0 by decide +kernel), if_neg (show ¬ nI 2 = nI 1 by decide +kernel), if_pos rfl, if_neg (show ¬ nI 2 = nI 0 by decide +kernel), if_neg (show ¬ nI 2 = nI 1 by decide +kernel), if_pos rfl]; exact ⟨_, rfl, rfl⟩
    · rw [if_neg (show ¬ nI 3 = nI 0 by decide +kernel), if_neg (show ¬ nI 3 = nI 1 by decide +kernel), if_neg (show ¬ nI 3 = nI 2 by decide +kernel), if_pos rfl, if_neg (show ¬ nI 3 = nI 0 by decide +kernel), if_neg (show ¬ nI 3 = nI 1 by decide +kernel), if_neg (show ¬ nI 3 = nI 2 by decide +kernel), if_pos rfl]; exact ⟨_, rfl, rfl⟩
  · have ne : ∀ m, m ≤ 3 → ¬ x = nI m := fun m hm e => h (by rw [e, q_int (by omega)]; omega)
    rw [if_pos (by omega), if_neg (ne 0 (by omega)), if_neg (ne 1 (by omega)), if_neg (ne 2 (by omega)), if_neg (ne 3 (by omega))]
    exact ⟨_, rfl, rfl⟩
theorem S_list {L : Nat} {xs : Nat → Int32} {S : Nat → Nat → Int32} {w : AW} (I : Inv L xs S w) (x : Int32) : ∃ r, F_A_list w 16 x = some r ∧ F_M_list w 271 x = some r := by
  have T := I.1
  have R := I.2.1
  obtain ⟨l1, l2, l3, l4, l5, l6, l7⟩ := I.2.2.1.2.2.2.2.2
  obtain ⟨e1, e2, e3, -⟩ := I.2.2.2.2.2.2.2.1
  unfold F_A_list F_M_list F_Le_answer
  simp only [qL, ↓qM, t16 T, t136 T, mK T, rf41 R, e1, e2, A_wi, M_wi, qLJ, gd_true, beq_self_eq_true, bd_s, if_true, if_false, ↓reduceIte, ite_true, ite_false, Bool.and_self, Bool.and_true, Bool.true_and, Nat.reduceBEq, Bool.or_true, Bool.true_or, Bool.or_self]
  by_cases h : 0 ≤ x.toInt ∧ x.toInt ≤ 5
  · obtain ⟨m, rfl, hm⟩ := q_of h.1 (n := 5) h.2 (by omega)
    rw [if_neg (show ¬ ¬ ((nI 0).toInt ≤ (nI m).toInt ∧ (nI m).toInt ≤ (nI 5).toInt) by rw [q_int (by omega), q_int (by omega), q_int (by omega)]; omega), if_neg (not_not_intro h)]
    by_cases h0 : nat (S 0 40) = 0
    · rw [l5, if_pos h0, if_pos (show S 0 40 = nI 0 by rw [l1, h0]), if_pos rfl]
      exact ⟨_, rfl, rfl⟩
    · have hne : ¬ S 0 40 = nI 0 := fun q => h0 (by rw [q]; rfl)
      obtain ⟨f12, f13, f1, f14, f15⟩ := e3 h0
      rw [l5, if_neg h0, if_neg hne, if_neg (show ¬ nI 1 = nI 0 by decide +kernel)]
      obtain ⟨l8, l9⟩ := l7 h0
      simp (disch := omega) only [mLrn T, q_inb, q_nat, ra26 R, f12, f13, f1, f14, f15, ← l8, gd_true, beq_self_eq_true, bd_s, if_true, if_false, ↓reduceIte, ite_true, ite_false, Bool.and_self, Bool.and_true, Bool.true_and, Nat.reduceBEq, Bool.or_true, Bool.true_or, Bool.or_self]
      have : m = 0 ∨ m = 1 ∨ m = 2 ∨ m = 3 ∨ m = 4 ∨ m = 5 := by omega
      rcases this with e | e | e | e | e | e <;> subst e
      · rw [if_neg (by decide +kernel), if_pos rfl]
        rcases l9 with z | z <;> rw [z]
        · rw [if_pos rfl]; exact ⟨_, rfl, rfl⟩
        · rw [if_neg (show ¬ nI 1 = nI 0 by decide +kernel)]; exact ⟨_, rfl, rfl⟩
      · rw [if_neg (by decide +kernel), if_neg (show ¬ nI 1 = nI 0 by decide +kernel), if_pos rfl]; exact ⟨_, rfl, rfl⟩
      · rw [if_neg (by decide +kernel), if_neg (show ¬ nI 2 = nI 0 by decide +kernel), if_neg (show ¬ nI 2 = nI 1 by decide +kernel), if_pos rfl]; exact ⟨_, rfl, rfl⟩
      · rw [if_neg (by decide +kernel), if_neg (show ¬ nI 3 = nI 0 by decide +kernel), if_neg (show ¬ nI 3 = nI 1 by decide +kernel), if_neg (show ¬ nI 3 = nI 2 by decide +kernel), if_pos rfl]; exact ⟨_, rfl, rfl⟩
      · rw [if_neg (by decide +kernel), if_neg (show ¬ nI 4 = nI 0 by decide +kernel), if_neg (show ¬ nI 4 = nI 1 by decide +kernel), if_neg (show ¬ nI 4 = nI 2 by decide +kernel), if_neg (show ¬ nI 4 = nI 3 by decide +kernel), if_pos rfl]; exact ⟨_, rfl, rfl⟩
      · rw [if_pos (by decide +kernel)]; exact ⟨_, rfl, rfl⟩
  · rw [if_pos (show ¬ ((nI 0).toInt ≤ x.toInt ∧ x.toInt ≤ (nI 5).toInt) by rw [q_int (by omega), q_int (by omega)]; omega), if_pos h]
    exact ⟨_, rfl, rfl⟩
theorem S_entry {L : Nat} {xs : Nat → Int32} {S : Nat → Nat → Int32} {w : AW} (I : Inv L xs S w) (x : Int32) : ∃ r, F_A_entry w 16 x = some r ∧ F_M_entry w 271 x = some r := by
  have T := I.1
  have R := I.2.1
  obtain ⟨l1, l2, l3, l4, l5, l6, l7⟩ := I.2.2.1.2.2.2.2.2
  obtain ⟨e1, e2, e3, e4⟩ := I.2.2.2.2.2.2.2.1
  generalize hq : nat (S 0 45) = q at *
  have e : (nI q - nI 1).toInt = (q : Int) - 1 := by
    rw [Int32.toInt_sub, nI_toInt (by omega), nI_toInt (by omega)]
    exact Int.bmod_eq_of_le (by omega) (by omega)
  unfold F_A_entry F_M_entry F_Le_entryAt
  simp only [qL, ↓qM, t16 T, t136 T, mK T, rf41 R, rf45 R, e2, l3, M_wi, qLJ, Int32.toInt_toInt64, e, gd_true, beq_self_eq_true, bd_s, if_true, if_false, ↓reduceIte, ite_true, ite_false, Bool.and_self, Bool.and_true, Bool.true_and, Nat.reduceBEq, Bool.or_true, Bool.true_or, Bool.or_self]
  by_cases h : 0 ≤ x.toInt ∧ x.toInt ≤ (q : Int) - 1
  · obtain ⟨m, rfl, hm⟩ := q_of h.1 (n := 1) (by omega) (by omega)
    rw [q_int (by omega)] at h
    have h40 : ¬ nat (S 0 40) = 0 := fun q => by have := l6 q; omega
    rw [l5, if_neg h40, if_neg (show ¬ nI 1 = nI 0 by decide +kernel)]
    simp (disch := omega) only [q_lt, q_le, q_int, mLrn T, q_inb, q_nat, ra25 R, ← e4 m (by omega), gd_true, beq_self_eq_true, bd_s, if_true, if_false, ↓reduceIte, ite_true, ite_false, Bool.and_self, Bool.and_true, Bool.true_and, Nat.reduceBEq, Bool.or_true, Bool.true_or, Bool.or_self]
    rw [if_neg (by omega), if_neg (by omega), if_pos (by omega), if_neg (show ¬ ¬ (0 ≤ (m : Int) ∧ (m : Int) ≤ (q : Int) - 1) by omega)]
    refine ⟨_, ?_, rfl⟩
    split <;> rfl
  · have hA : (if x < nI 0 then some (mI 1) else if nI q ≤ x then some (mI 1) else if x < nI 2 then (gd (inb x 2) <| gd (inb x 2) <| if wi w 150 x.toNatClampNeg = nI 0 then some (nI 2 * wi w 149 x.toNatClampNeg + nI 0) else some (nI 2 * wi w 149 x.toNatClampNeg + nI 1)) else some (mI 1)) = some (mI 1) := by
      by_cases h0 : x < nI 0
      · rw [if_pos h0]
      · rw [if_neg h0]
        have : nI q ≤ x := by
          rw [Int32.lt_iff_toInt_lt, q_int (by omega)] at h0
          rw [Int32.le_iff_toInt_le, q_int (by omega)]
          omega
        rw [if_pos this]
    refine ⟨mI 1, by rw [hA, bd_s], ?_⟩
    by_cases h0 : S 0 41 = nI 0
    · rw [if_pos h0]
    · rw [if_neg h0, if_pos h]
