/-! PURE: first, saint -/
theorem L_fillI (b : Nat) (x : Int32) (N : Nat) (hN : N ≤ 999999) : ∀ (k fu i : Nat) (w : AW), wk w b = 100 → wn w b = N → i + k = N → k < fu → F_Jarr_fill_aII_5 fu b x (nI i) (nI N) w = some (rowI w b (fun j => if i ≤ j ∧ j < N then x else wi w b j)) := by
  intro k
  induction k with
  | zero =>
    intro fu i w h1 h2 hi hf
    obtain ⟨fu, rfl⟩ : ∃ m, fu = m + 1 := ⟨fu - 1, by omega⟩
    show F_Jarr_fill_aII_5_B (F_Jarr_fill_aII_5 fu) b x (nI i) (nI N) w = _
    unfold F_Jarr_fill_aII_5_B
    simp (disch := omega) only [q_le]
    rw [if_pos (by omega), rowI_self]
    intro j
    rw [if_neg (by omega)]
  | succ k ih =>
    intro fu i w h1 h2 hi hf
    obtain ⟨fu, rfl⟩ : ∃ m, fu = m + 1 := ⟨fu - 1, by omega⟩
    show F_Jarr_fill_aII_5_B (F_Jarr_fill_aII_5 fu) b x (nI i) (nI N) w = _
    unfold F_Jarr_fill_aII_5_B
    simp (disch := omega) only [qL, ↓qM, q_le, q_inb, q_nat, nI_add, h1, h2, gd_true, beq_self_eq_true, bd_s, if_true, if_false, ↓reduceIte, ite_true, ite_false, Bool.and_self, Bool.and_true, Bool.true_and, Nat.reduceBEq, Bool.or_true, Bool.true_or, Bool.or_self]
    rw [if_neg (by omega), ih _ _ _ (by exact h1) (by exact h2) (by omega) (by omega), rowI_upI]
    refine congrArg some (rowI_ext rfl rfl (fun _ => rfl) (fun _ => rfl) (fun _ _ _ => rfl) (fun _ _ => rfl) (fun _ _ => rfl) (fun j => ?_))
    simp only [wi_upI]
    by_cases hj : j = i
    · subst hj
      rw [if_neg (by omega : ¬ (j + 1 ≤ j ∧ j < N)), if_pos (by omega : j ≤ j ∧ j < N)]; simp
    · by_cases h2 : i ≤ j ∧ j < N
      · rw [if_pos (by omega : i + 1 ≤ j ∧ j < N), if_pos h2]
      · rw [if_neg (by omega : ¬ (i + 1 ≤ j ∧ j < N)), if_neg h2]; simp [hj]
theorem A_diClear {L : Nat} {xs : Nat → Int32} {w : AW} (T : Top L xs w) {v : Nat} (hv : v < 3) : F_Di_clear (179 + 2 * v) w = some (rowI w (180 + 2 * v) (fun j => if j < 1461 then nI 0 else wi w (180 + 2 * v) j)) := by
  have tv := tV T hv
  unfold F_Di_clear F_Jarr_fill_aII
  simp only [qL, ↓qM, tv, gd_true, beq_self_eq_true, bd_s, if_true, if_false, ↓reduceIte, ite_true, ite_false, Bool.and_self, Bool.and_true, Bool.true_and, Nat.reduceBEq, Bool.or_true, Bool.true_or, Bool.or_self]
  have e := L_fillI (180 + 2 * v) (nI 0) 1461 (by omega) 1461 FUEL 0 w tv.2.2.1 tv.2.2.2.1 (by omega) (by decide)
  rw [show Int32.ofNat 1461 = nI 1461 from rfl, e, bd_s]
  exact congrArg some (rowI_ext rfl rfl (fun _ => rfl) (fun _ => rfl) (fun _ _ _ => rfl) (fun _ _ => rfl) (fun _ _ => rfl) (fun j => by
    by_cases h : j < 1461
    · rw [if_pos ⟨Nat.zero_le _, h⟩, if_pos h]
    · rw [if_neg (fun q => h q.2), if_neg h]))
theorem A_alClear {L : Nat} {xs : Nat → Int32} {w : AW} (T : Top L xs w) {a : Nat} (ha : a < 6) : F_Al_clear (241 + 5 * a) w = some (setD (setD w (242 + 5 * a) (fun _ => false)) (244 + 5 * a) (fun _ => false)) := by
  have ta := tA T ha
  have d1 := ta.2.2.2.2.1
  have d2 := ta.2.2.2.2.2
  unfold F_Al_clear
  simp only [ta.1, ta.2.1, ta.2.2.1, d1.1, D_clear d1, wk_setD, wr_setD, d2.1, D_clear (TD_setD _ _ d2), gd_true, beq_self_eq_true, bd_s, if_true, if_false, ↓reduceIte, ite_true, ite_false, Bool.and_self, Bool.and_true, Bool.true_and, Nat.reduceBEq, Bool.or_true, Bool.true_or, Bool.or_self]
theorem gf_0 : ∀ f, f < 4 → gf (nI 0) f = nI 0 := by decide +kernel
theorem M_wipe {L : Nat} {xs : Nat → Int32} {w : AW} (T : Top L xs w) : F_M_wipe 271 w = some (rowI (rowI w 276 (fun j => if j < 17532 then mI 1000 else wi w 276 j)) 278 (fun j => if j < 8766 then mI 1 else wi w 278 j)) := by
  have loop2 : ∀ k fu i (u : AW), Top L xs u → i + k = 8766 → k < fu → F_M_wipe_26 fu 271 (nI i) u = some (rowI u 278 (fun j => if i ≤ j ∧ j < 8766 then mI 1 else wi u 278 j)) := by
    intro k
    induction k with
    | zero =>
      intro fu i u T1 hi hf
      obtain ⟨fu, rfl⟩ : ∃ m, fu = m + 1 := ⟨fu - 1, by omega⟩
      show F_M_wipe_26_B (F_M_wipe_26 fu) _ _ u = _
      unfold F_M_wipe_26_B
      simp (disch := omega) only [l_8766, q_le]
      rw [if_pos (by omega), rowI_self]
      intro j
      rw [if_neg (by omega)]
    | succ k ih =>
      intro fu i u T1 hi hf
      obtain ⟨fu, rfl⟩ : ∃ m, fu = m + 1 := ⟨fu - 1, by omega⟩
      show F_M_wipe_26_B (F_M_wipe_26 fu) _ _ u = _
      unfold F_M_wipe_26_B
      simp (disch := omega) only [qL, ↓qM, q_le, q_inb, q_nat, nI_add, mK T1, mAlm T1, gd_true, beq_self_eq_true, bd_s, if_true, if_false, ↓reduceIte, ite_true, ite_false, Bool.and_self, Bool.and_true, Bool.true_and, Nat.reduceBEq, Bool.or_true, Bool.true_or, Bool.or_self]
      rw [if_neg (by omega), ih fu (i + 1) (upI u 278 i (mI 1)) (T1.sh (Sh.upI u i _ (by omega))) (by omega) (by omega), rowI_upI]
      refine congrArg some (rowI_ext rfl rfl (fun _ => rfl) (fun _ => rfl) (fun _ _ _ => rfl) (fun _ _ => rfl) (fun _ _ => rfl) (fun j => ?_))
      simp only [wi_upI]
      by_cases hj : j = i
      · subst hj
        rw [if_neg (by omega : ¬ (j + 1 ≤ j ∧ j < 8766)), if_pos (by omega : j ≤ j ∧ j < 8766)]; simp
      · by_cases h2 : i ≤ j ∧ j < 8766
        · rw [if_pos (by omega : i + 1 ≤ j ∧ j < 8766), if_pos h2]
        · rw [if_neg (by omega : ¬ (i + 1 ≤ j ∧ j < 8766)), if_neg h2]; simp [hj]
  have loop1 : ∀ k fu i (u : AW), Top L xs u → i + k = 17532 → k < fu → F_M_wipe_2 fu 271 (nI i) u = F_M_wipe_26 FUEL 271 (nI 0) (rowI u 276 (fun j => if i ≤ j ∧ j < 17532 then mI 1000 else wi u 276 j)) := by
    intro k
    induction k with
    | zero =>
      intro fu i u T1 hi hf
      obtain ⟨fu, rfl⟩ : ∃ m, fu = m + 1 := ⟨fu - 1, by omega⟩
      show F_M_wipe_2_B (F_M_wipe_2 fu) _ _ u = _
      unfold F_M_wipe_2_B
      simp (disch := omega) only [l_17532, l_0, q_le]
      rw [if_pos (by omega), rowI_self]
      intro j
      rw [if_neg (by omega)]
    | succ k ih =>
      intro fu i u T1 hi hf
      obtain ⟨fu, rfl⟩ : ∃ m, fu = m + 1 := ⟨fu - 1, by omega⟩
      show F_M_wipe_2_B (F_M_wipe_2 fu) _ _ u = _
      unfold F_M_wipe_2_B
      simp (disch := omega) only [qL, ↓qM, q_le, q_inb, q_nat, nI_add, mK T1, mFld T1, gd_true, beq_self_eq_true, bd_s, if_true, if_false, ↓reduceIte, ite_true, ite_false, Bool.and_self, Bool.and_true, Bool.true_and, Nat.reduceBEq, Bool.or_true, Bool.true_or, Bool.or_self]
      rw [if_neg (by omega), ih fu (i + 1) (upI u 276 i (mI 1000)) (T1.sh (Sh.upI u i _ (by omega))) (by omega) (by omega), rowI_upI]
      refine congrArg (F_M_wipe_26 FUEL 271 (nI 0)) (rowI_ext rfl rfl (fun _ => rfl) (fun _ => rfl) (fun _ _ _ => rfl) (fun _ _ => rfl) (fun _ _ => rfl) (fun j => ?_))
      simp only [wi_upI]
      by_cases hj : j = i
      · subst hj
        rw [if_neg (by omega : ¬ (j + 1 ≤ j ∧ j < 17532)), if_pos (by omega : j ≤ j ∧ j < 17532)]; simp
      · by_cases h2 : i ≤ j ∧ j < 17532
        · rw [if_pos (by omega : i + 1 ≤ j ∧ j < 17532), if_pos h2]
        · rw [if_neg (by omega : ¬ (i + 1 ≤ j ∧ j < 17532)), if_neg h2]; simp [hj]
  unfold F_M_wipe
  rw [l_0, loop1 17532 FUEL 0 w T (by omega) (by decide), loop2 8766 FUEL 0 _ (T.sh (Sh.rowI w _ (by omega))) (by omega) (by decide)]
  have e1 : (fun j => if 0 ≤ j ∧ j < 17532 then mI 1000 else wi w 276 j) = (fun j => if j < 17532 then mI 1000 else wi w 276 j) := by
    funext j; simp
  rw [e1]
  refine congrArg some (rowI_ext rfl rfl (fun _ => rfl) (fun _ => rfl) (fun _ _ _ => rfl) (fun _ _ => rfl) (fun _ _ => rfl) (fun j => ?_))
  rw [wi_rowI, if_neg (by omega : ¬ 278 = 276)]
  simp
/-- the state behind first -/
def fiS (S : Nat → Nat → Int32) (f : Int32) : Nat → Nat → Int32 := fun r i => if r = 0 ∧ i = 0 then f else if r = 5 ∧ i < 17532 then mI 1000 else if r = 7 ∧ i < 8766 then mI 1 else S r i
theorem fiS_ne (S : Nat → Nat → Int32) (f : Int32) {r : Nat} (h : r ≠ 0 ∧ r ≠ 5 ∧ r ≠ 7) : fiS S f r = S r := by
  funext i; unfold fiS; rw [if_neg (by omega), if_neg (by omega), if_neg (by omega)]
theorem fiS_0 (S : Nat → Nat → Int32) (f : Int32) {i : Nat} (h : i ≠ 0) : fiS S f 0 i = S 0 i := by
  unfold fiS; rw [if_neg (by omega), if_neg (by omega), if_neg (by omega)]
theorem S_first {L : Nat} {xs : Nat → Int32} {S : Nat → Nat → Int32} {w : AW} (I : Inv L xs S w) (x1 : Int32) : STEP L xs w (F_A_first 16 x1) (F_M_first 271 x1) := by
  have T := I.1
  by_cases h1 : 0 ≤ x1.toInt ∧ x1.toInt ≤ 3
  · obtain ⟨f, rfl, hf⟩ := q_of h1.1 (n := 3) h1.2 (by omega)
    -- the diaries
    have loop1 : ∀ j fu v (u : AW) (y : Int32), v + j = 3 → j < fu → Top L xs u → ∃ u', F_A_first_30 fu 16 y (nI v) u = F_A_first_52 FUEL 16 y (nI 0) u' ∧ Sh u u' ∧ (∀ a i, wj u' a i = wj u a i) ∧ (∀ a i, ¬ (180 ≤ a ∧ a ≤ 184) → wi u' a i = wi u a i) ∧ (∀ v', v' < v → ∀ n, wi u' (180 + 2 * v') n = wi u (180 + 2 * v') n) ∧ (∀ v', v ≤ v' → v' < 3 → ∀ n, n < 1461 → wi u' (180 + 2 * v') n = nI 0) := by
      intro j
      induction j with
      | zero =>
        intro fu v u y hj hfu T1
        obtain ⟨fu, rfl⟩ : ∃ m, fu = m + 1 := ⟨fu - 1, by omega⟩
        refine ⟨u, ?_, Sh.refl u, fun _ _ => rfl, fun _ _ _ => rfl, fun _ _ _ => rfl, fun v' h1 h2 => by omega⟩
        show F_A_first_30_B (F_A_first_30 fu) _ _ _ u = _
        unfold F_A_first_30_B
        simp (disch := omega) only [qL, ↓qM, q_le]
        rw [if_pos (by omega)]
      | succ j ih =>
        intro fu v u y hj hfu T1
        obtain ⟨fu, rfl⟩ : ∃ m, fu = m + 1 := ⟨fu - 1, by omega⟩
        have tv := tV T1 (show v < 3 by omega)
        have s1 : Sh u (rowI u (180 + 2 * v) (fun j => if j < 1461 then nI 0 else wi u (180 + 2 * v) j)) := Sh.rowI u _ (by omega)
        obtain ⟨u', e, s, g1, g2, g3, g4⟩ := ih fu (v + 1) _ y (by omega) (by omega) (T1.sh s1)
        refine ⟨u', ?_, s1.trans s, fun a i => (g1 a i).trans rfl, fun a i h => ?_, fun v' hv' n => ?_, fun v' hv' h3 n hn => ?_⟩
        · show F_A_first_30_B (F_A_first_30 fu) _ _ _ u = _
          unfold F_A_first_30_B
          simp (disch := omega) only [qL, ↓qM, q_le, t16 T1, tDi T1, tv, q_inb, q_nat, A_diClear T1 (show v < 3 by omega), nI_add, gd_true, beq_self_eq_true, bd_s, if_true, if_false, ↓reduceIte, ite_true, ite_false, Bool.and_self, Bool.and_true, Bool.true_and, Nat.reduceBEq, Bool.or_true, Bool.true_or, Bool.or_self]
          rw [if_neg (by omega)]
          exact e
        · rw [g2 a i h, wi_rowI, if_neg (by omega)]
        · rw [g3 v' (by omega), wi_rowI, if_neg (by omega)]
        · by_cases hvv : v' = v
          · rw [hvv, g3 v (by omega), wi_rowI, if_pos rfl, if_pos hn]
          · exact g4 v' (by omega) h3 n hn
    -- the almanacs
    have loop2 : ∀ j fu a (u : AW) (y : Int32), a + j = 6 → j < fu → Top L xs u → ∃ u', F_A_first_52 fu 16 y (nI a) u = some (y, u') ∧ DF (fun x => 242 ≤ x ∧ x ≤ 269) u u' ∧ (∀ a', a' < a → ∀ n, gD u' (242 + 5 * a') n = gD u (242 + 5 * a') n) ∧ (∀ a', a ≤ a' → a' < 6 → ∀ n, n < 1461 → gD u' (242 + 5 * a') n = false) := by
      intro j
      induction j with
      | zero =>
        intro fu a u y hj hfu T1
        obtain ⟨fu, rfl⟩ : ∃ m, fu = m + 1 := ⟨fu - 1, by omega⟩
        refine ⟨u, ?_, DF.refl _ _, fun _ _ _ => rfl, fun a' h1 h2 => by omega⟩
        show F_A_first_52_B (F_A_first_52 fu) _ _ _ u = _
        unfold F_A_first_52_B
        simp (disch := omega) only [qL, ↓qM, q_le]
        rw [if_pos (by omega)]
      | succ j ih =>
        intro fu a u y hj hfu T1
        obtain ⟨fu, rfl⟩ : ∃ m, fu = m + 1 := ⟨fu - 1, by omega⟩
        have ta := tA T1 (show a < 6 by omega)
        have d1 : DF (fun x => 242 ≤ x ∧ x ≤ 269) u (setD (setD u (242 + 5 * a) (fun _ => false)) (244 + 5 * a) (fun _ => false)) := (DF.set _ _ (by omega)).trans (DF.set _ _ (by omega))
        obtain ⟨u', e, d, g3, g4⟩ := ih fu (a + 1) _ y (by omega) (by omega) (T1.sh d1.sh)
        refine ⟨u', ?_, d1.trans d, fun a' ha' n => ?_, fun a' ha' h3 n hn => ?_⟩
        · show F_A_first_52_B (F_A_first_52 fu) _ _ _ u = _
          unfold F_A_first_52_B
          simp (disch := omega) only [qL, ↓qM, q_le, t16 T1, tAl T1, ta.1, ta.2.2.2.1, q_inb, q_nat, A_alClear T1 (show a < 6 by omega), nI_add, gd_true, beq_self_eq_true, bd_s, if_true, if_false, ↓reduceIte, ite_true, ite_false, Bool.and_self, Bool.and_true, Bool.true_and, Nat.reduceBEq, Bool.or_true, Bool.true_or, Bool.or_self]
          rw [if_neg (by omega)]
          exact e
        · rw [g3 a' (by omega), gD_ne _ _ _ (by omega), gD_ne _ _ _ (by omega)]
        · by_cases haa : a' = a
          · rw [haa, g3 a (by omega), gD_ne _ _ _ (by omega), gD_eq _ _ _ hn]
          · exact g4 a' (by omega) h3 n hn
    have s0 : Sh w (upI w 17 0 (nI f)) := Sh.upI w 0 _ (by omega)
    obtain ⟨u1, e1, s1, j1, k1, -, z1⟩ := loop1 3 FUEL 0 (upI w 17 0 (nI f)) (wi w 17 0) (by omega) (by decide) (T.sh s0)
    have T1 := T.sh (s0.trans s1)
    obtain ⟨u2, e2, d2, -, z2⟩ := loop2 6 FUEL 0 u1 (wi w 17 0) (by omega) (by decide) T1
    have T2 := T1.sh d2.sh
    have hw : ∀ a i, ¬ (180 ≤ a ∧ a ≤ 184) → ¬ (a = 17 ∧ i = 0) → wi u2 a i = wi w a i := fun a i h h' => by rw [d2.wi, k1 a i h, wi_upI, if_neg h']
    have hA : F_A_first 16 (nI f) w = some (S 0 0, u2) := by
      unfold F_A_first
      simp only [qL, ↓qM, A_wi, t16 T, t17 T, gd_true, beq_self_eq_true, bd_s, if_true, if_false, ↓reduceIte, ite_true, ite_false, Bool.and_self, Bool.and_true, Bool.true_and, Nat.reduceBEq, Bool.or_true, Bool.true_or, Bool.or_self]
      rw [if_neg (by show ¬ ¬ (0 ≤ (nI f).toInt ∧ (nI f).toInt ≤ 3); omega), ← I.2.2.2.1.1]
      exact e1.trans e2
    have R2 : RA S u2 := by
      unfold RA
      rw [RS_eq (w := w) (fun a i h => hw a i (by omega) (by omega))]
      exact I.2.1
    have W2 : WFs u2 := d2.wfs (WFs_j (w := w) (fun a i => by rw [j1]; rfl) I.2.2.2.2.2.2.2.2.2)
    obtain ⟨a1, a2, a3, a4, a5, a6, a7⟩ := I.2.2.2
    have hm : IM (fiS S (nI f)) := by
      refine ⟨?_, IMs_S (fiS_ne _ _ (by decide)) (fiS_ne _ _ (by decide)) (fiS_ne _ _ (by decide)) (fiS_ne _ _ (by decide)) I.2.2.1.2.1, ?_, IMpg_S (fiS_0 _ _ (by decide)) (fiS_ne _ _ (by decide)) I.2.2.1.2.2.2.1, IMsy_S (fiS_0 _ _ (by decide)) (fiS_ne _ _ (by decide)) (fiS_ne _ _ (by decide)) (fiS_ne _ _ (by decide)) (fiS_ne _ _ (by decide)) I.2.2.1.2.2.2.2.1, IMle_S (fiS_0 _ _ (by decide)) (fiS_0 _ _ (by decide)) (fiS_0 _ _ (by decide)) (fiS_ne _ _ (by decide)) I.2.2.1.2.2.2.2.2⟩
      · have e : fiS S (nI f) 0 0 = nI f := by unfold fiS; rw [if_pos ⟨rfl, rfl⟩]
        unfold IMf sF
        rw [e, nat_nI (by omega)]
        exact ⟨rfl, by omega⟩
      · intro v hv n hn f' hf'
        left
        unfold fiS
        rw [if_neg (by omega), if_pos ⟨rfl, fx_lt hv hn hf'⟩]
    have hia : IA (fiS S (nI f)) u2 := by
      refine ⟨?_, ?_, ?_, ?_, ?_, ?_, W2⟩
      · refine ⟨?_, fun s hs => ?_⟩
        · rw [d2.wi, k1 17 0 (by omega), wi_upI, if_pos ⟨rfl, rfl⟩]; unfold fiS; rw [if_pos ⟨rfl, rfl⟩]
        · rw [hw 18 s (by omega) (by omega), hw 19 s (by omega) (by omega), hw 20 s (by omega) (by omega), hw 21 s (by omega) (by omega), fiS_ne _ _ (by decide), fiS_ne _ _ (by decide), fiS_ne _ _ (by decide), fiS_ne _ _ (by decide)]
          exact a1.2 s hs
      · intro v hv n hn f' hf'
        rw [d2.wi, z1 v (by omega) hv n hn, gf_0 f' hf']
        unfold fiS
        rw [if_neg (by omega), if_pos ⟨rfl, fx_lt hv hn hf'⟩]
        unfold pl
        rw [if_pos rfl]
      · exact PgA_S (fiS_0 _ _ (by decide)) (fiS_ne _ _ (by decide)) (PgA_w (hw 23 0 (by omega) (by omega)) (fun i => hw 24 i (by omega) (by omega)) a3)
      · exact SyA_S (fiS_0 _ _ (by decide)) (fiS_ne _ _ (by decide)) (fiS_ne _ _ (by decide)) (fiS_ne _ _ (by decide)) (fiS_ne _ _ (by decide)) (SyA_w (hw 16 4 (by omega) (by omega)) (fun k hk => by rw [d2.2.2.2.2.1, s1.2.2.2.2.1]; rfl) (fun k hk a i h1 h2 => hw a i (by have := I.sr hk; omega) (by have := I.sr hk; omega)) a4)
      · exact LeA_S (fiS_0 _ _ (by decide)) (fiS_0 _ _ (by decide)) (fiS_ne _ _ (by decide)) (fiS_ne _ _ (by decide)) (LeA_w (fun a i h => hw a i (by omega) (by omega)) a5)
      · intro a ha
        rw [hw (241 + 5 * a) 0 (by omega) (by omega), fiS_ne _ _ (by decide)]
        refine ⟨(a6 a ha).1, fun n hn => ?_⟩
        rw [z2 a (by omega) ha n hn]
        unfold fiS wvl
        rw [if_neg (by omega), if_neg (by omega), if_pos ⟨rfl, by omega⟩]; rfl
    have M1 : AF u2 (upI u2 271 0 (nI f)) := AF.upI _ _ _ (by omega)
    refine ⟨S 0 0, u2, rowI (rowI (upI u2 271 0 (nI f)) 276 (fun j => if j < 17532 then mI 1000 else wi u2 276 j)) 278 (fun j => if j < 8766 then mI 1 else wi u2 278 j), fiS S (nI f), hA, T2, ?_, Inv.mq T2 hm hia (M1.trans ((AF.rowI (a := 276) _ _ (by omega)).trans (AF.rowI (a := 278) _ _ (by omega)))) ?_⟩
    · unfold F_M_first
      have hi : ¬ ¬ (0 ≤ (nI f).toInt ∧ (nI f).toInt ≤ 3) := by omega
      simp only [qL, ↓qM, M_wi, qLJ, mK T2, gd_true, beq_self_eq_true, bd_s, if_true, if_false, ↓reduceIte, ite_true, ite_false, Bool.and_self, Bool.and_true, Bool.true_and, Nat.reduceBEq, Bool.or_true, Bool.true_or, Bool.or_self]
      rw [if_neg hi, M_wipe (T2.sh M1.sh), bd_s, rf0 R2]
      refine congrArg (fun z => some (S 0 0, z)) ?_
      refine rowI_ext rfl rfl (fun _ => rfl) (fun _ => rfl) (fun b j hb => ?_) (fun _ _ => rfl) (fun _ _ => rfl) (fun j => ?_)
      · rw [wi_rowI, wi_rowI]; split
        · rw [wi_upI, if_neg (by omega : ¬ (276 = 271 ∧ j = 0))]
        · rfl
      · rw [wi_upI, if_neg (by omega : ¬ (278 = 271 ∧ j = 0))]
    · show RS _ = _
      rw [← show RS u2 = S from R2]
      unfold RS fiS
      funext r i
      simp only [wi_rowI, wi_upI]
      by_cases h0 : r = 0
      · subst h0
        by_cases hi : i = 0
        · subst hi; simp [KFld]
        · simp [hi]
      · by_cases h5 : r = 5
        · subst h5; simp [KRow]
        · by_cases h7 : r = 7
          · subst h7; simp [KRow]
          · simp only [h0, h5, h7, false_and, if_false]
            by_cases hk : KRow r = true
            · rw [if_pos hk, if_pos hk, if_neg (by omega), if_neg (by omega), if_neg (by omega)]
            · rw [if_neg hk, if_neg hk]
  · refine STEP.pure I (r := mI 102) ?_ ?_
    · unfold F_A_first
      simp only [qL, ↓qM, A_wi]
      rw [if_pos (by exact h1)]
    · unfold F_M_first
      simp only [qL, ↓qM, M_wi, qLJ]
      rw [if_pos h1]
