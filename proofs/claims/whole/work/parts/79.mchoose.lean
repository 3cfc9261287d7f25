/-! PURE: the reference chooses a list -/
section
variable {L : Nat} {xs : Nat → Int32} {S : Nat → Nat → Int32}
theorem M_fill {v s : Nat} (If : IMf S) (Ic : IMs S) (Is : IMsy S) (hv : v < 3) (hs : s < nS S) (X3 X4 : Int32) : ∀ j fu n (u : AW) (S' : Nat → Nat → Int32), Top L xs u → FS S S' → RA S' u → (∀ i, i < n → S' 24 i = sI S s v i) → (∀ i, i < n → S' 23 i = nI (cm S v i (nS S))) → n + j = 1461 → j < fu → ∃ u' S'' fu', F_M_learn_71 fu 271 (nI v) (nI s) X3 X4 (nI n) u = F_M_learn_71_B (F_M_learn_71 fu') 271 (nI v) (nI s) X3 X4 (nI 1461) u' ∧ AF u u' ∧ FS S S'' ∧ RA S'' u' ∧ (∀ i, i < 1461 → S'' 24 i = sI S s v i) ∧ (∀ i, i < 1461 → S'' 23 i = nI (cm S v i (nS S))) := by
  intro j
  induction j with
  | zero =>
    intro fu n u S' T hF R h24 h23 hn hf
    obtain ⟨fu, rfl⟩ : ∃ m, fu = m + 1 := ⟨fu - 1, by omega⟩
    obtain rfl : n = 1461 := by omega
    exact ⟨u, S', fu, rfl, AF.refl u, hF, R, h24, h23⟩
  | succ j ih =>
    intro fu n u S' T hF R h24 h23 hn hf
    obtain ⟨fu, rfl⟩ : ∃ m, fu = m + 1 := ⟨fu - 1, by omega⟩
    have h8 := Is.2.1
    have e0 := hF 0 (by omega) (by omega)
    have er : ∀ r, 1 ≤ r → r ≤ 16 → S' r = S r := fun r h1 h2 => hF r (by omega) (by omega)
    have Ik : IMk S' s := IMk_S (er 13 (by omega) (by omega)) (er 14 (by omega) (by omega)) (er 15 (by omega) (by omega)) (er 16 (by omega) (by omega)) (Is.2.2 s hs)
    obtain ⟨u1, p1, q1⟩ := M_secondOf T R (show s < 8 by omega) hv (show n < 1461 by omega) Ik
    have esI : sI S' s v n = sI S s v n := by unfold sI; rw [(same_sk er).1, (same_sk er).2]
    rw [esI] at p1
    have T1 := T.sh q1.1.sh
    have R2 := (q1.2.up 24 n (sI S s v n) (by decide)).up 23 n (nI 0) (by decide)
    have A2 : AF u (upI (upI u1 (271 + 24) n (sI S s v n)) (271 + 23) n (nI 0)) := q1.1.trans ((AF.upI u1 _ _ (by omega)).trans (AF.upI _ _ _ (by omega)))
    obtain ⟨u2, S2, k1, k2, k3, k4, k5, k6⟩ := M_fill1 (s := s) If Ic Is hv (show n < 1461 by omega) (nI s) X3 X4 (F_M_learn_71 fu) (nS S) FUEL 0 _ _ (T.sh A2.sh) ((hF.up 24 n _ (.inr rfl)).up 23 n _ (.inl rfl)) R2 (fun i hi => by
      rw [uS_ne (by omega)]
      by_cases e : i = n
      · rw [e, uS_eq]
      · rw [uS_nei (.inr e)]; exact h24 i (by omega)) (fun i hi => by rw [uS_nei (.inr (by omega)), uS_ne (by omega)]; exact h23 i hi) uS_eq (by omega) (Nat.lt_of_le_of_lt h8 (by decide))
    obtain ⟨u', S'', fu', o1, o2, o3⟩ := ih fu (n + 1) u2 S2 (T.sh (A2.trans k2).sh) k3 k4 k5 k6 (by omega) (by omega)
    refine ⟨u', S'', fu', ?_, (A2.trans k2).trans o2, o3⟩
    show F_M_learn_71_B (F_M_learn_71 fu) _ _ _ _ _ _ u = _
    conv => lhs; unfold F_M_learn_71_B
    simp (disch := omega) only [qL, ↓qM, q_le, mK T, mLrn T, p1, mK T1, mLrn T1, q_inb, q_nat, wk_upI, wn_upI, wr_upI, gd_true, beq_self_eq_true, bd_s, if_true, if_false, ↓reduceIte, ite_true, ite_false, Bool.and_self, Bool.and_true, Bool.true_and, Nat.reduceBEq, Bool.or_true, Bool.true_or, Bool.or_self]
    rw [if_neg (by omega)]
    exact k1.trans o1
/-- one list tried by the reference -/
theorem M_try {v s a z x y : Nat} {u w : AW} (T : Top L xs u) (R : RA S u) (If : IMf S) (Is : IMsy S) (N : NT S v s u) (ha : a < 16) (hz : z ≤ 2) (hx : 1 ≤ z → x < nS S) (hy : 2 ≤ z → y < nS S) (f : CF2 u w) : ∃ w', F_M_countBy 271 (nI a) (o1 z x) (o2 z y) w = some w' ∧ CF2 u w' ∧ F_M_rightOf w' 271 = some (nI (rgS S v s a z x y)) ∧ CU S v s a z x y w' 1461 := by
  obtain ⟨w', p1, p2, p3⟩ := M_countBy (T.sh f.1.sh) (f.ra R) If Is (f.nt N) ha hz hx hy
  refine ⟨w', p1, f.trans p2, ?_, p3⟩
  rw [M_rightOf (T.sh (f.trans p2).1.sh) p3, rM_rg S v s a z x y hz]
theorem o1_1 (x : Nat) : o1 1 x = nI x := by unfold o1; rw [if_pos (by omega)]
theorem o1_2 (x : Nat) : o1 2 x = nI x := by unfold o1; rw [if_pos (by omega)]
theorem o2_1 (y : Nat) : o2 1 y = mI 1 := by unfold o2; rw [if_neg (by omega)]
theorem o2_2 (y : Nat) : o2 2 y = nI y := by unfold o2; rw [if_pos (by omega)]
def bok2 (S : Nat → Nat → Int32) (b : Nat × Nat × Nat × Nat) : Prop := (1 ≤ b.2.1 → b.2.2.1 < nS S) ∧ (2 ≤ b.2.1 → b.2.2.2 < nS S)
theorem tr3_ok2 {v s a z x y : Nat} {b : Nat × Nat × Nat × Nat} (h : bok2 S b) (hx : 1 ≤ z → x < nS S) (hy : 2 ≤ z → y < nS S) : bok2 S (tr3 S v s a z x y b) := by
  unfold tr3
  split
  · exact h
  · exact ⟨hx, hy⟩
theorem ch1_ok2 (v s a : Nat) : ∀ k, k ≤ nS S → bok2 S (ch1 S v s a k)
  | 0, _ => ⟨fun h => by have : 1 ≤ 0 := h; omega, fun h => by have : 2 ≤ 0 := h; omega⟩
  | k + 1, h => tr3_ok2 (ch1_ok2 v s a k (by omega)) (fun _ => by omega) (fun h => by omega)
theorem ch2_ok2 {v s a k : Nat} {b : Nat × Nat × Nat × Nat} (h : bok2 S b) (hk : k < nS S) : ∀ j, j ≤ nS S → bok2 S (ch2 S v s a k b j)
  | 0, _ => h
  | j + 1, hj => by
    unfold ch2
    split
    · exact ch2_ok2 h hk j (by omega)
    · exact tr3_ok2 (ch2_ok2 h hk j (by omega)) (fun _ => hk) (fun _ => by omega)
theorem ch3_ok2 (v s a : Nat) : ∀ k, k ≤ nS S → bok2 S (ch3 S v s a k)
  | 0, _ => ch1_ok2 v s a _ (Nat.le_refl _)
  | k + 1, h => ch2_ok2 (ch3_ok2 v s a k (by omega)) (by omega) _ (Nat.le_refl _)
theorem M_ch1 {v s a : Nat} {u : AW} (T : Top L xs u) (R : RA S u) (If : IMf S) (Is : IMsy S) (N : NT S v s u) (ha : a < 16) (SZ : Int32) (rec191 : Nat → Int32 → Int32 → Int32 → Int32 → Int32 → Int32 → AW → Option (Int32 × AW)) : ∀ j fu k (w : AW) (b : Nat × Nat × Nat × Nat), b = ch1 S v s a k → CF2 u w → k + j = nS S → j < fu → ∃ w', F_M_learn_200 rec191 fu 271 SZ (nI a) (o1 b.2.1 b.2.2.1) (o2 b.2.1 b.2.2.2) (nI b.1) (nI 1) (nI k) w = rec191 271 SZ (nI a) (o1 (ch1 S v s a (nS S)).2.1 (ch1 S v s a (nS S)).2.2.1) (o2 (ch1 S v s a (nS S)).2.1 (ch1 S v s a (nS S)).2.2.2) (nI (ch1 S v s a (nS S)).1) (nI 2) w' ∧ CF2 u w' := by
  intro j
  induction j with
  | zero =>
    intro fu k w b hb f hk hf
    obtain ⟨fu, rfl⟩ : ∃ m, fu = m + 1 := ⟨fu - 1, by omega⟩
    obtain rfl : k = nS S := by omega
    have h8 := Is.2.1
    have Tw := T.sh f.1.sh
    refine ⟨w, ?_, f⟩
    show F_M_learn_200_B rec191 (F_M_learn_200 rec191 fu) _ _ _ _ _ _ _ _ w = _
    unfold F_M_learn_200_B
    simp (disch := omega) only [qL, ↓qM, mK Tw, rf29 (f.ra R), Is.1, q_le, nI_add, gd_true, beq_self_eq_true, bd_s, if_true, if_false, ↓reduceIte, ite_true, ite_false, Bool.and_self, Bool.and_true, Bool.true_and, Nat.reduceBEq, Bool.or_true, Bool.true_or, Bool.or_self]
    rw [if_pos (Nat.le_refl _), hb]
  | succ j ih =>
    intro fu k w b hb f hk hf
    obtain ⟨fu, rfl⟩ : ∃ m, fu = m + 1 := ⟨fu - 1, by omega⟩
    have h8 := Is.2.1
    have Tw := T.sh f.1.sh
    have hbo := ch1_ok S v s a k
    rw [← hb] at hbo
    have hb1 : b.1 ≤ 4383 := hbo.1
    have hr := rgS_le S v s a 1 k 0 (by omega)
    obtain ⟨w1, p1, f1, p2, -⟩ := M_try T R If Is N ha (z := 1) (x := k) (y := 0) (by omega) (fun _ => by omega) (fun h => by omega) f
    rw [o1_1, o2_1] at p1
    have T1 := T.sh f1.1.sh
    obtain ⟨w', q1, q2⟩ := ih fu (k + 1) w1 (tr3 S v s a 1 k 0 b) (by rw [hb]; rfl) f1 (by omega) (by omega)
    refine ⟨w', ?_, q2⟩
    have hst : ∀ (fu2 : Nat) (X5 X6 X7 : Int32), F_M_learn_222 rec191 (F_M_learn_200 rec191 fu) (fu2 + 1) 271 SZ (nI a) X5 X6 X7 (nI 1) (nI k) (nI 0) w1 = F_M_learn_200 rec191 fu 271 SZ (nI a) X5 X6 X7 (nI 1) (nI (k + 1)) w1 := by
      intro fu2 X5 X6 X7
      show F_M_learn_222_B rec191 (F_M_learn_200 rec191 fu) (F_M_learn_222 rec191 (F_M_learn_200 rec191 fu) fu2) _ _ _ _ _ _ _ _ _ w1 = _
      unfold F_M_learn_222_B F_M_learn_238
      simp (disch := omega) only [qL, ↓qM, q_le, nI_add, gd_true, beq_self_eq_true, bd_s, if_true, if_false, ↓reduceIte, ite_true, ite_false, Bool.and_self, Bool.and_true, Bool.true_and, Nat.reduceBEq, Bool.or_true, Bool.true_or, Bool.or_self]
      rw [if_pos (Nat.le_refl _)]
    have hm1 : mI 1 + nI 1 = nI 0 := by decide +kernel
    have hle : ¬ nI 0 ≤ mI 1 := by decide +kernel
    have hkm : ¬ nI k = mI 1 := by rw [q_nm (by omega) (by omega) (by omega)]; exact fun h => h
    show F_M_learn_200_B rec191 (F_M_learn_200 rec191 fu) _ _ _ _ _ _ _ _ w = _
    unfold F_M_learn_200_B
    simp (disch := omega) only [qL, ↓qM, mK Tw, rf29 (f.ra R), Is.1, q_le, gd_true, beq_self_eq_true, bd_s, if_true, if_false, ↓reduceIte, ite_true, ite_false, Bool.and_self, Bool.and_true, Bool.true_and, Nat.reduceBEq, Bool.or_true, Bool.true_or, Bool.or_self]
    rw [if_neg (by omega)]
    show F_M_learn_222_B rec191 (F_M_learn_200 rec191 fu) (F_M_learn_222 rec191 (F_M_learn_200 rec191 fu) 999999) _ _ _ _ _ _ _ _ _ w = _
    unfold F_M_learn_222_B F_M_learn_238
    simp (disch := omega) only [qL, ↓qM, hle, hkm, mK Tw, p1, mK T1, p2, hm1, q_le, hst 999998, gd_true, beq_self_eq_true, bd_s, if_true, if_false, ↓reduceIte, ite_true, ite_false, Bool.and_self, Bool.and_true, Bool.true_and, Nat.reduceBEq, Bool.or_true, Bool.true_or, Bool.or_self]
    unfold tr3 at q1
    by_cases h : rgS S v s a 1 k 0 ≤ b.1
    · rw [if_pos h] at q1
      rw [if_pos (show rgS S v s a 1 k 0 ≤ b.1 from h)]
      exact q1
    · rw [if_neg h] at q1
      rw [if_neg (show ¬ rgS S v s a 1 k 0 ≤ b.1 from h)]
      simp only [o1_1, o2_1] at q1
      exact q1
theorem M_ch2 {v s a x : Nat} {u : AW} (T : Top L xs u) (R : RA S u) (If : IMf S) (Is : IMsy S) (N : NT S v s u) (ha : a < 16) (hx : x < nS S) (SZ : Int32) (rec191 : Nat → Int32 → Int32 → Int32 → Int32 → Int32 → Int32 → AW → Option (Int32 × AW)) (rec200 : Nat → Int32 → Int32 → Int32 → Int32 → Int32 → Int32 → Int32 → AW → Option (Int32 × AW)) {b0 : Nat × Nat × Nat × Nat} (hb0 : bok b0) : ∀ j fu k (w : AW) (b : Nat × Nat × Nat × Nat), b = ch2 S v s a x b0 k → CF2 u w → k + j = nS S → j < fu → ∃ w', F_M_learn_222 rec191 rec200 fu 271 SZ (nI a) (o1 b.2.1 b.2.2.1) (o2 b.2.1 b.2.2.2) (nI b.1) (nI 2) (nI x) (nI k) w = rec200 271 SZ (nI a) (o1 (ch2 S v s a x b0 (nS S)).2.1 (ch2 S v s a x b0 (nS S)).2.2.1) (o2 (ch2 S v s a x b0 (nS S)).2.1 (ch2 S v s a x b0 (nS S)).2.2.2) (nI (ch2 S v s a x b0 (nS S)).1) (nI 2) (nI (x + 1)) w' ∧ CF2 u w' := by
  intro j
  induction j with
  | zero =>
    intro fu k w b hb f hk hf
    obtain ⟨fu, rfl⟩ : ∃ m, fu = m + 1 := ⟨fu - 1, by omega⟩
    obtain rfl : k = nS S := by omega
    have h8 := Is.2.1
    have Tw := T.sh f.1.sh
    refine ⟨w, ?_, f⟩
    show F_M_learn_222_B rec191 rec200 (F_M_learn_222 rec191 rec200 fu) _ _ _ _ _ _ _ _ _ w = _
    unfold F_M_learn_222_B F_M_learn_238
    simp (disch := omega) only [qL, ↓qM, mK Tw, rf29 (f.ra R), Is.1, q_le, q_eq, nI_add, gd_true, beq_self_eq_true, bd_s, if_true, if_false, ↓reduceIte, ite_true, ite_false, Bool.and_self, Bool.and_true, Bool.true_and, Nat.reduceBEq, Bool.or_true, Bool.true_or, Bool.or_self]
    rw [if_neg (by omega), if_pos (Nat.le_refl _), hb]
  | succ j ih =>
    intro fu k w b hb f hk hf
    obtain ⟨fu, rfl⟩ : ∃ m, fu = m + 1 := ⟨fu - 1, by omega⟩
    have h8 := Is.2.1
    have Tw := T.sh f.1.sh
    have hbo := ch2_ok (S := S) (v := v) (s := s) (a := a) (k := x) hb0 k
    rw [← hb] at hbo
    have hb1 : b.1 ≤ 4383 := hbo.1
    show ∃ w', F_M_learn_222_B rec191 rec200 (F_M_learn_222 rec191 rec200 fu) 271 SZ (nI a) (o1 b.2.1 b.2.2.1) (o2 b.2.1 b.2.2.2) (nI b.1) (nI 2) (nI x) (nI k) w = _ ∧ _
    unfold F_M_learn_222_B F_M_learn_238
    simp (disch := omega) only [qL, ↓qM, mK Tw, rf29 (f.ra R), Is.1, q_le, q_eq, nI_add, gd_true, beq_self_eq_true, bd_s, if_true, if_false, ↓reduceIte, ite_true, ite_false, Bool.and_self, Bool.and_true, Bool.true_and, Nat.reduceBEq, Bool.or_true, Bool.true_or, Bool.or_self]
    rw [if_neg (by omega), if_neg (by omega)]
    by_cases hkx : x = k
    · rw [if_pos hkx]
      refine ih fu (k + 1) w b ?_ f (by omega) (by omega)
      rw [hb]
      show _ = ite _ _ _
      rw [if_pos hkx.symm]
    · rw [if_neg hkx]
      have hr := rgS_le S v s a 2 x k (by omega)
      obtain ⟨w1, p1, f1, p2, -⟩ := M_try T R If Is N ha (z := 2) (x := x) (y := k) (by omega) (fun _ => by omega) (fun _ => by omega) f
      rw [o1_2, o2_2] at p1
      have T1 := T.sh f1.1.sh
      obtain ⟨w', q1, q2⟩ := ih fu (k + 1) w1 (tr3 S v s a 2 x k b) (by
        rw [hb]
        show _ = ite _ _ _
        rw [if_neg (fun e => hkx e.symm)]) f1 (by omega) (by omega)
      refine ⟨w', ?_, q2⟩
      simp (disch := omega) only [p1, mK T1, p2, q_le, gd_true, beq_self_eq_true, bd_s, if_true, if_false, ↓reduceIte, ite_true, ite_false, Bool.and_self, Bool.and_true, Bool.true_and, Nat.reduceBEq, Bool.or_true, Bool.true_or, Bool.or_self]
      unfold tr3 at q1
      by_cases h : rgS S v s a 2 x k ≤ b.1
      · rw [if_pos h] at q1 ⊢
        exact q1
      · rw [if_neg h] at q1 ⊢
        simp only [o1_2, o2_2] at q1
        exact q1
theorem M_ch3 {v s a : Nat} {u : AW} (T : Top L xs u) (R : RA S u) (If : IMf S) (Is : IMsy S) (N : NT S v s u) (ha : a < 16) (SZ : Int32) (rec191 : Nat → Int32 → Int32 → Int32 → Int32 → Int32 → Int32 → AW → Option (Int32 × AW)) : ∀ j fu k (w : AW) (b : Nat × Nat × Nat × Nat), b = ch3 S v s a k → CF2 u w → k + j = nS S → j < fu → ∃ w', F_M_learn_200 rec191 fu 271 SZ (nI a) (o1 b.2.1 b.2.2.1) (o2 b.2.1 b.2.2.2) (nI b.1) (nI 2) (nI k) w = rec191 271 SZ (nI a) (o1 (ch3 S v s a (nS S)).2.1 (ch3 S v s a (nS S)).2.2.1) (o2 (ch3 S v s a (nS S)).2.1 (ch3 S v s a (nS S)).2.2.2) (nI (ch3 S v s a (nS S)).1) (nI 3) w' ∧ CF2 u w' := by
  intro j
  induction j with
  | zero =>
    intro fu k w b hb f hk hf
    obtain ⟨fu, rfl⟩ : ∃ m, fu = m + 1 := ⟨fu - 1, by omega⟩
    obtain rfl : k = nS S := by omega
    have h8 := Is.2.1
    have Tw := T.sh f.1.sh
    refine ⟨w, ?_, f⟩
    show F_M_learn_200_B rec191 (F_M_learn_200 rec191 fu) _ _ _ _ _ _ _ _ w = _
    unfold F_M_learn_200_B
    simp (disch := omega) only [qL, ↓qM, mK Tw, rf29 (f.ra R), Is.1, q_le, nI_add, gd_true, beq_self_eq_true, bd_s, if_true, if_false, ↓reduceIte, ite_true, ite_false, Bool.and_self, Bool.and_true, Bool.true_and, Nat.reduceBEq, Bool.or_true, Bool.true_or, Bool.or_self]
    rw [if_pos (Nat.le_refl _), hb]
  | succ j ih =>
    intro fu k w b hb f hk hf
    obtain ⟨fu, rfl⟩ : ∃ m, fu = m + 1 := ⟨fu - 1, by omega⟩
    have h8 := Is.2.1
    have Tw := T.sh f.1.sh
    have hbo := ch3_ok S v s a k
    rw [← hb] at hbo
    have hb1 : b.1 ≤ 4383 := hbo.1
    obtain ⟨w1, p1, f1⟩ := M_ch2 T R If Is N ha (show k < nS S by omega) SZ rec191 (F_M_learn_200 rec191 fu) hbo (nS S) FUEL 0 w b rfl f (by omega) (Nat.lt_of_le_of_lt h8 (by decide))
    obtain ⟨w', q1, q2⟩ := ih fu (k + 1) w1 (ch2 S v s a k b (nS S)) (by rw [hb]; rfl) f1 (by omega) (by omega)
    refine ⟨w', ?_, q2⟩
    show F_M_learn_200_B rec191 (F_M_learn_200 rec191 fu) _ _ _ _ _ _ _ _ w = _
    unfold F_M_learn_200_B
    simp (disch := omega) only [qL, ↓qM, mK Tw, rf29 (f.ra R), Is.1, q_le, q_eq, gd_true, beq_self_eq_true, bd_s, if_true, if_false, ↓reduceIte, ite_true, ite_false, Bool.and_self, Bool.and_true, Bool.true_and, Nat.reduceBEq, Bool.or_true, Bool.true_or, Bool.or_self]
    rw [if_neg (by omega), if_neg (by omega)]
    exact p1.trans q1
end
