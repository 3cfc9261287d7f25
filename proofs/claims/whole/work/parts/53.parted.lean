/-! PURE: parted, one, home -/
def one' (S : Nat → Nat → Int32) (k v n : Nat) : Bool := hld S k 0 v n && seS S k n
def pP (S : Nat → Nat → Int32) (k j v n : Nat) : Bool := !opS S k 0 v n && sk S k v n && (!opS S j 0 v n && sk S j v n) && ((one' S k v n ^^ one' S j v n) || (one' S k v n && (sw S k v n ^^ sw S j v n)))
def ptS (S : Nat → Nat → Int32) (k j v : Nat) : Nat := cnt (pP S k j v) 1461
theorem A_partedDays {L : Nat} {xs : Nat → Int32} {S : Nat → Nat → Int32} {w : AW} (I : Inv L xs S w) {k j v : Nat} (hk : k < nS S) (hj : j < nS S) (hv : v < 3) : ∃ w', F_A_partedDays 16 (wr w 37 k) (wr w 37 j) (179 + 2 * v) w = some (nI (ptS S k j v), w') ∧ DF (fun x => x < 200) w w' := by
  obtain ⟨u1, e1, f1, a0, a1, a2, I1⟩ := rdOf I hk hv in88
  have hj2 : wr w 37 j = wr u1 37 j := (f1.2.2.2.2.1 37 j).symm
  obtain ⟨u2, e2, f2, b0, b1, b2, I2⟩ := rdOf I1 hj hv in111
  have F1 : DF (fun x => x < 200) w u1 := f1.mono (rd_lt in88)
  have F2 : DF (fun x => x < 200) w u2 := F1.trans (f2.mono (rd_lt in111))
  have nA : ∀ {a : Nat}, 89 ≤ a → a ≤ 110 → ¬ rdA 111 a := fun h1 h2 h => by unfold rdA scA at h; omega
  have T2 := I2.1
  have W2 : WFs u2 := I2.2.2.2.2.2.2.2.2.2
  obtain ⟨u3, e3, f3, g3⟩ := X_take (tD T2 (show 134 ∈ DTab by decide)) (tD T2 (show 101 ∈ DTab by decide)) (W2 _ (show 101 ∈ DTab by decide))
  have F3 := F2.trans (f3.mono (B := fun x => x < 200) (fun x hx => by omega))
  have T3 := T2.sh f3.sh
  have W3 := f3.wfs W2
  obtain ⟨u4, e4, f4, g4⟩ := X_differ (tD T3 (show 134 ∈ DTab by decide)) (tD T3 (show 124 ∈ DTab by decide)) (W3 _ (show 134 ∈ DTab by decide)) (W3 _ (show 124 ∈ DTab by decide))
  have F4 := F3.trans (f4.mono (B := fun x => x < 200) (fun x hx => by omega))
  have T4 := T3.sh f4.sh
  have W4 := f4.wfs W3
  obtain ⟨u5, e5, f5, g5⟩ := X_differ (tD T4 (show 103 ∈ DTab by decide)) (tD T4 (show 126 ∈ DTab by decide)) (W4 _ (show 103 ∈ DTab by decide)) (W4 _ (show 126 ∈ DTab by decide))
  have F5 := F4.trans (f5.mono (B := fun x => x < 200) (fun x hx => by omega))
  have T5 := T4.sh f5.sh
  have W5 := f5.wfs W4
  obtain ⟨u6, e6, f6, g6⟩ := X_join (tD T5 (show 134 ∈ DTab by decide)) (tD T5 (show 103 ∈ DTab by decide)) (W5 _ (show 134 ∈ DTab by decide)) (W5 _ (show 103 ∈ DTab by decide))
  have F6 := F5.trans (f6.mono (B := fun x => x < 200) (fun x hx => by omega))
  have T6 := T5.sh f6.sh
  have W6 := f6.wfs W5
  obtain ⟨u7, e7, f7, g7⟩ := X_meet (tD T6 (show 134 ∈ DTab by decide)) (tD T6 (show 91 ∈ DTab by decide)) (W6 _ (show 134 ∈ DTab by decide)) (W6 _ (show 91 ∈ DTab by decide))
  have F7 := F6.trans (f7.mono (B := fun x => x < 200) (fun x hx => by omega))
  have T7 := T6.sh f7.sh
  have W7 := f7.wfs W6
  obtain ⟨u8, e8, f8, g8⟩ := X_meet (tD T7 (show 134 ∈ DTab by decide)) (tD T7 (show 95 ∈ DTab by decide)) (W7 _ (show 134 ∈ DTab by decide)) (W7 _ (show 95 ∈ DTab by decide))
  have F8 := F7.trans (f8.mono (B := fun x => x < 200) (fun x hx => by omega))
  have T8 := T7.sh f8.sh
  have W8 := f8.wfs W7
  obtain ⟨u9, e9, f9, g9⟩ := X_meet (tD T8 (show 134 ∈ DTab by decide)) (tD T8 (show 114 ∈ DTab by decide)) (W8 _ (show 134 ∈ DTab by decide)) (W8 _ (show 114 ∈ DTab by decide))
  have F9 := F8.trans (f9.mono (B := fun x => x < 200) (fun x hx => by omega))
  have T9 := T8.sh f9.sh
  have W9 := f9.wfs W8
  obtain ⟨u10, e10, f10, g10⟩ := X_meet (tD T9 (show 134 ∈ DTab by decide)) (tD T9 (show 118 ∈ DTab by decide)) (W9 _ (show 134 ∈ DTab by decide)) (W9 _ (show 118 ∈ DTab by decide))
  have F10 := F9.trans (f10.mono (B := fun x => x < 200) (fun x hx => by omega))
  have T10 := T9.sh f10.sh
  have W10 := f10.wfs W9
  have key : ∀ n, n < 1461 → gD u10 134 n = pP S k j v n := fun n hn => by
    obtain ⟨z1, z3, z5⟩ := a0 n hn
    obtain ⟨z7, z9⟩ := a1 n hn
    obtain ⟨z11, z13, z15, z17⟩ := a2 n hn
    obtain ⟨y1, y3, y5⟩ := b0 n hn
    obtain ⟨y7, y9⟩ := b1 n hn
    obtain ⟨y11, y13, y15, y17⟩ := b2 n hn
    rw [g10 n hn, g9 n hn, g8 n hn, g7 n hn, g6 n hn, g5 n hn, f5.g (by omega), g4 n hn, g3 n hn]
    rw [f9.g (b := 118) (by omega), f8.g (b := 118) (by omega), f7.g (b := 118) (by omega), f6.g (b := 118) (by omega), f5.g (b := 118) (by omega), f4.g (b := 118) (by omega), f3.g (b := 118) (by omega)]
    rw [f8.g (b := 114) (by omega), f7.g (b := 114) (by omega), f6.g (b := 114) (by omega), f5.g (b := 114) (by omega), f4.g (b := 114) (by omega), f3.g (b := 114) (by omega)]
    rw [f7.g (b := 95) (by omega), f6.g (b := 95) (by omega), f5.g (b := 95) (by omega), f4.g (b := 95) (by omega), f3.g (b := 95) (by omega), f2.g (b := 95) (nA (by omega) (by omega))]
    rw [f6.g (b := 91) (by omega), f5.g (b := 91) (by omega), f4.g (b := 91) (by omega), f3.g (b := 91) (by omega), f2.g (b := 91) (nA (by omega) (by omega))]
    rw [f4.g (b := 103) (by omega), f3.g (b := 103) (by omega), f2.g (b := 103) (nA (by omega) (by omega)), f4.g (b := 126) (by omega), f3.g (b := 126) (by omega)]
    rw [f3.g (b := 124) (by omega), f2.g (b := 101) (nA (by omega) (by omega))]
    rw [show gD u1 101 n = _ from z13, show gD u1 103 n = _ from z15, show gD u1 91 n = _ from z3, show gD u1 95 n = _ from z7, show gD u2 124 n = _ from y13, show gD u2 126 n = _ from y15, show gD u2 114 n = _ from y3, show gD u2 118 n = _ from y7]
    unfold pP one' cn
    cases opS S k 0 v n <;> cases sk S k v n <;> cases opS S j 0 v n <;> cases sk S j v n <;> simp
    cases seS S k n <;> cases hld S k 0 v n <;> cases seS S j n <;> cases hld S j 0 v n <;> simp
  refine ⟨u10, ?_, F10⟩
  unfold F_A_partedDays
  rw [hj2]
  simp only [t16 I.1, t88 I.1, e1, t16 I1.1, t111 I1.1, e2, gd_true, beq_self_eq_true, bd_s, if_true, if_false, ↓reduceIte, ite_true, ite_false, Bool.and_self, Bool.and_true, Bool.true_and, Nat.reduceBEq, Bool.or_true, Bool.true_or, Bool.or_self]
  simp only [t16 T2, t88 T2, t111 T2, (tD T2 (show 134 ∈ DTab by decide)).1, e3, gd_true, beq_self_eq_true, bd_s, if_true, if_false, ↓reduceIte, ite_true, ite_false, Bool.and_self, Bool.and_true, Bool.true_and, Nat.reduceBEq, Bool.or_true, Bool.true_or, Bool.or_self]
  simp only [t16 T3, t88 T3, t111 T3, (tD T3 (show 134 ∈ DTab by decide)).1, e4, gd_true, beq_self_eq_true, bd_s, if_true, if_false, ↓reduceIte, ite_true, ite_false, Bool.and_self, Bool.and_true, Bool.true_and, Nat.reduceBEq, Bool.or_true, Bool.true_or, Bool.or_self]
  simp only [t16 T4, t88 T4, t111 T4, (tD T4 (show 103 ∈ DTab by decide)).1, e5, gd_true, beq_self_eq_true, bd_s, if_true, if_false, ↓reduceIte, ite_true, ite_false, Bool.and_self, Bool.and_true, Bool.true_and, Nat.reduceBEq, Bool.or_true, Bool.true_or, Bool.or_self]
  simp only [t16 T5, t88 T5, t111 T5, (tD T5 (show 134 ∈ DTab by decide)).1, e6, gd_true, beq_self_eq_true, bd_s, if_true, if_false, ↓reduceIte, ite_true, ite_false, Bool.and_self, Bool.and_true, Bool.true_and, Nat.reduceBEq, Bool.or_true, Bool.true_or, Bool.or_self]
  simp only [t16 T6, t88 T6, t111 T6, (tD T6 (show 134 ∈ DTab by decide)).1, e7, gd_true, beq_self_eq_true, bd_s, if_true, if_false, ↓reduceIte, ite_true, ite_false, Bool.and_self, Bool.and_true, Bool.true_and, Nat.reduceBEq, Bool.or_true, Bool.true_or, Bool.or_self]
  simp only [t16 T7, t88 T7, t111 T7, (tD T7 (show 134 ∈ DTab by decide)).1, e8, gd_true, beq_self_eq_true, bd_s, if_true, if_false, ↓reduceIte, ite_true, ite_false, Bool.and_self, Bool.and_true, Bool.true_and, Nat.reduceBEq, Bool.or_true, Bool.true_or, Bool.or_self]
  simp only [t16 T8, t88 T8, t111 T8, (tD T8 (show 134 ∈ DTab by decide)).1, e9, gd_true, beq_self_eq_true, bd_s, if_true, if_false, ↓reduceIte, ite_true, ite_false, Bool.and_self, Bool.and_true, Bool.true_and, Nat.reduceBEq, Bool.or_true, Bool.true_or, Bool.or_self]
  simp only [t16 T9, t88 T9, t111 T9, (tD T9 (show 134 ∈ DTab by decide)).1, e10, gd_true, beq_self_eq_true, bd_s, if_true, if_false, ↓reduceIte, ite_true, ite_false, Bool.and_self, Bool.and_true, Bool.true_and, Nat.reduceBEq, Bool.or_true, Bool.true_or, Bool.or_self]
  simp only [t16 T10, (tD T10 in134).1, D_size (tD T10 in134) (W10 _ in134), gd_true, beq_self_eq_true, bd_s, if_true, if_false, ↓reduceIte, ite_true, ite_false, Bool.and_self, Bool.and_true, Bool.true_and, Nat.reduceBEq, Bool.or_true, Bool.true_or, Bool.or_self]
  rw [cnt_congr 1461 key]
  rfl
theorem sI_ne {S : Nat → Nat → Int32} {k j v n : Nat} (hk : sk S k v n = true) (hj : sk S j v n = true) : (sI S k v n = sI S j v n) = (sw S k v n = sw S j v n) := by
  unfold sI
  rw [if_pos hk, if_pos hj]
  cases sw S k v n <;> cases sw S j v n <;> simp [nI_eq]
theorem M_partedOf {L : Nat} {xs : Nat → Int32} {w : AW} (T : Top L xs w) {S : Nat → Nat → Int32} (R : RA S w) (If : IMf S) (Is : IMs S) {k j v : Nat} (hk : k < 8) (hj : j < 8) (hv : v < 3) (Ik : IMk S k) (Ij : IMk S j) : ∃ w', F_M_partedOf 271 (nI k) (nI j) (nI v) w = some (nI (ptS S k j v), w') ∧ MQs S w w' := by
  have loop : ∀ i fu n (u : AW), n + i = 1461 → i < fu → MQs S w u → ∃ w', F_M_partedOf_6 fu 271 (nI k) (nI j) (nI v) (nI (cnt (pP S k j v) n)) (nI n) u = some (nI (ptS S k j v), w') ∧ MQs S w w' := by
    intro i
    induction i with
    | zero =>
      intro fu n u hi hf hu
      obtain ⟨fu, rfl⟩ : ∃ m, fu = m + 1 := ⟨fu - 1, by omega⟩
      obtain rfl : n = 1461 := by omega
      refine ⟨u, ?_, hu⟩
      show F_M_partedOf_6_B (F_M_partedOf_6 fu) _ _ _ _ _ _ u = _
      unfold F_M_partedOf_6_B
      simp (disch := omega) only [qL, ↓qM, q_le]
      rw [if_pos (by omega)]; rfl
    | succ i ih =>
      intro fu n u hi hf hu
      obtain ⟨fu, rfl⟩ : ∃ m, fu = m + 1 := ⟨fu - 1, by omega⟩
      have hn : n < 1461 := by omega
      have T1 := T.sh hu.1.sh
      obtain ⟨u1, e1, q1⟩ := M_firstOf T1 hu.2 hk hv hn Ik
      have T2 := T1.sh q1.1.sh
      obtain ⟨u2, e2, q2⟩ := M_secondOf T2 q1.2 hk hv hn Ik
      have T3 := T2.sh q2.1.sh
      obtain ⟨u3, e3, q3⟩ := M_firstOf T3 q2.2 hj hv hn Ij
      have T4 := T3.sh q3.1.sh
      obtain ⟨u4, e4, q4⟩ := M_secondOf T4 q3.2 hj hv hn Ij
      have T5 := T4.sh q4.1.sh
      have U := hu.trans (q1.trans (q2.trans (q3.trans q4)))
      have s1 := M_isInSeason T5 q4.2 If Is hk hn Ik
      have s2 := M_isInSeason T5 q4.2 If Is hj hn Ij
      have cont : ∀ b : Bool, pP S k j v n = b → ∃ w', F_M_partedOf_6 fu 271 (nI k) (nI j) (nI v) (nI (cnt (pP S k j v) n + (if b = true then 1 else 0))) (nI (n + 1)) u4 = some (nI (ptS S k j v), w') ∧ MQs S w w' := fun b hb => by
        have r := ih fu (n + 1) u4 (by omega) (by omega) U
        rw [cnt_s, hb] at r
        exact r
      show ∃ w', F_M_partedOf_6_B (F_M_partedOf_6 fu) _ _ _ _ _ _ u = _ ∧ _
      unfold F_M_partedOf_6_B
      have hle : ¬ (1461 : Int32) ≤ nI n := by rw [l_1461, nI_leI (by omega) (by omega)]; omega
      rw [if_neg hle, gd_t (by rw [mK T1]; rfl), e1, bd_s]
      dsimp only
      rw [gd_t (by rw [mK T2]; rfl), e2, bd_s]
      dsimp only
      rw [gd_t (by rw [mK T3]; rfl), e3, bd_s]
      dsimp only
      rw [gd_t (by rw [mK T4]; rfl), e4, bd_s]
      dsimp only
      rw [gd_t (by rw [mK T5]; rfl), s1, bd_s]
      simp only [qL, ↓qM, fI_m, fI_1, sI_m, q_b0, nI_add]
      by_cases h1 : opS S k 0 v n = true
      · rw [if_pos h1]; exact cont false (by unfold pP; rw [h1]; rfl)
      · rw [if_neg h1]
        have h1' : opS S k 0 v n = false := by simpa using h1
        by_cases h2 : sk S k v n = false
        · rw [if_pos h2]; exact cont false (by unfold pP; rw [h2]; simp)
        · rw [if_neg h2]
          have h2' : sk S k v n = true := by simpa using h2
          by_cases h3 : opS S j 0 v n = true
          · rw [if_pos h3]; exact cont false (by unfold pP; rw [h3]; simp)
          · rw [if_neg h3]
            have h3' : opS S j 0 v n = false := by simpa using h3
            by_cases h4 : sk S j v n = false
            · rw [if_pos h4]; exact cont false (by unfold pP; rw [h4]; simp)
            · rw [if_neg h4]
              have h4' : sk S j v n = true := by simpa using h4
              have ep : pP S k j v n = ((one' S k v n ^^ one' S j v n) || (one' S k v n && (sw S k v n ^^ sw S j v n))) := by
                unfold pP; rw [h1', h2', h3', h4']; simp
              have c122 : ∀ a b : Bool, one' S k v n = a → one' S j v n = b → ∃ w', F_M_partedOf_122 (F_M_partedOf_6 fu) 271 (nI k) (nI j) (nI v) (nI (cnt (pP S k j v) n)) (nI n) (sI S k v n) (sI S j v n) (nI a.toNat) (nI b.toNat) u4 = some (nI (ptS S k j v), w') ∧ MQs S w w' := by
                intro a b ha hb
                unfold F_M_partedOf_122 F_M_partedOf_145 F_M_partedOf_149
                simp only [qL, ↓qM, nI_add, q_b0, sI_ne h2' h4']
                rw [ha, hb] at ep
                cases a <;> cases b
                · rw [if_pos rfl, if_pos rfl]; exact cont false (by rw [ep]; rfl)
                · rw [if_neg (by decide)]; exact cont true (by rw [ep]; rfl)
                · rw [if_neg (by decide)]; exact cont true (by rw [ep]; rfl)
                · rw [if_pos rfl, if_neg (by simp)]
                  by_cases hs : sw S k v n = sw S j v n
                  · rw [if_pos hs]; exact cont false (by rw [ep, hs]; simp)
                  · rw [if_neg hs]; exact cont true (by
                      rw [ep]
                      revert hs
                      cases sw S k v n <;> cases sw S j v n <;> simp)
              have c99 : ∀ a : Bool, one' S k v n = a → ∃ w', F_M_partedOf_99 (F_M_partedOf_6 fu) 271 (nI k) (nI j) (nI v) (nI (cnt (pP S k j v) n)) (nI n) (sI S k v n) (fI S j v n) (sI S j v n) (nI a.toNat) u4 = some (nI (ptS S k j v), w') ∧ MQs S w w' := by
                intro a ha
                unfold F_M_partedOf_99
                simp only [qL, ↓qM, mK T5, fI_1, s2, q_b0, gd_true, beq_self_eq_true, bd_s, if_true, if_false, ↓reduceIte, ite_true, ite_false, Bool.and_self, Bool.and_true, Bool.true_and, Nat.reduceBEq, Bool.or_true, Bool.true_or, Bool.or_self]
                by_cases h5 : opS S j 0 v n = false ∧ hld S j 0 v n = true
                · rw [if_pos h5]
                  by_cases h6 : seS S j n = false
                  · rw [if_pos h6]; exact c122 a false ha (by unfold one'; rw [h6]; simp)
                  · rw [if_neg h6]; exact c122 a true ha (by unfold one'; rw [h5.2, show seS S j n = true by simpa using h6]; rfl)
                · rw [if_neg h5]
                  exact c122 a false ha (by
                    unfold one'
                    have : hld S j 0 v n = false := by
                      cases hh : hld S j 0 v n
                      · rfl
                      · exact absurd ⟨h3', hh⟩ h5
                    rw [this]; rfl)
              by_cases h5 : opS S k 0 v n = false ∧ hld S k 0 v n = true
              · rw [if_pos h5]
                by_cases h6 : seS S k n = false
                · rw [if_pos h6]; exact c99 false (by unfold one'; rw [h6]; simp)
                · rw [if_neg h6]; exact c99 true (by unfold one'; rw [h5.2, show seS S k n = true by simpa using h6]; rfl)
              · rw [if_neg h5]
                exact c99 false (by
                  unfold one'
                  have : hld S k 0 v n = false := by
                    cases hh : hld S k 0 v n
                    · rfl
                    · exact absurd ⟨h1', hh⟩ h5
                  rw [this]; rfl)
  unfold F_M_partedOf
  rw [l_0]
  exact loop 1461 FUEL 0 w (by omega) (by decide) (MQs.refl R)
theorem pt_le (S : Nat → Nat → Int32) (k j v : Nat) : ptS S k j v ≤ 1461 := cnt_le _ _
theorem S_parted {L : Nat} {xs : Nat → Int32} {S : Nat → Nat → Int32} {w : AW} (I : Inv L xs S w) (x1 x2 x3 : Int32) : STEP L xs w (F_A_parted 16 x1 x2 x3) (F_M_parted 271 x1 x2 x3) := by
  have T := I.1
  have Is := I.2.2.1.2.2.2.2.1
  have hS := A_sayingOf T Is I.2.2.2.2.2.2.1 x1
  have hJ := A_sayingOf T Is I.2.2.2.2.2.2.1 x2
  have hV := A_diaryOf T x3
  have hMS := M_isSaying T I.2.1 Is x1
  have hMJ := M_isSaying T I.2.1 Is x2
  by_cases hk : 0 ≤ x1.toInt ∧ x1.toInt < nS S
  · rw [if_pos hk] at hS
    rw [decide_eq_true hk] at hMS
    have hkn : nat x1 < nS S := by unfold nat; omega
    have hx1 : x1 = nI (nat x1) := by unfold nat; exact q_ofI hk.1
    have sa := I.say hkn
    have ik := I.k8 hkn
    by_cases hj : 0 ≤ x2.toInt ∧ x2.toInt < nS S
    · rw [if_pos hj] at hJ
      rw [decide_eq_true hj] at hMJ
      have hjn : nat x2 < nS S := by unfold nat; omega
      have hx2 : x2 = nI (nat x2) := by unfold nat; exact q_ofI hj.1
      have sj := I.say hjn
      have ij := I.k8 hjn
      by_cases hv : 0 ≤ x3.toInt ∧ x3.toInt ≤ 2
      · rw [if_pos hv] at hV
        obtain ⟨v, rfl, hv3⟩ := q_of hv.1 (n := 2) hv.2 (by omega)
        rw [nat_nI (by omega)] at hV
        have hvi : (nI v).toInt = (v : Int) := nI_toInt (by omega)
        obtain ⟨w2, e2, F2⟩ := A_partedDays I hkn hjn (show v < 3 by omega)
        have I2 := I.df F2 (fun a h => h)
        obtain ⟨w3, m1, m2⟩ := M_partedOf I2.1 I2.2.1 I2.2.2.1.1 I2.2.2.1.2.1 ik.1 ij.1 (show v < 3 by omega) ik.2 ij.2
        rw [← hx1, ← hx2] at m1
        have hMS2 := M_isSaying I2.1 I2.2.1 Is x1
        rw [decide_eq_true hk] at hMS2
        have hMJ2 := M_isSaying I2.1 I2.2.1 Is x2
        rw [decide_eq_true hj] at hMJ2
        refine STEP.query I (r := nI (ptS S (nat x1) (nat x2) v)) ?_ F2 (fun a h => h) ?_ m2
        · unfold F_A_parted
          simp (disch := omega) only [qL, ↓qM, t16 T, hS, hJ, hV, sa.2, sj.2, e2, gd_true, beq_self_eq_true, bd_s, if_true, if_false, ↓reduceIte, ite_true, ite_false, Bool.and_self, Bool.and_true, Bool.true_and, Nat.reduceBEq, Bool.or_true, Bool.true_or, Bool.or_self]
          rw [if_neg (by omega)]
        · unfold F_M_parted
          simp (disch := omega) only [qL, ↓qM, mK I2.1, hMS2, hMJ2, q_b0, M_valley, hvi, gd_true, beq_self_eq_true, bd_s, if_true, if_false, ↓reduceIte, ite_true, ite_false, Bool.and_self, Bool.and_true, Bool.true_and, Nat.reduceBEq, Bool.or_true, Bool.true_or, Bool.or_self]
          rw [if_neg (by simp), if_neg (by simp), if_neg (by omega), m1, bd_s]
      · rw [if_neg hv] at hV
        refine STEP.pure I (r := mI 101) ?_ ?_
        · unfold F_A_parted
          simp only [qL, ↓qM, t16 T, hS, hJ, hV, sa.2, sj.2, gd_true, beq_self_eq_true, bd_s, if_true, if_false, ↓reduceIte, ite_true, ite_false, Bool.and_self, Bool.and_true, Bool.true_and, Nat.reduceBEq, Bool.or_true, Bool.true_or, Bool.or_self]
        · unfold F_M_parted
          simp only [qL, ↓qM, mK T, hMS, hMJ, q_b0, M_valley, gd_true, beq_self_eq_true, bd_s, if_true, if_false, ↓reduceIte, ite_true, ite_false, Bool.and_self, Bool.and_true, Bool.true_and, Nat.reduceBEq, Bool.or_true, Bool.true_or, Bool.or_self]
          rw [if_neg (by simp), if_neg (by simp), if_pos hv]
    · rw [if_neg hj] at hJ
      rw [decide_eq_false hj] at hMJ
      refine STEP.pure I (r := mI 101) ?_ ?_
      · unfold F_A_parted
        simp only [qL, ↓qM, t16 T, hS, hJ, hV, sa.2, gd_true, beq_self_eq_true, bd_s, if_true, if_false, ↓reduceIte, ite_true, ite_false, Bool.and_self, Bool.and_true, Bool.true_and, Nat.reduceBEq, Bool.or_true, Bool.true_or, Bool.or_self]
      · unfold F_M_parted
        simp only [qL, ↓qM, mK T, hMS, hMJ, q_b0, gd_true, beq_self_eq_true, bd_s, if_true, if_false, ↓reduceIte, ite_true, ite_false, Bool.and_self, Bool.and_true, Bool.true_and, Nat.reduceBEq, Bool.or_true, Bool.true_or, Bool.or_self]
        rw [if_neg (by simp)]
  · rw [if_neg hk] at hS
    rw [decide_eq_false hk] at hMS
    refine STEP.pure I (r := mI 101) ?_ ?_
    · unfold F_A_parted
      simp only [qL, ↓qM, t16 T, hS, hJ, hV, gd_true, beq_self_eq_true, bd_s, if_true, if_false, ↓reduceIte, ite_true, ite_false, Bool.and_self, Bool.and_true, Bool.true_and, Nat.reduceBEq, Bool.or_true, Bool.true_or, Bool.or_self]
    · unfold F_M_parted
      simp only [qL, ↓qM, mK T, hMS, q_b0, gd_true, beq_self_eq_true, bd_s, if_true, if_false, ↓reduceIte, ite_true, ite_false, Bool.and_self, Bool.and_true, Bool.true_and, Nat.reduceBEq, Bool.or_true, Bool.true_or, Bool.or_self]
theorem S_one {L : Nat} {xs : Nat → Int32} {S : Nat → Nat → Int32} {w : AW} (I : Inv L xs S w) (x1 x2 : Int32) : STEP L xs w (F_A_one 16 x1 x2) (F_M_one 271 x1 x2) := by
  have T := I.1
  have Is := I.2.2.1.2.2.2.2.1
  have hS := A_sayingOf T Is I.2.2.2.2.2.2.1 x1
  have hJ := A_sayingOf T Is I.2.2.2.2.2.2.1 x2
  have hMS := M_isSaying T I.2.1 Is x1
  have hMJ := M_isSaying T I.2.1 Is x2
  by_cases hk : 0 ≤ x1.toInt ∧ x1.toInt < nS S
  · rw [if_pos hk] at hS
    rw [decide_eq_true hk] at hMS
    have hkn : nat x1 < nS S := by unfold nat; omega
    have hx1 : x1 = nI (nat x1) := by unfold nat; exact q_ofI hk.1
    have sa := I.say hkn
    have ik := I.k8 hkn
    by_cases hj : 0 ≤ x2.toInt ∧ x2.toInt < nS S
    · rw [if_pos hj] at hJ
      rw [decide_eq_true hj] at hMJ
      have hjn : nat x2 < nS S := by unfold nat; omega
      have hx2 : x2 = nI (nat x2) := by unfold nat; exact q_ofI hj.1
      have sj := I.say hjn
      have ij := I.k8 hjn
      have b0 := pt_le S (nat x1) (nat x2) 0
      have b1 := pt_le S (nat x1) (nat x2) 1
      have b2 := pt_le S (nat x1) (nat x2) 2
      have step : ∀ fu v (u : AW), v < 3 → Inv L xs S u → (∀ a i, wr u a i = wr w a i) → ∃ u', DF (fun x => x < 200) u u' ∧ F_A_one_28 (fu + 1) 16 (wr w 37 (nat x1)) (wr w 37 (nat x2)) (nI v) u = (if ptS S (nat x1) (nat x2) v ≤ 0 then F_A_one_28 fu 16 (wr w 37 (nat x1)) (wr w 37 (nat x2)) (nI (v + 1)) u' else some (nI 0, u')) := by
        intro fu v u hv I1 hr
        obtain ⟨u', e, f⟩ := A_partedDays I1 hkn hjn hv
        rw [hr, hr] at e
        refine ⟨u', f, ?_⟩
        have bv := pt_le S (nat x1) (nat x2) v
        show F_A_one_28_B (F_A_one_28 fu) _ _ _ _ u = _
        unfold F_A_one_28_B
        simp (disch := omega) only [qL, ↓qM, q_le, t16 I1.1, tDi I1.1, tV I1.1 hv, q_inb, q_nat, e, nI_add, gd_true, beq_self_eq_true, bd_s, if_true, if_false, ↓reduceIte, ite_true, ite_false, Bool.and_self, Bool.and_true, Bool.true_and, Nat.reduceBEq, Bool.or_true, Bool.true_or, Bool.or_self]
        rw [if_neg (by omega)]
      have fin : ∀ fu (u : AW), F_A_one_28 (fu + 1) 16 (wr w 37 (nat x1)) (wr w 37 (nat x2)) (nI 3) u = some (nI 1, u) := by
        intro fu u
        show F_A_one_28_B (F_A_one_28 fu) _ _ _ _ u = _
        unfold F_A_one_28_B
        simp (disch := omega) only [qL, ↓qM, q_le, gd_true, beq_self_eq_true, bd_s, if_true, if_false, ↓reduceIte, ite_true, ite_false, Bool.and_self, Bool.and_true, Bool.true_and, Nat.reduceBEq, Bool.or_true, Bool.true_or, Bool.or_self]
        rw [if_pos (by omega)]
      have hA : ∃ w', F_A_one_28 FUEL 16 (wr w 37 (nat x1)) (wr w 37 (nat x2)) (nI 0) w = some (nI (if ptS S (nat x1) (nat x2) 0 + ptS S (nat x1) (nat x2) 1 + ptS S (nat x1) (nat x2) 2 = 0 then 1 else 0), w') ∧ DF (fun x => x < 200) w w' := by
        obtain ⟨u1, f1, e1⟩ := step 999999 0 w (by omega) I (fun _ _ => rfl)
        have I1 := I.df f1 (fun a h => h)
        obtain ⟨u2, f2, e2⟩ := step 999998 1 u1 (by omega) I1 (fun a i => f1.2.2.2.2.1 a i)
        have f12 := f1.trans f2
        have I2 := I.df f12 (fun a h => h)
        obtain ⟨u3, f3, e3⟩ := step 999997 2 u2 (by omega) I2 (fun a i => f12.2.2.2.2.1 a i)
        have e4 := fin 999996 u3
        rw [show FUEL = 999999 + 1 from rfl, e1]
        by_cases h0 : ptS S (nat x1) (nat x2) 0 ≤ 0
        · rw [if_pos h0, show (999999 : Nat) = 999998 + 1 from rfl, e2]
          by_cases h1 : ptS S (nat x1) (nat x2) 1 ≤ 0
          · rw [if_pos h1, show (999998 : Nat) = 999997 + 1 from rfl, e3]
            by_cases h2 : ptS S (nat x1) (nat x2) 2 ≤ 0
            · rw [if_pos h2, show (999997 : Nat) = 999996 + 1 from rfl, e4, if_pos (by omega)]
              exact ⟨u3, rfl, f12.trans f3⟩
            · rw [if_neg h2, if_neg (by omega)]
              exact ⟨u3, rfl, f12.trans f3⟩
          · rw [if_neg h1, if_neg (by omega)]
            exact ⟨u2, rfl, f12⟩
        · rw [if_neg h0, if_neg (by omega)]
          exact ⟨u1, rfl, f1⟩
      obtain ⟨w2, e2, F2⟩ := hA
      have I2 := I.df F2 (fun a h => h)
      obtain ⟨u1, n1, q1⟩ := M_partedOf I2.1 I2.2.1 I2.2.2.1.1 I2.2.2.1.2.1 ik.1 ij.1 (show 0 < 3 by omega) ik.2 ij.2
      have U1 := I2.1.sh q1.1.sh
      obtain ⟨u2, n2, q2⟩ := M_partedOf U1 q1.2 I2.2.2.1.1 I2.2.2.1.2.1 ik.1 ij.1 (show 1 < 3 by omega) ik.2 ij.2
      have U2 := U1.sh q2.1.sh
      obtain ⟨u3, n3, q3⟩ := M_partedOf U2 q2.2 I2.2.2.1.1 I2.2.2.1.2.1 ik.1 ij.1 (show 2 < 3 by omega) ik.2 ij.2
      rw [← hx1, ← hx2] at n1 n2 n3
      have hMS2 := M_isSaying I2.1 I2.2.1 Is x1
      rw [decide_eq_true hk] at hMS2
      have hMJ2 := M_isSaying I2.1 I2.2.1 Is x2
      rw [decide_eq_true hj] at hMJ2
      refine STEP.query I (r := nI (if ptS S (nat x1) (nat x2) 0 + ptS S (nat x1) (nat x2) 1 + ptS S (nat x1) (nat x2) 2 = 0 then 1 else 0)) (w2 := u3) ?_ F2 (fun a h => h) ?_ (q1.trans (q2.trans q3))
      · unfold F_A_one
        simp (disch := omega) only [qL, ↓qM, t16 T, hS, hJ, sa.2, sj.2, e2, gd_true, beq_self_eq_true, bd_s, if_true, if_false, ↓reduceIte, ite_true, ite_false, Bool.and_self, Bool.and_true, Bool.true_and, Nat.reduceBEq, Bool.or_true, Bool.true_or, Bool.or_self]
      · unfold F_M_one
        simp (disch := omega) only [qL, ↓qM, mK I2.1, mK U1, mK U2, hMS2, hMJ2, q_b0, n1, n2, n3, nI_add, q_eq, gd_true, beq_self_eq_true, bd_s, if_true, if_false, ↓reduceIte, ite_true, ite_false, Bool.and_self, Bool.and_true, Bool.true_and, Nat.reduceBEq, Bool.or_true, Bool.true_or, Bool.or_self]
        rw [if_neg (by simp), if_neg (by simp)]
        by_cases h : ptS S (nat x1) (nat x2) 0 + ptS S (nat x1) (nat x2) 1 + ptS S (nat x1) (nat x2) 2 = 0
        · rw [if_pos h, if_pos h]
        · rw [if_neg h, if_neg h]
    · rw [if_neg hj] at hJ
      rw [decide_eq_false hj] at hMJ
      refine STEP.pure I (r := mI 101) ?_ ?_
      · unfold F_A_one
        simp only [qL, ↓qM, t16 T, hS, hJ, sa.2, gd_true, beq_self_eq_true, bd_s, if_true, if_false, ↓reduceIte, ite_true, ite_false, Bool.and_self, Bool.and_true, Bool.true_and, Nat.reduceBEq, Bool.or_true, Bool.true_or, Bool.or_self]
      · unfold F_M_one
        simp only [qL, ↓qM, mK T, hMS, hMJ, q_b0, gd_true, beq_self_eq_true, bd_s, if_true, if_false, ↓reduceIte, ite_true, ite_false, Bool.and_self, Bool.and_true, Bool.true_and, Nat.reduceBEq, Bool.or_true, Bool.true_or, Bool.or_self]
        rw [if_neg (by simp)]
  · rw [if_neg hk] at hS
    rw [decide_eq_false hk] at hMS
    refine STEP.pure I (r := mI 101) ?_ ?_
    · unfold F_A_one
      simp only [qL, ↓qM, t16 T, hS, hJ, gd_true, beq_self_eq_true, bd_s, if_true, if_false, ↓reduceIte, ite_true, ite_false, Bool.and_self, Bool.and_true, Bool.true_and, Nat.reduceBEq, Bool.or_true, Bool.true_or, Bool.or_self]
    · unfold F_M_one
      simp only [qL, ↓qM, mK T, hMS, q_b0, gd_true, beq_self_eq_true, bd_s, if_true, if_false, ↓reduceIte, ite_true, ite_false, Bool.and_self, Bool.and_true, Bool.true_and, Nat.reduceBEq, Bool.or_true, Bool.true_or, Bool.or_self]
