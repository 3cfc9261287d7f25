/-! PURE: the reference reads a saying, day by day -/
theorem q_i32_0 : nI 0 &&& nI 1 = nI 0 := by decide +kernel
theorem q_i32_1 : nI 1 &&& nI 1 = nI 1 := by decide +kernel
theorem q_bb (b : Bool) : nI b.toNat &&& nI 1 = nI b.toNat := by cases b <;> decide +kernel
theorem M_isOpen {L : Nat} {xs : Nat → Int32} {w : AW} (T : Top L xs w) {S : Nat → Nat → Int32} (R : RA S w) {k p v n : Nat} (hk : k < 8) (hp : p < 2) (hv : v < 3) (hn : n < 1461) (Im : S 13 (12 * k + p) = nI (mkS S k p) ∧ mkS S k p < 16) : F_M_isOpen w 271 (nI k) (nI p) (nI v) (nI n) = some (nI (opS S k p v n).toNat) := by
  have loop : ∀ j fu f, f + j = 4 → j < fu → F_M_isOpen_6 w fu 271 (nI k) (nI p) (nI v) (nI n) (nI (opn S v (mkS S k p) n f).toNat) (nI f) = some (nI (opS S k p v n).toNat) := by
    intro j
    induction j with
    | zero =>
      intro fu f hj hf
      obtain ⟨fu, rfl⟩ : ∃ m, fu = m + 1 := ⟨fu - 1, by omega⟩
      obtain rfl : f = 4 := by omega
      show F_M_isOpen_6_B (F_M_isOpen_6 w fu) w _ _ _ _ _ _ _ = _
      unfold F_M_isOpen_6_B
      rw [gd_t (q_bm _)]
      simp (disch := omega) only [qL, ↓qM, q_le]
      rw [if_pos (by omega)]
      rfl
    | succ j ih =>
      intro fu f hj hf
      obtain ⟨fu, rfl⟩ : ∃ m, fu = m + 1 := ⟨fu - 1, by omega⟩
      have hx := fx_lt hv hn (show f < 4 by omega)
      have ih' := ih fu (f + 1) (by omega) (by omega)
      have e : opn S v (mkS S k p) n (f + 1) = (opn S v (mkS S k p) n f || ((mkS S k p).testBit f && gp S v n f)) := rfl
      rw [e] at ih'
      show F_M_isOpen_6_B (F_M_isOpen_6 w fu) w _ _ _ _ _ _ _ = _
      unfold F_M_isOpen_6_B F_M_isOpen_56
      simp (disch := omega) only [qL, ↓qM, q_le, q_b0, mK T, mSay T, mFld T, pk_mul, nI_add, q_inb, q_nat, ra13 R, Im.1, q_and31, q_tb, q_b1, M_at_n, ra5 R, gd_true, beq_self_eq_true, bd_s, if_true, if_false, ↓reduceIte, ite_true, ite_false, Bool.and_self, Bool.and_true, Bool.true_and, Nat.reduceBEq, Bool.or_true, Bool.true_or, Bool.or_self]
      rw [if_neg (by omega)]
      by_cases h0 : opn S v (mkS S k p) n f = false
      · rw [if_pos h0]
        rw [h0, Bool.false_or] at ih'
        by_cases hb : (mkS S k p).testBit f = true
        · rw [if_pos hb]
          rw [hb, Bool.true_and] at ih'
          unfold gp at ih'
          by_cases hg : S 5 (fx v n f) = mI 1000
          · rw [if_pos hg]; rw [decide_eq_true hg] at ih'; exact ih'
          · rw [if_neg hg]; rw [decide_eq_false hg] at ih'; exact ih'
        · rw [if_neg hb]
          rw [show (mkS S k p).testBit f = false by simpa using hb, Bool.false_and] at ih'
          exact ih'
      · rw [if_neg h0]
        rw [show opn S v (mkS S k p) n f = true by simpa using h0, Bool.true_or] at ih'
        exact ih'
  unfold F_M_isOpen
  rw [l_0]
  exact loop 4 FUEL 0 (by omega) (by decide)
/-- a reference's call that leaves no state -/
def MQs (S : Nat → Nat → Int32) (w u : AW) : Prop := AF w u ∧ RA S u
theorem MQs.refl {S : Nat → Nat → Int32} {w : AW} (R : RA S w) : MQs S w w := ⟨AF.refl w, R⟩
theorem MQs.trans {S : Nat → Nat → Int32} {u v w : AW} (h : MQs S u v) (g : MQs S v w) : MQs S u w := ⟨h.1.trans g.1, g.2⟩
theorem MQs.stk {S : Nat → Nat → Int32} {w : AW} (R : RA S w) (i : Nat) (x : Int32) : MQs S w (upI w 293 i x) := ⟨AF.upI w i x (by omega), R.ui 22 i x (by decide)⟩
/-- the reference's stack of truths -/
def SM (w : AW) (h : Nat) (st : List Bool) : Prop := st.length = h ∧ ∀ j, j < h → wi w 293 j = nI (st.getD (h - 1 - j) false).toNat
theorem prog_get {S : Nat → Nat → Int32} {k p i : Nat} (hi : i < nat (S 16 (2 * k + p))) : (prog S k p)[i]? = some (nat (S 14 (80 * (2 * k + p) + i)), (S 15 (80 * (2 * k + p) + i)).toInt) := by
  unfold prog
  rw [List.getElem?_map, List.getElem?_range hi]; rfl
theorem prog_len (S : Nat → Nat → Int32) (k p : Nat) : (prog S k p).length = nat (S 16 (2 * k + p)) := by unfold prog; simp
theorem SM_push {w : AW} {h : Nat} {st : List Bool} (K : SM w h st) (b : Bool) : SM (upI w 293 h (nI b.toNat)) (h + 1) (b :: st) := by
  refine ⟨by rw [List.length_cons, K.1], fun j hj => ?_⟩
  rw [wi_upI]
  by_cases e : j = h
  · rw [if_pos ⟨rfl, e⟩, show h + 1 - 1 - j = 0 by omega, List.getD_cons_zero]
  · rw [if_neg (fun q => e q.2), K.2 j (by omega), show h + 1 - 1 - j = h - 1 - j + 1 by omega, List.getD_cons_succ]
theorem SM_top {w : AW} {h : Nat} {b : Bool} {st : List Bool} (K : SM w h (b :: st)) (c : Bool) : SM (upI w 293 (h - 1) (nI c.toNat)) h (c :: st) := by
  have h1 := K.1
  rw [List.length_cons] at h1
  refine ⟨by rw [List.length_cons]; exact h1, fun j hj => ?_⟩
  rw [wi_upI]
  by_cases e : j = h - 1
  · rw [if_pos ⟨rfl, e⟩, show h - 1 - j = 0 by omega, List.getD_cons_zero]
  · obtain ⟨q, hq⟩ : ∃ q, h - 1 - j = q + 1 := ⟨h - 1 - j - 1, by omega⟩
    rw [if_neg (fun q => e q.2), K.2 j hj, hq, List.getD_cons_succ, List.getD_cons_succ]
theorem SM_pop {w : AW} {h : Nat} {a b : Bool} {st : List Bool} (K : SM w h (a :: b :: st)) (c : Bool) : SM (upI w 293 (h - 1 - 1) (nI c.toNat)) (h - 1) (c :: st) := by
  have h1 := K.1
  rw [List.length_cons, List.length_cons] at h1
  refine ⟨by rw [List.length_cons]; omega, fun j hj => ?_⟩
  rw [wi_upI]
  by_cases e : j = h - 1 - 1
  · rw [if_pos ⟨rfl, e⟩, show h - 1 - 1 - j = 0 by omega, List.getD_cons_zero]
  · obtain ⟨q, hq⟩ : ∃ q, h - 1 - j = q + 2 := ⟨h - 1 - j - 2, by omega⟩
    rw [if_neg (fun q => e q.2), K.2 j (by omega), hq, show h - 1 - 1 - j = q + 1 by omega, List.getD_cons_succ, List.getD_cons_succ, List.getD_cons_succ]
theorem cR_def (S : Nat → Nat → Int32) (v n m : Nat) (z : Int) : cR S v n m z = cmpI (m % 3) (S 5 (fx v n (m / 3))).toInt z := rfl
theorem M_holds {L : Nat} {xs : Nat → Int32} {w : AW} (T : Top L xs w) {S : Nat → Nat → Int32} (R : RA S w) {k p v n : Nat} (hk : k < 8) (hp : p < 2) (hv : v < 3) (hn : n < 1461) (Ip : IMp S k p) : ∃ w', F_M_holds 271 (nI k) (nI p) (nI v) (nI n) w = some (nI (hld S k p v n).toNat, w') ∧ MQs S w w' := by
  obtain ⟨i1, i2, i3, i4, i5, i6⟩ := Ip
  have loop : ∀ (Q : List (Nat × Int)) fu i h (u : AW) (st : List Bool), (prog S k p).drop i = Q → Q.length < fu → i ≤ nat (S 16 (2 * k + p)) → okh 81 Q h → MQs S w u → SM u h st → ∃ w', F_M_holds_6 fu 271 (nI k) (nI p) (nI v) (nI n) (nI h) (nI i) u = some (nI ((run (cR S v n) Q st).getD 0 false).toNat, w') ∧ MQs S w w' := by
    intro Q
    induction Q with
    | nil =>
      intro fu i h u st hd hf hi ho hu K
      obtain ⟨fu, rfl⟩ : ∃ m, fu = m + 1 := ⟨fu - 1, by omega⟩
      have hil : nat (S 16 (2 * k + p)) ≤ i := by
        have := congrArg List.length hd
        rw [List.length_drop, prog_len, List.length_nil] at this; omega
      have T1 := T.sh hu.1.sh
      have h1 : h = 1 := ho
      have k0 := K.2 0 (by omega)
      rw [h1] at k0
      refine ⟨u, ?_, hu⟩
      show F_M_holds_6_B (F_M_holds_6 fu) _ _ _ _ _ _ _ u = _
      unfold F_M_holds_6_B
      have hk0 : wi u 293 0 = nI (st.getD 0 false).toNat := k0
      simp (disch := omega) only [qL, ↓qM, mK T1, mSay T1, mStk T1, pk_mul, nI_add, q_inb, q_nat, ra16 hu.2, q_le]
      rw [i1]
      simp (disch := omega) only [q_le, hk0, gd_t (q_bm _), gd_true, beq_self_eq_true, bd_s, if_true, if_false, ↓reduceIte, ite_true, ite_false, Bool.and_self, Bool.and_true, Bool.true_and, Nat.reduceBEq, Bool.or_true, Bool.true_or, Bool.or_self]
      rw [if_pos hil, ← l_0, ← l_1, gd_t (q_bm _)]
      rfl
    | cons q Q ih =>
      intro fu i h u st hd hf hi ho hu K
      obtain ⟨m, z⟩ := q
      obtain ⟨fu, rfl⟩ : ∃ m, fu = m + 1 := ⟨fu - 1, by omega⟩
      have hPi : (prog S k p)[i]? = some (m, z) := by
        have := congrArg (fun l => l[0]?) hd
        simpa using this
      have hlt : i < nat (S 16 (2 * k + p)) := by
        rw [List.getElem?_eq_some_iff] at hPi
        have := hPi.1
        rw [prog_len] at this; exact this
      have hd2 : (prog S k p).drop (i + 1) = Q := by rw [← List.drop_drop, hd]; rfl
      rw [prog_get hlt] at hPi
      have hm : nat (S 14 (80 * (2 * k + p) + i)) = m ∧ (S 15 (80 * (2 * k + p) + i)).toInt = z := by simpa using hPi
      obtain ⟨j1, j2⟩ := i4 i hlt
      rw [hm.1] at j1 j2
      have T1 := T.sh hu.1.sh
      have ihx := fun h' u' st' => ih fu (i + 1) h' u' st' hd2 (by simp at hf; omega) hlt
      show ∃ w', F_M_holds_6_B (F_M_holds_6 fu) _ _ _ _ _ _ _ u = _ ∧ _
      unfold F_M_holds_6_B F_M_holds_257 F_M_holds_231 F_M_holds_144
      simp (disch := omega) only [qL, ↓qM, mK T1, mSay T1, mStk T1, mFld T1, pk_mul, nI_add, q_inb, q_nat, ra16 hu.2, ra14 hu.2, ra15 hu.2, j1, gd_true, beq_self_eq_true, bd_s, if_true, if_false, ↓reduceIte, ite_true, ite_false, Bool.and_self, Bool.and_true, Bool.true_and, Nat.reduceBEq, Bool.or_true, Bool.true_or, Bool.or_self]
      rw [i1]
      simp (disch := omega) only [q_le, q_eq, q_div, q_rem, M_at_n, gd_true, beq_self_eq_true, bd_s, if_true, if_false, ↓reduceIte, ite_true, ite_false, Bool.and_self, Bool.and_true, Bool.true_and, Nat.reduceBEq, Bool.or_true, Bool.true_or, Bool.or_self]
      rw [if_neg (by omega)]
      unfold okh at ho
      by_cases h12 : m < 12
      · rw [if_pos h12] at ho
        have hx := fx_lt hv hn (show m / 3 < 4 by omega)
        rw [if_neg (by omega : ¬ 12 ≤ m)]
        have push : ∀ b : Bool, cR S v n m z = b → ∃ w', F_M_holds_6 fu 271 (nI k) (nI p) (nI v) (nI n) (nI (h + 1)) (nI (i + 1)) (upI u 293 h (nI b.toNat)) = some (nI ((run (cR S v n) ((m, z) :: Q) st).getD 0 false).toNat, w') ∧ MQs S w w' := by
          intro b hb
          have e : run (cR S v n) ((m, z) :: Q) st = run (cR S v n) Q (b :: st) := by
            show run (cR S v n) Q (stp (cR S v n) (m, z) st) = _
            unfold stp
            rw [if_pos h12, hb]
          rw [e]
          exact ihx (h + 1) _ _ ho.2 (hu.trans (MQs.stk hu.2 _ _)) (SM_push K b)
        have c0 := cR_def S v n m z
        simp (disch := omega) only [q_inb, q_nat, ra5 hu.2, q_i32_0, q_i32_1, Int32.le_iff_toInt_le, hm.2, gd_true, beq_self_eq_true, bd_s, if_true, if_false, ↓reduceIte, ite_true, ite_false, Bool.and_self, Bool.and_true, Bool.true_and, Nat.reduceBEq, Bool.or_true, Bool.true_or, Bool.or_self]
        have hz : (S 5 (fx v n (m / 3)) = S 15 (80 * (2 * k + p) + i)) = ((S 5 (fx v n (m / 3))).toInt = z) := by
          apply propext; rw [← Int32.toInt_inj, hm.2]
        simp only [hz]
        unfold cmpI at c0
        by_cases m0 : m % 3 = 0
        · rw [if_pos m0]
          rw [if_pos m0] at c0
          by_cases hc : z ≤ (S 5 (fx v n (m / 3))).toInt
          · rw [if_pos hc]; exact push false (by rw [c0]; exact decide_eq_false (by omega))
          · rw [if_neg hc]; exact push true (by rw [c0]; exact decide_eq_true (by omega))
        · rw [if_neg m0]
          rw [if_neg m0] at c0
          by_cases m1 : m % 3 = 1
          · rw [if_pos m1]
            rw [if_pos m1] at c0
            by_cases hc : (S 5 (fx v n (m / 3))).toInt = z
            · rw [if_pos hc]; exact push true (by rw [c0]; exact decide_eq_true hc)
            · rw [if_neg hc]; exact push false (by rw [c0]; exact decide_eq_false hc)
          · rw [if_neg m1]
            rw [if_neg m1] at c0
            by_cases hc : (S 5 (fx v n (m / 3))).toInt ≤ z
            · rw [if_pos hc]; exact push false (by rw [c0]; exact decide_eq_false (by omega))
            · rw [if_neg hc]; exact push true (by rw [c0]; exact decide_eq_true (by omega))
      · rw [if_neg h12] at ho
        rw [if_pos (by omega : 12 ≤ m)]
        by_cases he : m = 12
        · rw [if_pos he] at ho ⊢
          cases st with
          | nil => have := K.1; simp at this; omega
          | cons b r =>
            have kt := K.2 (h - 1) (by omega)
            rw [show h - 1 - (h - 1) = 0 by omega, List.getD_cons_zero] at kt
            have e : run (cR S v n) ((m, z) :: Q) (b :: r) = run (cR S v n) Q ((!b) :: r) := by
              show run (cR S v n) Q (stp (cR S v n) (m, z) (b :: r)) = _
              unfold stp
              rw [if_neg h12, if_pos he]
            rw [e]
            simp (disch := omega) only [pk_sub, q_inb, q_nat, kt, q_b0, q_i32_0, q_i32_1, gd_true, beq_self_eq_true, bd_s, if_true, if_false, ↓reduceIte, ite_true, ite_false, Bool.and_self, Bool.and_true, Bool.true_and, Nat.reduceBEq, Bool.or_true, Bool.true_or, Bool.or_self]
            have fin := ihx h _ _ ho.2.2 (hu.trans (MQs.stk hu.2 (h - 1) (nI (!b).toNat))) (SM_top K (!b))
            cases b
            · rw [if_pos rfl]; exact fin
            · rw [if_neg (by simp)]; exact fin
        · rw [if_neg he] at ho ⊢
          cases st with
          | nil => have := K.1; simp at this; omega
          | cons a r0 =>
            cases r0 with
            | nil => have := K.1; simp at this; omega
            | cons b r =>
              have kt := K.2 (h - 1) (by omega)
              rw [show h - 1 - (h - 1) = 0 by omega, List.getD_cons_zero] at kt
              have ku := K.2 (h - 1 - 1) (by omega)
              rw [show h - 1 - (h - 1 - 1) = 0 + 1 by omega, List.getD_cons_succ, List.getD_cons_zero] at ku
              have e : run (cR S v n) ((m, z) :: Q) (a :: b :: r) = run (cR S v n) Q ((if m = 13 then b && a else b || a) :: r) := by
                show run (cR S v n) Q (stp (cR S v n) (m, z) (a :: b :: r)) = _
                unfold stp
                rw [if_neg h12, if_neg he]
              rw [e]
              simp (disch := omega) only [q_am, pk_sub, q_inb, q_nat, kt, ku, q_b0, q_i32_0, q_i32_1, gd_true, beq_self_eq_true, bd_s, if_true, if_false, ↓reduceIte, ite_true, ite_false, Bool.and_self, Bool.and_true, Bool.true_and, Nat.reduceBEq, Bool.or_true, Bool.true_or, Bool.or_self]
              have fin : ∀ c : Bool, (if m = 13 then b && a else b || a) = c → ∃ w', F_M_holds_6 fu 271 (nI k) (nI p) (nI v) (nI n) (nI (h - 1)) (nI (i + 1)) (upI u 293 (h - 1 - 1) (nI c.toNat)) = some (nI ((run (cR S v n) Q ((if m = 13 then b && a else b || a) :: r)).getD 0 false).toNat, w') ∧ MQs S w w' := by
                intro c hc
                rw [hc]
                exact ihx (h - 1) _ _ ho.2.2 (hu.trans (MQs.stk hu.2 (h - 1 - 1) (nI c.toNat))) (SM_pop K c)
              by_cases h13 : m = 13
              · rw [if_pos h13]
                cases b
                · rw [if_pos rfl]; exact fin false (by rw [if_pos h13]; rfl)
                · rw [if_neg (by simp)]
                  cases a
                  · rw [if_pos rfl]; exact fin false (by rw [if_pos h13]; rfl)
                  · rw [if_neg (by simp)]; exact fin true (by rw [if_pos h13]; rfl)
              · rw [if_neg h13]
                cases b
                · rw [if_pos rfl]
                  cases a
                  · rw [if_pos rfl]; exact fin false (by rw [if_neg h13]; rfl)
                  · rw [if_neg (by simp)]; exact fin true (by rw [if_neg h13]; rfl)
                · rw [if_neg (by simp)]; exact fin true (by rw [if_neg h13]; rfl)
  unfold F_M_holds
  rw [l_0]
  exact loop (prog S k p) FUEL 0 0 w [] rfl (by rw [prog_len]; exact Nat.lt_of_le_of_lt i2 (by decide)) (Nat.zero_le _) i3 (MQs.refl R) ⟨rfl, fun j hj => by omega⟩
