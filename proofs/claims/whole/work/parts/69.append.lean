/-! PURE: letters onto the page -/
/-- the state behind some letters more -/
def pgS (S : Nat → Nat → Int32) (p : Nat) (x : Int64) : Nat → Nat → Nat → Int32
  | 0 => S
  | t + 1 => uS (uS (pgS S p x t) 8 (p + t) (nI (byt x t))) 0 9 (nI (p + t + 1))
theorem pgS_r {S : Nat → Nat → Int32} {p : Nat} {x : Int64} {r : Nat} (h : r ≠ 0 ∧ r ≠ 8) : ∀ t, pgS S p x t r = S r
  | 0 => rfl
  | t + 1 => by
    show uS (uS (pgS S p x t) 8 (p + t) (nI (byt x t))) 0 9 (nI (p + t + 1)) r = S r
    rw [uS_ne h.1, uS_ne h.2, pgS_r h t]
theorem pgS_0 {S : Nat → Nat → Int32} {p : Nat} {x : Int64} {i : Nat} (h : i ≠ 9) : ∀ t, pgS S p x t 0 i = S 0 i
  | 0 => rfl
  | t + 1 => by
    show uS (uS (pgS S p x t) 8 (p + t) (nI (byt x t))) 0 9 (nI (p + t + 1)) 0 i = S 0 i
    rw [uS_nei (.inr h), uS_ne (by omega), pgS_0 h t]
theorem pgS_9 {S : Nat → Nat → Int32} {p : Nat} {x : Int64} (h : S 0 9 = nI p) : ∀ t, pgS S p x t 0 9 = nI (p + t)
  | 0 => h
  | t + 1 => uS_eq
theorem pgS_8 {S : Nat → Nat → Int32} {p : Nat} {x : Int64} : ∀ t i, pgS S p x t 8 i = if p ≤ i ∧ i < p + t then nI (byt x (i - p)) else S 8 i
  | 0, i => by rw [if_neg (by omega)]; rfl
  | t + 1, i => by
    show uS (uS (pgS S p x t) 8 (p + t) (nI (byt x t))) 0 9 (nI (p + t + 1)) 8 i = _
    rw [uS_nei (.inl (by omega))]
    by_cases e : i = p + t
    · rw [e, uS_eq, if_pos (by omega), show p + t - p = t by omega]
    · rw [uS_nei (.inr e), pgS_8 t i]
      by_cases h : p ≤ i ∧ i < p + t
      · rw [if_pos h, if_pos (by omega)]
      · rw [if_neg h, if_neg (by omega)]
theorem i8_ok : ∀ b, b ≤ 126 → Int8.toInt32 (Int32.toInt8 (Int8.toInt32 (Int32.toInt8 (nI b)))) = nI b := by decide +kernel
/-- the class's page behind some letters more -/
def pgW (w : AW) (p : Nat) (x : Int64) : Nat → AW
  | 0 => w
  | t + 1 => upI (upI (pgW w p x t) 24 (p + t) (nI (byt x t))) 23 0 (nI (p + t + 1))
theorem pgW_sh (w : AW) (p : Nat) (x : Int64) : ∀ t, Sh w (pgW w p x t)
  | 0 => Sh.refl w
  | t + 1 => (pgW_sh w p x t).trans ((Sh.upI _ _ _ (by omega)).trans (Sh.upI _ _ _ (by omega)))
theorem pgW_ne (w : AW) (p : Nat) (x : Int64) {a : Nat} (ha : a ≠ 23 ∧ a ≠ 24) : ∀ t i, wi (pgW w p x t) a i = wi w a i
  | 0, _ => rfl
  | t + 1, i => by
    show wi (upI (upI (pgW w p x t) 24 (p + t) (nI (byt x t))) 23 0 (nI (p + t + 1))) a i = _
    rw [wi_upI, if_neg (by omega), wi_upI, if_neg (by omega), pgW_ne w p x ha t i]
theorem pgW_j (w : AW) (p : Nat) (x : Int64) : ∀ t a i, wj (pgW w p x t) a i = wj w a i
  | 0, _, _ => rfl
  | t + 1, a, i => pgW_j w p x t a i
theorem pgW_23 {w : AW} {p : Nat} {x : Int64} (h : wi w 23 0 = nI p) : ∀ t, wi (pgW w p x t) 23 0 = nI (p + t)
  | 0 => h
  | t + 1 => by
    show wi (upI (upI (pgW w p x t) 24 (p + t) (nI (byt x t))) 23 0 (nI (p + t + 1))) 23 0 = _
    rw [wi_upI, if_pos ⟨rfl, rfl⟩]; rfl
theorem pgW_24 {w : AW} {p : Nat} {x : Int64} : ∀ t i, wi (pgW w p x t) 24 i = if p ≤ i ∧ i < p + t then nI (byt x (i - p)) else wi w 24 i
  | 0, i => by rw [if_neg (by omega)]; rfl
  | t + 1, i => by
    show wi (upI (upI (pgW w p x t) 24 (p + t) (nI (byt x t))) 23 0 (nI (p + t + 1))) 24 i = _
    rw [wi_upI, if_neg (by omega), wi_upI]
    by_cases e : i = p + t
    · rw [if_pos ⟨rfl, e⟩, e, if_pos (by omega), show p + t - p = t by omega]
    · rw [if_neg (fun q => e q.2), pgW_24 t i]
      by_cases h : p ≤ i ∧ i < p + t
      · rw [if_pos h, if_pos (by omega)]
      · rw [if_neg h, if_neg (by omega)]
theorem A_append {L : Nat} {xs : Nat → Int32} {w : AW} (T : Top L xs w) {x : Int64} {p : Nat} (hw : wi w 23 0 = nI p) (ho : okB x 8 = true) (hp : p + cz x 8 ≤ 80) : F_Pg_append 23 x (nI (cz x 8)) w = some (pgW w p x (cz x 8)) := by
  have h8 := cz_le x 8
  have loop : ∀ k fu t, t + k = cz x 8 → k < fu → F_Pg_append_3 fu 23 x (nI (cz x 8)) (nI t) (pgW w p x t) = some (pgW w p x (cz x 8)) := by
    intro k
    induction k with
    | zero =>
      intro fu t ht hf
      obtain ⟨fu, rfl⟩ : ∃ m, fu = m + 1 := ⟨fu - 1, by omega⟩
      show F_Pg_append_3_B (F_Pg_append_3 fu) _ _ _ _ _ = _
      unfold F_Pg_append_3_B
      simp (disch := omega) only [q_le]
      rw [if_pos (by omega), show t = cz x 8 by omega]
    | succ k ih =>
      intro fu t ht hf
      obtain ⟨fu, rfl⟩ : ∃ m, fu = m + 1 := ⟨fu - 1, by omega⟩
      have Tt := T.sh (pgW_sh w p x t)
      have hb := byt_in ho (show t < cz x 8 by omega)
      have h := ih fu (t + 1) (by omega) (by omega)
      show F_Pg_append_3_B (F_Pg_append_3 fu) _ _ _ _ _ = _
      unfold F_Pg_append_3_B
      simp (disch := omega) only [qL, ↓qM, q_le, A_wi, q_int, t23 Tt, pgW_23 hw, q_inb, q_nat, A_letterIn x hb.1, i8_ok _ hb.2.2, wi_upI, nI_add, gd_true, beq_self_eq_true, bd_s, if_true, if_false, ↓reduceIte, ite_true, ite_false, Bool.and_self, Bool.and_true, Bool.true_and, Nat.reduceBEq, Bool.or_true, Bool.true_or, Bool.or_self]
      rw [if_neg (by omega), if_neg (by omega), if_neg (show ¬ (23 = 24 ∧ 0 = p + t) by omega), nI_add]
      exact h
  exact loop (cz x 8) FUEL 0 (by omega) (Nat.lt_of_le_of_lt h8 (by decide))
theorem M_append {L : Nat} {xs : Nat → Int32} {S : Nat → Nat → Int32} {u : AW} (T : Top L xs u) (R : RA S u) {x : Int64} {p : Nat} (hs : S 0 9 = nI p) (ho : okB x 8 = true) (hp : p + cz x 8 ≤ 80) : ∃ v, F_M_letters_108 FUEL 271 x (nI (cz x 8)) (nI 0) u = some (nI (p + cz x 8), v) ∧ AF u v ∧ RA (pgS S p x (cz x 8)) v := by
  have h8 := cz_le x 8
  have loop : ∀ k fu t (u : AW), Top L xs u → RA (pgS S p x t) u → t + k = cz x 8 → k < fu → ∃ v, F_M_letters_108 fu 271 x (nI (cz x 8)) (nI t) u = some (nI (p + cz x 8), v) ∧ AF u v ∧ RA (pgS S p x (cz x 8)) v := by
    intro k
    induction k with
    | zero =>
      intro fu t u T R ht hf
      obtain ⟨fu, rfl⟩ : ∃ m, fu = m + 1 := ⟨fu - 1, by omega⟩
      obtain rfl : t = cz x 8 := by omega
      refine ⟨u, ?_, AF.refl u, R⟩
      show F_M_letters_108_B (F_M_letters_108 fu) _ _ _ _ u = _
      unfold F_M_letters_108_B
      simp (disch := omega) only [q_le, mK T, rf9 R, pgS_9 hs, gd_true, beq_self_eq_true, bd_s, if_true, if_false, ↓reduceIte, ite_true, ite_false, Bool.and_self, Bool.and_true, Bool.true_and, Nat.reduceBEq, Bool.or_true, Bool.true_or, Bool.or_self]
      rw [if_pos (Nat.le_refl _)]
    | succ k ih =>
      intro fu t u T R ht hf
      obtain ⟨fu, rfl⟩ : ∃ m, fu = m + 1 := ⟨fu - 1, by omega⟩
      have hb := byt_in ho (show t < cz x 8 by omega)
      have A1 : AF u (upI u (271 + 8) (p + t) (nI (byt x t))) := AF.upI u _ _ (by omega)
      have R1 := R.up 8 (p + t) (nI (byt x t)) (by decide)
      have R2 := R1.upK 9 (nI (p + t + 1)) (by decide)
      have A2 : AF (upI u (271 + 8) (p + t) (nI (byt x t))) (upI (upI u (271 + 8) (p + t) (nI (byt x t))) 271 9 (nI (p + t + 1))) := AF.upI _ _ _ (by omega)
      obtain ⟨v, q1, q2, q3⟩ := ih fu (t + 1) _ (T.sh (A1.trans A2).sh) R2 (by omega) (by omega)
      refine ⟨v, ?_, (A1.trans A2).trans q2, q3⟩
      have e32 : Int64.toInt32 (lshr6 x (nI (8 * t)) &&& 255) = nI (byt x t) := by rw [and255_32]; rfl
      have e9 : wi (upI u 279 (p + t) (nI (byt x t))) 271 9 = nI (p + t) := by rw [wi_upI, if_neg (by omega), rf9 R, pgS_9 hs]
      show F_M_letters_108_B (F_M_letters_108 fu) _ _ _ _ u = _
      unfold F_M_letters_108_B
      simp (disch := omega) only [qL, ↓qM, q_le, mK T, mPg T, rf9 R, pgS_9 hs, q_inb, q_nat, pk_mul, e32, e9, nI_add, gd_true, beq_self_eq_true, bd_s, if_true, if_false, ↓reduceIte, ite_true, ite_false, Bool.and_self, Bool.and_true, Bool.true_and, Nat.reduceBEq, Bool.or_true, Bool.true_or, Bool.or_self]
      rw [if_neg (by omega)]
      exact q1
  exact loop (cz x 8) FUEL 0 u T R (by omega) (Nat.lt_of_le_of_lt h8 (by decide))
theorem S_letters {L : Nat} {xs : Nat → Int32} {S : Nat → Nat → Int32} {w : AW} (I : Inv L xs S w) (x : Int64) : STEP L xs w (F_A_letters 16 x) (F_M_letters 271 x) := by
  have T := I.1
  have h8 := cz_le x 8
  have hp := I.2.2.1.2.2.2.1.2.1
  have h9 := I.2.2.1.2.2.2.1.1
  obtain ⟨a1, a2, a3, a4, a5, a6, a7⟩ := I.2.2.2
  by_cases ho : okB x 8 = true
  · by_cases hr : nP S + cz x 8 ≤ 80
    · have hw : wi w 23 0 = nI (nP S) := a3.1.trans h9
      have s1 := pgW_sh w (nP S) x (cz x 8)
      have T1 := T.sh s1
      have R1 : RA S (pgW w (nP S) x (cz x 8)) := by
        unfold RA
        rw [RS_eq (w := w) (fun a i h => pgW_ne w (nP S) x (by omega) _ i)]
        exact I.2.1
      obtain ⟨v, m1, m2, m3⟩ := M_append T1 R1 h9 ho hr
      have n9 : nP (pgS S (nP S) x (cz x 8)) = nP S + cz x 8 := by
        show nat (pgS S (nP S) x (cz x 8) 0 9) = _
        rw [pgS_9 h9, nat_nI (by omega)]
      refine ⟨nI (nP S + cz x 8), pgW w (nP S) x (cz x 8), v, pgS S (nP S) x (cz x 8), ?_, T1, ?_, Inv.mq T1 ?_ ?_ m2 m3⟩
      · unfold F_A_letters
        rw [A_lettersIn, if_pos ho]
        simp (disch := omega) only [qL, ↓qM, q_nm, q_le, t16 T, t23 T, hw, nI_add, A_append T hw ho hr, t16 T1, t23 T1, pgW_23 hw, gd_true, beq_self_eq_true, bd_s, if_true, if_false, ↓reduceIte, ite_true, ite_false, Bool.and_self, Bool.and_true, Bool.true_and, Nat.reduceBEq, Bool.or_true, Bool.true_or, Bool.or_self]
        rw [if_pos hr]
      · rw [M_letters_11 T1 R1, if_pos ho, h9, nI_add, if_pos (by rw [q_le (by omega) (by omega)]; exact hr)]
        exact m1
      · have i := I.2.2.1
        refine ⟨IMf_S (pgS_0 (by omega) _) i.1, IMs_S (pgS_r (by omega) _) (pgS_r (by omega) _) (pgS_r (by omega) _) (pgS_r (by omega) _) i.2.1, IMd_S (pgS_r (by omega) _) i.2.2.1, ?_, IMsy_S (pgS_0 (by omega) _) (pgS_r (by omega) _) (pgS_r (by omega) _) (pgS_r (by omega) _) (pgS_r (by omega) _) i.2.2.2.2.1, IMle_S (pgS_0 (by omega) _) (pgS_0 (by omega) _) (pgS_0 (by omega) _) (pgS_r (by omega) _) i.2.2.2.2.2⟩
        unfold IMpg
        rw [n9]
        refine ⟨pgS_9 h9 _, hr, fun j hj => ?_⟩
        rw [pgS_8]
        by_cases hjp : nP S ≤ j ∧ j < nP S + cz x 8
        · have hb := byt_in ho (show j - nP S < cz x 8 by omega)
          rw [if_pos hjp, nat_nI (by omega)]
          exact ⟨rfl, hb.2.1, hb.2.2⟩
        · rw [if_neg hjp]
          exact i.2.2.2.1.2.2 j (by omega)
      · have ne : ∀ a i, (a ≠ 23 ∧ a ≠ 24) → wi (pgW w (nP S) x (cz x 8)) a i = wi w a i := fun a i h => pgW_ne w (nP S) x h _ i
        refine ⟨CalA_S (pgS_0 (by omega) _) (pgS_r (by omega) _) (pgS_r (by omega) _) (pgS_r (by omega) _) (pgS_r (by omega) _) (CalA_w (fun a i h1 h2 => ne a i (by omega)) a1), DiaA_S (pgS_r (by omega) _) (DiaA_w (fun a i h1 h2 => ne a i (by omega)) a2), ?_, SyA_S (pgS_0 (by omega) _) (pgS_r (by omega) _) (pgS_r (by omega) _) (pgS_r (by omega) _) (pgS_r (by omega) _) (SyA_w (ne 16 4 (by omega)) (fun k _ => s1.2.2.2.2.1 37 k) (fun k hk a i h1 h2 => ne a i (by have := I.sr hk; omega)) a4), LeA_S (pgS_0 (by omega) _) (pgS_0 (by omega) _) (pgS_r (by omega) _) (pgS_r (by omega) _) (LeA_w (fun a i h => ne a i (by omega)) a5), AlA_S (pgS_r (by omega) _) (pgS_r (by omega) _) (AlA_w (fun a i h1 h2 => ne a i (by omega)) (fun a n h1 h2 => gD_j (fun a i => pgW_j w (nP S) x _ a i) a n) a6), WFs_j (w := w) (fun a i => pgW_j w (nP S) x _ a i) a7⟩
        unfold PgA
        rw [n9, pgW_23 hw, pgS_9 h9]
        refine ⟨rfl, fun j hj => ?_⟩
        rw [pgW_24, pgS_8]
        by_cases hjp : nP S ≤ j ∧ j < nP S + cz x 8
        · rw [if_pos hjp, if_pos hjp]
        · rw [if_neg hjp, if_neg hjp]
          exact a3.2 j (by omega)
    · refine STEP.pure I (r := mI 104) ?_ ?_
      · unfold F_A_letters
        rw [A_lettersIn, if_pos ho]
        simp (disch := omega) only [qL, ↓qM, q_nm, q_le, t16 T, t23 T, a3.1, h9, nI_add, gd_true, beq_self_eq_true, bd_s, if_true, if_false, ↓reduceIte, ite_true, ite_false, Bool.and_self, Bool.and_true, Bool.true_and, Nat.reduceBEq, Bool.or_true, Bool.true_or, Bool.or_self]
        rw [if_neg hr]
      · rw [M_letters_11 T I.2.1, if_pos ho, h9, nI_add, if_neg (by rw [q_le (by omega) (by omega)]; exact hr)]
  · refine STEP.pure I (r := mI 102) ?_ ?_
    · unfold F_A_letters
      rw [A_lettersIn, if_neg ho]
      simp only [qL, ↓qM, gd_true, beq_self_eq_true, bd_s, if_true, if_false, ↓reduceIte, ite_true, ite_false, Bool.and_self, Bool.and_true, Bool.true_and, Nat.reduceBEq, Bool.or_true, Bool.true_or, Bool.or_self]
    · rw [M_letters_11 T I.2.1, if_neg ho]
