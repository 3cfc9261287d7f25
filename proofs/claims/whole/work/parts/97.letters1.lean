/-! PURE: a letter in a condition, on either side -/
theorem A_acc0 {L : Nat} {xs : Nat → Int32} {u : AW} (T : Top L xs u) (h : wi u 23 5 = nI 0) (x : Int32) : F_Pg_accepts 23 x u = (
    (F_Pg_startsFactor 23 x u).bind fun r3 =>
    gd (r3.1 == 0 || r3.1 == 1) <|
    some (r3.1, r3.2)) := by
  unfold F_Pg_accepts
  simp only [t23 T, h, gd_true, beq_self_eq_true]
  rw [if_neg (show ¬ (Int32.toInt (nI 0) < 0 ∨ 13 < Int32.toInt (nI 0)) by decide +kernel), if_pos (show nI 0 = (0 : Int32) by decide +kernel)]
theorem A_acc1 {L : Nat} {xs : Nat → Int32} {u : AW} (T : Top L xs u) (h : wi u 23 5 = nI 1) (x : Int32) : F_Pg_accepts 23 x u = (
    (F_Pg_readsSign 23 x u).bind fun r6 =>
    gd (r6.1 == 0 || r6.1 == 1) <|
    some (r6.1, r6.2)) := by
  unfold F_Pg_accepts
  simp only [t23 T, h, gd_true, beq_self_eq_true]
  rw [if_neg (show ¬ (Int32.toInt (nI 1) < 0 ∨ 13 < Int32.toInt (nI 1)) by decide +kernel), if_neg (show ¬ nI 1 = (0 : Int32) by decide +kernel), if_pos (show nI 1 = (1 : Int32) by decide +kernel)]
theorem A_acc2 {L : Nat} {xs : Nat → Int32} {u : AW} (T : Top L xs u) (h : wi u 23 5 = nI 2) (x : Int32) : F_Pg_accepts 23 x u = (
    if x = (45 : Int32) then
      (F_Pg_readsMinus 23 u).bind fun r12 =>
      gd (r12.1 == 0 || r12.1 == 1) <|
      some (r12.1, r12.2)
    else
      (F_Pg_readsDigit 23 x u).bind fun r9 =>
      gd (r9.1 == 0 || r9.1 == 1) <|
      some (r9.1, r9.2)) := by
  unfold F_Pg_accepts
  simp only [t23 T, h, gd_true, beq_self_eq_true]
  rw [if_neg (show ¬ (Int32.toInt (nI 2) < 0 ∨ 13 < Int32.toInt (nI 2)) by decide +kernel), if_neg (show ¬ nI 2 = (0 : Int32) by decide +kernel), if_neg (show ¬ nI 2 = (1 : Int32) by decide +kernel), if_pos (show nI 2 = (2 : Int32) by decide +kernel)]
theorem A_acc3 {L : Nat} {xs : Nat → Int32} {u : AW} (T : Top L xs u) (h : wi u 23 5 = nI 3) (x : Int32) : F_Pg_accepts 23 x u = (
    (F_Pg_readsDigit 23 x u).bind fun r15 =>
    gd (r15.1 == 0 || r15.1 == 1) <|
    some (r15.1, r15.2)) := by
  unfold F_Pg_accepts
  simp only [t23 T, h, gd_true, beq_self_eq_true]
  rw [if_neg (show ¬ (Int32.toInt (nI 3) < 0 ∨ 13 < Int32.toInt (nI 3)) by decide +kernel), if_neg (show ¬ nI 3 = (0 : Int32) by decide +kernel), if_neg (show ¬ nI 3 = (1 : Int32) by decide +kernel), if_neg (show ¬ nI 3 = (2 : Int32) by decide +kernel), if_pos (show nI 3 = (3 : Int32) by decide +kernel)]
theorem A_acc4 {L : Nat} {xs : Nat → Int32} {u : AW} (T : Top L xs u) (h : wi u 23 5 = nI 4) (x : Int32) : F_Pg_accepts 23 x u = (
    if (F_Pg_isDigit x) = 0 then
      (F_Pg_goesOn 23 x u).bind fun r18 =>
      gd (r18.1 == 0 || r18.1 == 1) <|
      some (r18.1, r18.2)
    else
      (F_Pg_readsDigit 23 x u).bind fun r21 =>
      gd (r21.1 == 0 || r21.1 == 1) <|
      some (r21.1, r21.2)) := by
  unfold F_Pg_accepts
  simp only [t23 T, h, gd_true, beq_self_eq_true]
  rw [if_neg (show ¬ (Int32.toInt (nI 4) < 0 ∨ 13 < Int32.toInt (nI 4)) by decide +kernel), if_neg (show ¬ nI 4 = (0 : Int32) by decide +kernel), if_neg (show ¬ nI 4 = (1 : Int32) by decide +kernel), if_neg (show ¬ nI 4 = (2 : Int32) by decide +kernel), if_neg (show ¬ nI 4 = (3 : Int32) by decide +kernel), if_pos (show nI 4 = (4 : Int32) by decide +kernel)]
theorem A_acc5 {L : Nat} {xs : Nat → Int32} {u : AW} (T : Top L xs u) (h : wi u 23 5 = nI 5) (x : Int32) : F_Pg_accepts 23 x u = (
    F_Pg_accepts_134 23 x u) := by
  unfold F_Pg_accepts
  simp only [t23 T, h, gd_true, beq_self_eq_true]
  rw [if_neg (show ¬ (Int32.toInt (nI 5) < 0 ∨ 13 < Int32.toInt (nI 5)) by decide +kernel), if_neg (show ¬ nI 5 = (0 : Int32) by decide +kernel), if_neg (show ¬ nI 5 = (1 : Int32) by decide +kernel), if_neg (show ¬ nI 5 = (2 : Int32) by decide +kernel), if_neg (show ¬ nI 5 = (3 : Int32) by decide +kernel), if_neg (show ¬ nI 5 = (4 : Int32) by decide +kernel), if_pos (show nI 5 = (5 : Int32) by decide +kernel)]
theorem A_acc6 {L : Nat} {xs : Nat → Int32} {u : AW} (T : Top L xs u) (h : wi u 23 5 = nI 6) (x : Int32) : F_Pg_accepts 23 x u = (
    F_Pg_accepts_134 23 x u) := by
  unfold F_Pg_accepts
  simp only [t23 T, h, gd_true, beq_self_eq_true]
  rw [if_neg (show ¬ (Int32.toInt (nI 6) < 0 ∨ 13 < Int32.toInt (nI 6)) by decide +kernel), if_neg (show ¬ nI 6 = (0 : Int32) by decide +kernel), if_neg (show ¬ nI 6 = (1 : Int32) by decide +kernel), if_neg (show ¬ nI 6 = (2 : Int32) by decide +kernel), if_neg (show ¬ nI 6 = (3 : Int32) by decide +kernel), if_neg (show ¬ nI 6 = (4 : Int32) by decide +kernel), if_neg (show ¬ nI 6 = (5 : Int32) by decide +kernel), if_pos (show nI 6 = (6 : Int32) by decide +kernel)]
theorem A_acc7 {L : Nat} {xs : Nat → Int32} {u : AW} (T : Top L xs u) (h : wi u 23 5 = nI 7) (x : Int32) : F_Pg_accepts 23 x u = (
    F_Pg_accepts_134 23 x u) := by
  unfold F_Pg_accepts
  simp only [t23 T, h, gd_true, beq_self_eq_true]
  rw [if_neg (show ¬ (Int32.toInt (nI 7) < 0 ∨ 13 < Int32.toInt (nI 7)) by decide +kernel), if_neg (show ¬ nI 7 = (0 : Int32) by decide +kernel), if_neg (show ¬ nI 7 = (1 : Int32) by decide +kernel), if_neg (show ¬ nI 7 = (2 : Int32) by decide +kernel), if_neg (show ¬ nI 7 = (3 : Int32) by decide +kernel), if_neg (show ¬ nI 7 = (4 : Int32) by decide +kernel), if_neg (show ¬ nI 7 = (5 : Int32) by decide +kernel), if_neg (show ¬ nI 7 = (6 : Int32) by decide +kernel), if_pos (show nI 7 = (7 : Int32) by decide +kernel)]
theorem A_acc8 {L : Nat} {xs : Nat → Int32} {u : AW} (T : Top L xs u) (h : wi u 23 5 = nI 8) (x : Int32) : F_Pg_accepts 23 x u = (
    F_Pg_accepts_134 23 x u) := by
  unfold F_Pg_accepts
  simp only [t23 T, h, gd_true, beq_self_eq_true]
  rw [if_neg (show ¬ (Int32.toInt (nI 8) < 0 ∨ 13 < Int32.toInt (nI 8)) by decide +kernel), if_neg (show ¬ nI 8 = (0 : Int32) by decide +kernel), if_neg (show ¬ nI 8 = (1 : Int32) by decide +kernel), if_neg (show ¬ nI 8 = (2 : Int32) by decide +kernel), if_neg (show ¬ nI 8 = (3 : Int32) by decide +kernel), if_neg (show ¬ nI 8 = (4 : Int32) by decide +kernel), if_neg (show ¬ nI 8 = (5 : Int32) by decide +kernel), if_neg (show ¬ nI 8 = (6 : Int32) by decide +kernel), if_neg (show ¬ nI 8 = (7 : Int32) by decide +kernel), if_pos (show nI 8 = (8 : Int32) by decide +kernel)]
theorem A_acc9 {L : Nat} {xs : Nat → Int32} {u : AW} (T : Top L xs u) (h : wi u 23 5 = nI 9) (x : Int32) : F_Pg_accepts 23 x u = (
    if x = (35 : Int32) then
      (F_Pg_goesTo 23 (10 : Int32) u).bind fun r27 =>
      gd (r27.1 == 0 || r27.1 == 1) <|
      some (r27.1, r27.2)
    else
      (F_Pg_readsMonth 23 x (11 : Int32) u).bind fun r24 =>
      gd (r24.1 == 0 || r24.1 == 1) <|
      some (r24.1, r24.2)) := by
  unfold F_Pg_accepts
  simp only [t23 T, h, gd_true, beq_self_eq_true]
  rw [if_neg (show ¬ (Int32.toInt (nI 9) < 0 ∨ 13 < Int32.toInt (nI 9)) by decide +kernel), if_neg (show ¬ nI 9 = (0 : Int32) by decide +kernel), if_neg (show ¬ nI 9 = (1 : Int32) by decide +kernel), if_neg (show ¬ nI 9 = (2 : Int32) by decide +kernel), if_neg (show ¬ nI 9 = (3 : Int32) by decide +kernel), if_neg (show ¬ nI 9 = (4 : Int32) by decide +kernel), if_neg (show ¬ nI 9 = (5 : Int32) by decide +kernel), if_neg (show ¬ nI 9 = (6 : Int32) by decide +kernel), if_neg (show ¬ nI 9 = (7 : Int32) by decide +kernel), if_neg (show ¬ nI 9 = (8 : Int32) by decide +kernel), if_pos (show nI 9 = (9 : Int32) by decide +kernel)]
theorem A_acc10 {L : Nat} {xs : Nat → Int32} {u : AW} (T : Top L xs u) (h : wi u 23 5 = nI 10) (x : Int32) : F_Pg_accepts 23 x u = (
    (F_Pg_readsSaint 23 x u).bind fun r30 =>
    gd (r30.1 == 0 || r30.1 == 1) <|
    some (r30.1, r30.2)) := by
  unfold F_Pg_accepts
  simp only [t23 T, h, gd_true, beq_self_eq_true]
  rw [if_neg (show ¬ (Int32.toInt (nI 10) < 0 ∨ 13 < Int32.toInt (nI 10)) by decide +kernel), if_neg (show ¬ nI 10 = (0 : Int32) by decide +kernel), if_neg (show ¬ nI 10 = (1 : Int32) by decide +kernel), if_neg (show ¬ nI 10 = (2 : Int32) by decide +kernel), if_neg (show ¬ nI 10 = (3 : Int32) by decide +kernel), if_neg (show ¬ nI 10 = (4 : Int32) by decide +kernel), if_neg (show ¬ nI 10 = (5 : Int32) by decide +kernel), if_neg (show ¬ nI 10 = (6 : Int32) by decide +kernel), if_neg (show ¬ nI 10 = (7 : Int32) by decide +kernel), if_neg (show ¬ nI 10 = (8 : Int32) by decide +kernel), if_neg (show ¬ nI 10 = (9 : Int32) by decide +kernel), if_pos (show nI 10 = (10 : Int32) by decide +kernel)]
theorem A_acc11 {L : Nat} {xs : Nat → Int32} {u : AW} (T : Top L xs u) (h : wi u 23 5 = nI 11) (x : Int32) : F_Pg_accepts 23 x u = (
    if x = (45 : Int32) then
      (F_Pg_readsMonthDash 23 u).bind fun r36 =>
      gd (r36.1 == 0 || r36.1 == 1) <|
      some (r36.1, r36.2)
    else
      (F_Pg_readsMonth 23 x (11 : Int32) u).bind fun r33 =>
      gd (r33.1 == 0 || r33.1 == 1) <|
      some (r33.1, r33.2)) := by
  unfold F_Pg_accepts
  simp only [t23 T, h, gd_true, beq_self_eq_true]
  rw [if_neg (show ¬ (Int32.toInt (nI 11) < 0 ∨ 13 < Int32.toInt (nI 11)) by decide +kernel), if_neg (show ¬ nI 11 = (0 : Int32) by decide +kernel), if_neg (show ¬ nI 11 = (1 : Int32) by decide +kernel), if_neg (show ¬ nI 11 = (2 : Int32) by decide +kernel), if_neg (show ¬ nI 11 = (3 : Int32) by decide +kernel), if_neg (show ¬ nI 11 = (4 : Int32) by decide +kernel), if_neg (show ¬ nI 11 = (5 : Int32) by decide +kernel), if_neg (show ¬ nI 11 = (6 : Int32) by decide +kernel), if_neg (show ¬ nI 11 = (7 : Int32) by decide +kernel), if_neg (show ¬ nI 11 = (8 : Int32) by decide +kernel), if_neg (show ¬ nI 11 = (9 : Int32) by decide +kernel), if_neg (show ¬ nI 11 = (10 : Int32) by decide +kernel), if_pos (show nI 11 = (11 : Int32) by decide +kernel)]
theorem A_acc12 {L : Nat} {xs : Nat → Int32} {u : AW} (T : Top L xs u) (h : wi u 23 5 = nI 12) (x : Int32) : F_Pg_accepts 23 x u = (
    F_Pg_accepts_190 23 x u) := by
  unfold F_Pg_accepts
  simp only [t23 T, h, gd_true, beq_self_eq_true]
  rw [if_neg (show ¬ (Int32.toInt (nI 12) < 0 ∨ 13 < Int32.toInt (nI 12)) by decide +kernel), if_neg (show ¬ nI 12 = (0 : Int32) by decide +kernel), if_neg (show ¬ nI 12 = (1 : Int32) by decide +kernel), if_neg (show ¬ nI 12 = (2 : Int32) by decide +kernel), if_neg (show ¬ nI 12 = (3 : Int32) by decide +kernel), if_neg (show ¬ nI 12 = (4 : Int32) by decide +kernel), if_neg (show ¬ nI 12 = (5 : Int32) by decide +kernel), if_neg (show ¬ nI 12 = (6 : Int32) by decide +kernel), if_neg (show ¬ nI 12 = (7 : Int32) by decide +kernel), if_neg (show ¬ nI 12 = (8 : Int32) by decide +kernel), if_neg (show ¬ nI 12 = (9 : Int32) by decide +kernel), if_neg (show ¬ nI 12 = (10 : Int32) by decide +kernel), if_neg (show ¬ nI 12 = (11 : Int32) by decide +kernel), if_pos (show nI 12 = (12 : Int32) by decide +kernel)]
theorem A_acc13 {L : Nat} {xs : Nat → Int32} {u : AW} (T : Top L xs u) (h : wi u 23 5 = nI 13) (x : Int32) : F_Pg_accepts 23 x u = (
    F_Pg_accepts_190 23 x u) := by
  unfold F_Pg_accepts
  simp only [t23 T, h, gd_true, beq_self_eq_true]
  rw [if_neg (show ¬ (Int32.toInt (nI 13) < 0 ∨ 13 < Int32.toInt (nI 13)) by decide +kernel), if_neg (show ¬ nI 13 = (0 : Int32) by decide +kernel), if_neg (show ¬ nI 13 = (1 : Int32) by decide +kernel), if_neg (show ¬ nI 13 = (2 : Int32) by decide +kernel), if_neg (show ¬ nI 13 = (3 : Int32) by decide +kernel), if_neg (show ¬ nI 13 = (4 : Int32) by decide +kernel), if_neg (show ¬ nI 13 = (5 : Int32) by decide +kernel), if_neg (show ¬ nI 13 = (6 : Int32) by decide +kernel), if_neg (show ¬ nI 13 = (7 : Int32) by decide +kernel), if_neg (show ¬ nI 13 = (8 : Int32) by decide +kernel), if_neg (show ¬ nI 13 = (9 : Int32) by decide +kernel), if_neg (show ¬ nI 13 = (10 : Int32) by decide +kernel), if_neg (show ¬ nI 13 = (11 : Int32) by decide +kernel), if_neg (show ¬ nI 13 = (12 : Int32) by decide +kernel), if_pos (show nI 13 = (13 : Int32) by decide +kernel)]
theorem M_go0 {L : Nat} {xs : Nat → Int32} {v : AW} (T : Top L xs v) (h : wi v 271 10 = nI 0) (x : Int32) : F_M_goOn 271 x v = (
    (F_M_goOnFactor 271 x v).bind fun r3 =>
    gd (r3.1 == 0 || r3.1 == 1) <|
    some (r3.1, r3.2)) := by
  unfold F_M_goOn
  simp only [mK T, h, gd_true, beq_self_eq_true]
  rw [if_neg (show ¬ (Int32.toInt (nI 0) < 0 ∨ 13 < Int32.toInt (nI 0)) by decide +kernel), if_pos (show nI 0 = (0 : Int32) by decide +kernel)]
theorem M_go1 {L : Nat} {xs : Nat → Int32} {v : AW} (T : Top L xs v) (h : wi v 271 10 = nI 1) (x : Int32) : F_M_goOn 271 x v = (
    if x = (60 : Int32) then
      F_M_goOn_104 271 x (0 : Int32) 271 v
    else
      if x = (61 : Int32) then
        F_M_goOn_104 271 x (1 : Int32) 271 v
      else
        F_M_goOn_104 271 x (2 : Int32) 271 v) := by
  unfold F_M_goOn
  simp only [mK T, h, gd_true, beq_self_eq_true]
  rw [if_neg (show ¬ (Int32.toInt (nI 1) < 0 ∨ 13 < Int32.toInt (nI 1)) by decide +kernel), if_neg (show ¬ nI 1 = (0 : Int32) by decide +kernel), if_pos (show nI 1 = (1 : Int32) by decide +kernel)]
theorem M_go2 {L : Nat} {xs : Nat → Int32} {v : AW} (T : Top L xs v) (h : wi v 271 10 = nI 2) (x : Int32) : F_M_goOn 271 x v = (
    if x = (45 : Int32) then
      F_M_goOn_148 271 x (1 : Int32) 271 v
    else
      F_M_goOn_148 271 x (0 : Int32) 271 v) := by
  unfold F_M_goOn
  simp only [mK T, h, gd_true, beq_self_eq_true]
  rw [if_neg (show ¬ (Int32.toInt (nI 2) < 0 ∨ 13 < Int32.toInt (nI 2)) by decide +kernel), if_neg (show ¬ nI 2 = (0 : Int32) by decide +kernel), if_neg (show ¬ nI 2 = (1 : Int32) by decide +kernel), if_pos (show nI 2 = (2 : Int32) by decide +kernel)]
theorem M_go3 {L : Nat} {xs : Nat → Int32} {v : AW} (T : Top L xs v) (h : wi v 271 10 = nI 3) (x : Int32) : F_M_goOn 271 x v = (
    let w6 : AW := upI v 271 13 (1 : Int32)
    let w7 : AW := upI w6 271 14 (x - (48 : Int32))
    let w8 : AW := upI w7 271 10 (4 : Int32)
    some ((F_M_isFigure x), w8)) := by
  unfold F_M_goOn
  simp only [mK T, h, gd_true, beq_self_eq_true]
  rw [if_neg (show ¬ (Int32.toInt (nI 3) < 0 ∨ 13 < Int32.toInt (nI 3)) by decide +kernel), if_neg (show ¬ nI 3 = (0 : Int32) by decide +kernel), if_neg (show ¬ nI 3 = (1 : Int32) by decide +kernel), if_neg (show ¬ nI 3 = (2 : Int32) by decide +kernel), if_pos (show nI 3 = (3 : Int32) by decide +kernel)]
theorem M_go4 {L : Nat} {xs : Nat → Int32} {v : AW} (T : Top L xs v) (h : wi v 271 10 = nI 4) (x : Int32) : F_M_goOn 271 x v = (
    if (F_M_isFigure x) = 0 then
      F_M_goOn_288 271 x v
    else
      if (3 : Int32) ≤ (wi v 271 13) then
        F_M_goOn_288 271 x v
      else
        let w9 : AW := upI v 271 13 ((wi v 271 13) + (1 : Int32))
        let w10 : AW := upI w9 271 14 ((((10 : Int32) * (wi w9 271 14)) + x) - (48 : Int32))
        some ((1 : Int32), w10)) := by
  unfold F_M_goOn
  simp only [mK T, h, gd_true, beq_self_eq_true]
  rw [if_neg (show ¬ (Int32.toInt (nI 4) < 0 ∨ 13 < Int32.toInt (nI 4)) by decide +kernel), if_neg (show ¬ nI 4 = (0 : Int32) by decide +kernel), if_neg (show ¬ nI 4 = (1 : Int32) by decide +kernel), if_neg (show ¬ nI 4 = (2 : Int32) by decide +kernel), if_neg (show ¬ nI 4 = (3 : Int32) by decide +kernel), if_pos (show nI 4 = (4 : Int32) by decide +kernel)]
theorem M_go5 {L : Nat} {xs : Nat → Int32} {v : AW} (T : Top L xs v) (h : wi v 271 10 = nI 5) (x : Int32) : F_M_goOn 271 x v = (
    (F_M_goOnBehind 271 x v).bind fun r11 =>
    gd (r11.1 == 0 || r11.1 == 1) <|
    some (r11.1, r11.2)) := by
  unfold F_M_goOn
  simp only [mK T, h, gd_true, beq_self_eq_true]
  rw [if_neg (show ¬ (Int32.toInt (nI 5) < 0 ∨ 13 < Int32.toInt (nI 5)) by decide +kernel), if_neg (show ¬ nI 5 = (0 : Int32) by decide +kernel), if_neg (show ¬ nI 5 = (1 : Int32) by decide +kernel), if_neg (show ¬ nI 5 = (2 : Int32) by decide +kernel), if_neg (show ¬ nI 5 = (3 : Int32) by decide +kernel), if_neg (show ¬ nI 5 = (4 : Int32) by decide +kernel), if_pos (show nI 5 = (5 : Int32) by decide +kernel)]
theorem M_go6 {L : Nat} {xs : Nat → Int32} {v : AW} (T : Top L xs v) (h : wi v 271 10 = nI 6) (x : Int32) : F_M_goOn 271 x v = (
    F_M_goOn_300 271 x v) := by
  unfold F_M_goOn
  simp only [mK T, h, gd_true, beq_self_eq_true]
  rw [if_neg (show ¬ (Int32.toInt (nI 6) < 0 ∨ 13 < Int32.toInt (nI 6)) by decide +kernel), if_neg (show ¬ nI 6 = (0 : Int32) by decide +kernel), if_neg (show ¬ nI 6 = (1 : Int32) by decide +kernel), if_neg (show ¬ nI 6 = (2 : Int32) by decide +kernel), if_neg (show ¬ nI 6 = (3 : Int32) by decide +kernel), if_neg (show ¬ nI 6 = (4 : Int32) by decide +kernel), if_neg (show ¬ nI 6 = (5 : Int32) by decide +kernel), if_pos (show nI 6 = (6 : Int32) by decide +kernel)]
theorem M_go7 {L : Nat} {xs : Nat → Int32} {v : AW} (T : Top L xs v) (h : wi v 271 10 = nI 7) (x : Int32) : F_M_goOn 271 x v = (
    F_M_goOn_300 271 x v) := by
  unfold F_M_goOn
  simp only [mK T, h, gd_true, beq_self_eq_true]
  rw [if_neg (show ¬ (Int32.toInt (nI 7) < 0 ∨ 13 < Int32.toInt (nI 7)) by decide +kernel), if_neg (show ¬ nI 7 = (0 : Int32) by decide +kernel), if_neg (show ¬ nI 7 = (1 : Int32) by decide +kernel), if_neg (show ¬ nI 7 = (2 : Int32) by decide +kernel), if_neg (show ¬ nI 7 = (3 : Int32) by decide +kernel), if_neg (show ¬ nI 7 = (4 : Int32) by decide +kernel), if_neg (show ¬ nI 7 = (5 : Int32) by decide +kernel), if_neg (show ¬ nI 7 = (6 : Int32) by decide +kernel), if_pos (show nI 7 = (7 : Int32) by decide +kernel)]
theorem M_go8 {L : Nat} {xs : Nat → Int32} {v : AW} (T : Top L xs v) (h : wi v 271 10 = nI 8) (x : Int32) : F_M_goOn 271 x v = (
    F_M_goOn_300 271 x v) := by
  unfold F_M_goOn
  simp only [mK T, h, gd_true, beq_self_eq_true]
  rw [if_neg (show ¬ (Int32.toInt (nI 8) < 0 ∨ 13 < Int32.toInt (nI 8)) by decide +kernel), if_neg (show ¬ nI 8 = (0 : Int32) by decide +kernel), if_neg (show ¬ nI 8 = (1 : Int32) by decide +kernel), if_neg (show ¬ nI 8 = (2 : Int32) by decide +kernel), if_neg (show ¬ nI 8 = (3 : Int32) by decide +kernel), if_neg (show ¬ nI 8 = (4 : Int32) by decide +kernel), if_neg (show ¬ nI 8 = (5 : Int32) by decide +kernel), if_neg (show ¬ nI 8 = (6 : Int32) by decide +kernel), if_neg (show ¬ nI 8 = (7 : Int32) by decide +kernel), if_pos (show nI 8 = (8 : Int32) by decide +kernel)]
theorem M_go9 {L : Nat} {xs : Nat → Int32} {v : AW} (T : Top L xs v) (h : wi v 271 10 = nI 9) (x : Int32) : F_M_goOn 271 x v = (
    F_M_goOn_300 271 x v) := by
  unfold F_M_goOn
  simp only [mK T, h, gd_true, beq_self_eq_true]
  rw [if_neg (show ¬ (Int32.toInt (nI 9) < 0 ∨ 13 < Int32.toInt (nI 9)) by decide +kernel), if_neg (show ¬ nI 9 = (0 : Int32) by decide +kernel), if_neg (show ¬ nI 9 = (1 : Int32) by decide +kernel), if_neg (show ¬ nI 9 = (2 : Int32) by decide +kernel), if_neg (show ¬ nI 9 = (3 : Int32) by decide +kernel), if_neg (show ¬ nI 9 = (4 : Int32) by decide +kernel), if_neg (show ¬ nI 9 = (5 : Int32) by decide +kernel), if_neg (show ¬ nI 9 = (6 : Int32) by decide +kernel), if_neg (show ¬ nI 9 = (7 : Int32) by decide +kernel), if_neg (show ¬ nI 9 = (8 : Int32) by decide +kernel), if_pos (show nI 9 = (9 : Int32) by decide +kernel)]
theorem M_go10 {L : Nat} {xs : Nat → Int32} {v : AW} (T : Top L xs v) (h : wi v 271 10 = nI 10) (x : Int32) : F_M_goOn 271 x v = (
    F_M_goOn_306 271 x v) := by
  unfold F_M_goOn
  simp only [mK T, h, gd_true, beq_self_eq_true]
  rw [if_neg (show ¬ (Int32.toInt (nI 10) < 0 ∨ 13 < Int32.toInt (nI 10)) by decide +kernel), if_neg (show ¬ nI 10 = (0 : Int32) by decide +kernel), if_neg (show ¬ nI 10 = (1 : Int32) by decide +kernel), if_neg (show ¬ nI 10 = (2 : Int32) by decide +kernel), if_neg (show ¬ nI 10 = (3 : Int32) by decide +kernel), if_neg (show ¬ nI 10 = (4 : Int32) by decide +kernel), if_neg (show ¬ nI 10 = (5 : Int32) by decide +kernel), if_neg (show ¬ nI 10 = (6 : Int32) by decide +kernel), if_neg (show ¬ nI 10 = (7 : Int32) by decide +kernel), if_neg (show ¬ nI 10 = (8 : Int32) by decide +kernel), if_neg (show ¬ nI 10 = (9 : Int32) by decide +kernel), if_pos (show nI 10 = (10 : Int32) by decide +kernel)]
theorem M_go11 {L : Nat} {xs : Nat → Int32} {v : AW} (T : Top L xs v) (h : wi v 271 10 = nI 11) (x : Int32) : F_M_goOn 271 x v = (
    F_M_goOn_306 271 x v) := by
  unfold F_M_goOn
  simp only [mK T, h, gd_true, beq_self_eq_true]
  rw [if_neg (show ¬ (Int32.toInt (nI 11) < 0 ∨ 13 < Int32.toInt (nI 11)) by decide +kernel), if_neg (show ¬ nI 11 = (0 : Int32) by decide +kernel), if_neg (show ¬ nI 11 = (1 : Int32) by decide +kernel), if_neg (show ¬ nI 11 = (2 : Int32) by decide +kernel), if_neg (show ¬ nI 11 = (3 : Int32) by decide +kernel), if_neg (show ¬ nI 11 = (4 : Int32) by decide +kernel), if_neg (show ¬ nI 11 = (5 : Int32) by decide +kernel), if_neg (show ¬ nI 11 = (6 : Int32) by decide +kernel), if_neg (show ¬ nI 11 = (7 : Int32) by decide +kernel), if_neg (show ¬ nI 11 = (8 : Int32) by decide +kernel), if_neg (show ¬ nI 11 = (9 : Int32) by decide +kernel), if_neg (show ¬ nI 11 = (10 : Int32) by decide +kernel), if_pos (show nI 11 = (11 : Int32) by decide +kernel)]
theorem M_go12 {L : Nat} {xs : Nat → Int32} {v : AW} (T : Top L xs v) (h : wi v 271 10 = nI 12) (x : Int32) : F_M_goOn 271 x v = (
    F_M_goOn_306 271 x v) := by
  unfold F_M_goOn
  simp only [mK T, h, gd_true, beq_self_eq_true]
  rw [if_neg (show ¬ (Int32.toInt (nI 12) < 0 ∨ 13 < Int32.toInt (nI 12)) by decide +kernel), if_neg (show ¬ nI 12 = (0 : Int32) by decide +kernel), if_neg (show ¬ nI 12 = (1 : Int32) by decide +kernel), if_neg (show ¬ nI 12 = (2 : Int32) by decide +kernel), if_neg (show ¬ nI 12 = (3 : Int32) by decide +kernel), if_neg (show ¬ nI 12 = (4 : Int32) by decide +kernel), if_neg (show ¬ nI 12 = (5 : Int32) by decide +kernel), if_neg (show ¬ nI 12 = (6 : Int32) by decide +kernel), if_neg (show ¬ nI 12 = (7 : Int32) by decide +kernel), if_neg (show ¬ nI 12 = (8 : Int32) by decide +kernel), if_neg (show ¬ nI 12 = (9 : Int32) by decide +kernel), if_neg (show ¬ nI 12 = (10 : Int32) by decide +kernel), if_neg (show ¬ nI 12 = (11 : Int32) by decide +kernel), if_pos (show nI 12 = (12 : Int32) by decide +kernel)]
theorem M_go13 {L : Nat} {xs : Nat → Int32} {v : AW} (T : Top L xs v) (h : wi v 271 10 = nI 13) (x : Int32) : F_M_goOn 271 x v = (
    F_M_goOn_306 271 x v) := by
  unfold F_M_goOn
  simp only [mK T, h, gd_true, beq_self_eq_true]
  rw [if_neg (show ¬ (Int32.toInt (nI 13) < 0 ∨ 13 < Int32.toInt (nI 13)) by decide +kernel), if_neg (show ¬ nI 13 = (0 : Int32) by decide +kernel), if_neg (show ¬ nI 13 = (1 : Int32) by decide +kernel), if_neg (show ¬ nI 13 = (2 : Int32) by decide +kernel), if_neg (show ¬ nI 13 = (3 : Int32) by decide +kernel), if_neg (show ¬ nI 13 = (4 : Int32) by decide +kernel), if_neg (show ¬ nI 13 = (5 : Int32) by decide +kernel), if_neg (show ¬ nI 13 = (6 : Int32) by decide +kernel), if_neg (show ¬ nI 13 = (7 : Int32) by decide +kernel), if_neg (show ¬ nI 13 = (8 : Int32) by decide +kernel), if_neg (show ¬ nI 13 = (9 : Int32) by decide +kernel), if_neg (show ¬ nI 13 = (10 : Int32) by decide +kernel), if_neg (show ¬ nI 13 = (11 : Int32) by decide +kernel), if_neg (show ¬ nI 13 = (12 : Int32) by decide +kernel), if_pos (show nI 13 = (13 : Int32) by decide +kernel)]
theorem Top.up {L : Nat} {xs : Nat → Int32} {w : AW} (T : Top L xs w) {a : Nat} (i : Nat) (x : Int32) (h : 16 ≤ a) : Top L xs (upI w a i x) := T.sh (Sh.upI w i x h)
section
variable {L : Nat} {xs : Nat → Int32} {u v : AW}
theorem A_acc14 (T : Top L xs u) (h : wi u 23 5 = nI 14) (x : Int32) : F_Pg_accepts 23 x u = some (nI 0, u) := by
  unfold F_Pg_accepts
  simp only [t23 T, h, gd_true, beq_self_eq_true]
  rw [if_pos (show (Int32.toInt (nI 14) < 0 ∨ 13 < Int32.toInt (nI 14)) by decide +kernel)]
  rfl
theorem M_go14 (T : Top L xs v) (h : wi v 271 10 = nI 14) (x : Int32) : F_M_goOn 271 x v = some (nI 0, v) := by
  unfold F_M_goOn
  simp only [mK T, h, gd_true, beq_self_eq_true]
  rw [if_pos (show (Int32.toInt (nI 14) < 0 ∨ 13 < Int32.toInt (nI 14)) by decide +kernel)]
  rfl
theorem i2_ok : ∀ c, c ≤ 126 → i2cv (nI c) = nI c ∧ Int8.toInt32 (Int32.toInt8 (nI c)) = nI c ∧ ¬ F_Jlat_canEncode (nI c) = 0 := by decide +kernel
theorem FUEL_5 : ∃ m, FUEL = m + 1 + 1 + 1 + 1 + 1 := ⟨999995, rfl⟩
theorem ix_s (w : AW) (n a : Nat) (x y z : Int32) : F_Jlat_indexOfChar_7 w (n + 1) a x y z = F_Jlat_indexOfChar_7_B (F_Jlat_indexOfChar_7 w n) w a x y z := rfl
def fdx (c : Nat) : Nat := if c = 83 then 0 else if c = 87 then 1 else if c = 82 then 2 else if c = 84 then 3 else 4
def sgx (c : Nat) : Nat := if c = 60 then 0 else if c = 61 then 1 else if c = 62 then 2 else 3
theorem sh4 : (Int32.ofNat 4 >>> (nI 0 &&& 31)) = nI 4 ∧ (Int32.ofNat 3 >>> (nI 0 &&& 31)) = nI 3 := by decide +kernel
theorem ix_st {w : AW} {a N k : Nat} (n : Nat) (y : Int32) (ha : wk w a = 111) (hn : wn w a = N) (hk : k < N) (hN : N ≤ 4) : F_Jlat_indexOfChar_7 w (n + 1) a (nI N) y (nI k) = if wi w a k = y then some (nI k) else F_Jlat_indexOfChar_7 w n a (nI N) y (nI (k + 1)) := by
  rw [ix_s]
  unfold F_Jlat_indexOfChar_7_B
  simp (disch := omega) only [qL, ↓qM, ha, hn, q_le, q_inb, q_nat, nI_add, gd_true, beq_self_eq_true, bd_s, if_true, if_false, ↓reduceIte, ite_true, ite_false, Bool.and_self, Bool.and_true, Bool.true_and, Nat.reduceBEq, Bool.or_true, Bool.true_or, Bool.or_self]
  rw [if_neg (by omega)]
theorem ix_en {w : AW} {a N : Nat} (n : Nat) (y : Int32) : F_Jlat_indexOfChar_7 w (n + 1) a (nI N) y (nI N) = some (mI 1) := by
  rw [ix_s]
  unfold F_Jlat_indexOfChar_7_B
  rw [if_pos (Int32.le_refl _)]; rfl
theorem A_ixF (T : Top L xs u) {c : Nat} (hc : c ≤ 126) : F_Jstr_indexOf_I u 7 (i2cv (nI c)) = some (if fdx c < 4 then nI (fdx c) else mI 1) := by
  obtain ⟨m, hm⟩ := FUEL_5
  have q := i2_ok c hc
  have n1 : ¬ nI 1 = nI 0 := by decide +kernel
  unfold F_Jstr_indexOf_I F_Jstr_indexOf_II F_Jstr_isLatin1 F_Jstr_length F_Jstr_coder F_Jlat_indexOf F_Jlat_indexOfChar
  have q3 : ¬ F_Jlat_canEncode (nI c) = nI 0 := q.2.2
  have z1 : F_Jmath_max (nI 0) (nI 0) = nI 0 := by decide +kernel
  have z2 : F_Jmath_min (nI 4) (nI 4) = nI 4 := by decide +kernel
  simp only [qL, ↓qM, s7 T, s9 T, q.1, q.2.1, n1, z1, show Int32.ofNat 4 = nI 4 from rfl, gd_true, beq_self_eq_true, bd_s, if_true, if_false, ↓reduceIte, ite_true, ite_false, Bool.and_self, Bool.and_true, Bool.true_and, Nat.reduceBEq, Bool.or_true, Bool.true_or, Bool.or_self]
  rw [if_neg q3, show nI 4 >>> (nI 0 &&& nI 31) = nI 4 from sh4.1, z2, if_pos (show nI 0 < nI 4 by decide +kernel), hm]
  rw [ix_st (N := 4) (k := 0) _ _ (s9 T).1 (s9 T).2.1 (by omega) (by omega), ix_st (N := 4) (k := 1) _ _ (s9 T).1 (s9 T).2.1 (by omega) (by omega), ix_st (N := 4) (k := 2) _ _ (s9 T).1 (s9 T).2.1 (by omega) (by omega), ix_st (N := 4) (k := 3) _ _ (s9 T).1 (s9 T).2.1 (by omega) (by omega), ix_en, (s9 T).2.2.1, (s9 T).2.2.2.1, (s9 T).2.2.2.2.1, (s9 T).2.2.2.2.2]
  unfold fdx
  by_cases h1 : c = 83
  · rw [if_pos (by rw [h1]), if_pos h1, if_pos (by omega)]; rfl
  rw [if_neg (fun e => h1 ((q_eq (by omega) (by omega)).mp e.symm)), if_neg h1]
  by_cases h2 : c = 87
  · rw [if_pos (by rw [h2]), if_pos h2, if_pos (by omega)]; rfl
  rw [if_neg (fun e => h2 ((q_eq (by omega) (by omega)).mp e.symm)), if_neg h2]
  by_cases h3 : c = 82
  · rw [if_pos (by rw [h3]), if_pos h3, if_pos (by omega)]; rfl
  rw [if_neg (fun e => h3 ((q_eq (by omega) (by omega)).mp e.symm)), if_neg h3]
  by_cases h4 : c = 84
  · rw [if_pos (by rw [h4]), if_pos h4, if_pos (by omega)]; rfl
  rw [if_neg (fun e => h4 ((q_eq (by omega) (by omega)).mp e.symm)), if_neg h4, if_neg (by omega)]; rfl
theorem A_goes (T : Top L xs u) (x : Int32) : F_Pg_goesTo 23 x u = some (nI 1, upI u 23 5 x) := by
  unfold F_Pg_goesTo
  simp only [qL, ↓qM, t23 T, gd_true, beq_self_eq_true, bd_s, if_true, if_false, ↓reduceIte, ite_true, ite_false, Bool.and_self, Bool.and_true, Bool.true_and, Nat.reduceBEq, Bool.or_true, Bool.true_or, Bool.or_self]
theorem P_paren (T : Top L xs u) {g : Nat} (hg : g + 1 ≤ 80) (ho : wi u 23 11 = nI g) : ∃ v, F_Pg_startsFactor 23 (nI 40) u = some (nI 1, v) ∧ FR (XO (g + 1)) u v ∧ wi v 23 11 = nI (g + 1) ∧ ∀ j, j < 5 → wi v (32 + j) (g + 1) = nI 0 := by
  obtain ⟨v, h1, h2⟩ := A_open T hg
  refine ⟨v, ?_, h2⟩
  unfold F_Pg_startsFactor
  rw [if_pos (show nI 40 = (40 : Int32) from rfl)]
  simp only [t23 T, ho, l_1, nI_add, gd_true, beq_self_eq_true]
  exact bdb h1 (by omega)
theorem P_not (T : Top L xs u) {g : Nat} (hg : g ≤ 80) (ho : wi u 23 11 = nI g) : F_Pg_startsFactor 23 (nI 33) u = some (nI 1, upI u 32 g (wi u 32 g + nI 1)) := by
  unfold F_Pg_startsFactor
  rw [if_neg (show ¬ nI 33 = (40 : Int32) by decide +kernel), if_pos (show nI 33 = (33 : Int32) from rfl)]
  simp (disch := omega) only [qL, ↓qM, t23 T, A_level T hg ho, q_inb, q_nat, gd_true, beq_self_eq_true, bd_s, if_true, if_false, ↓reduceIte, ite_true, ite_false, Bool.and_self, Bool.and_true, Bool.true_and, Nat.reduceBEq, Bool.or_true, Bool.true_or, Bool.or_self]
theorem nIne {c k : Nat} (hc : c ≤ 126) (hk : k ≤ 126) (h : c ≠ k) : ¬ nI c = nI k := by
  rw [q_eq (by omega) (by omega)]; exact h
theorem P_field (T : Top L xs u) {c : Nat} (hc : c ≤ 126) (h1 : c ≠ 40) (h2 : c ≠ 33) : F_Pg_startsFactor 23 (nI c) u = if fdx c < 4 then some (nI 1, upI (upI u 23 6 (nI (fdx c))) 23 5 (nI 1)) else some (nI 0, upI u 23 6 (mI 1)) := by
  unfold F_Pg_startsFactor
  rw [if_neg (show ¬ nI c = (40 : Int32) from nIne (k := 40) hc (by omega) h1), if_neg (show ¬ nI c = (33 : Int32) from nIne (k := 33) hc (by omega) h2), A_ixF T hc]
  simp only [s7 T, t23 T, gd_true, beq_self_eq_true, bd_s, wu0]
  by_cases e : fdx c < 4
  · rw [if_pos e, if_pos e, if_neg (show ¬ nI (fdx c) < (0 : Int32) by rw [l_0, q_lt (by omega) (by omega)]; omega)]
    exact bdc (A_goes (T.up 6 _ (by omega)) (nI 1)) (by omega)
  · rw [if_neg e, if_neg e, if_pos (show mI 1 < (0 : Int32) by decide +kernel)]
    rfl
theorem A_addComp (T : Top L xs u) {c fd sg : Nat} {P : List (Nat × Int)} (hcT : c ∈ CTab) (hC : CO u c P) (hl : P.length < 80) (hfd : fd < 4) (hsg : sg < 3) : F_Co_addComparison c (nI fd) (nI sg - nI 1) u = some (nI P.length, upI (upI (stW u c P.length (3 * fd + sg)) c 3 (nI (mskP (cms P) ||| 1 <<< fd))) c 4 (nI ((cms P).length + 1))) := by
  have tc := tC T hcT
  have rg := CTab_rng c hcT
  obtain ⟨c1, c2, c3⟩ := hC
  obtain ⟨a1, a2⟩ := A_addStep tc c1 hl (show 3 * fd + sg ≤ 14 by omega)
  have e : nI 3 * nI fd + (nI sg - nI 1) + nI 1 = nI (3 * fd + sg) := by
    have : ∀ f, f < 4 → ∀ s, s < 3 → nI 3 * nI f + (nI s - nI 1) + nI 1 = nI (3 * f + s) := by decide +kernel
    exact this fd hfd sg hsg
  have T1 := T.sh (stW_sh u P.length (3 * fd + sg) (show 16 ≤ c by omega))
  have e3 : wi (stW u c P.length (3 * fd + sg)) c 3 = nI (mskP (cms P)) := (stW_c _ _ _ _ (by omega)).trans c2
  have e4 : wi (stW u c P.length (3 * fd + sg)) c 4 = nI (cms P).length := (stW_c _ _ _ _ (by omega)).trans c3
  have e2 : wi (stW u c P.length (3 * fd + sg)) c 2 = nI (P.length + 1) := by unfold stW; exact wu0 _ _ _ _
  have k1 := (tC T1 hcT).1
  unfold F_Co_addComparison
  simp only [l_3, l_1, e, a1, tc.1, k1, gd_true, beq_self_eq_true, bd_s, e3]
  simp (disch := omega) only [wu0, wu1, e4, e2, nI_add, q_sub, Nat.add_sub_cancel]
  rw [show nI (mskP (cms P)) ||| nI 1 <<< (nI fd &&& 31) = nI (mskP (cms P) ||| 1 <<< fd) from (or_lt _ (mskP_16 P) fd hfd).2]
theorem A_ixO (T : Top L xs u) {c : Nat} (hc : c ≤ 126) : F_Jstr_indexOf_I u 8 (i2cv (nI c)) = some (if sgx c < 3 then nI (sgx c) else mI 1) := by
  obtain ⟨m, hm⟩ := FUEL_5
  have q := i2_ok c hc
  have n1 : ¬ nI 1 = nI 0 := by decide +kernel
  unfold F_Jstr_indexOf_I F_Jstr_indexOf_II F_Jstr_isLatin1 F_Jstr_length F_Jstr_coder F_Jlat_indexOf F_Jlat_indexOfChar
  have q3 : ¬ F_Jlat_canEncode (nI c) = nI 0 := q.2.2
  have z1 : F_Jmath_max (nI 0) (nI 0) = nI 0 := by decide +kernel
  have z2 : F_Jmath_min (nI 3) (nI 3) = nI 3 := by decide +kernel
  simp only [qL, ↓qM, s7 T, s10 T, q.1, q.2.1, n1, z1, show Int32.ofNat 3 = nI 3 from rfl, gd_true, beq_self_eq_true, bd_s, if_true, if_false, ↓reduceIte, ite_true, ite_false, Bool.and_self, Bool.and_true, Bool.true_and, Nat.reduceBEq, Bool.or_true, Bool.true_or, Bool.or_self]
  rw [if_neg q3, show nI 3 >>> (nI 0 &&& nI 31) = nI 3 from sh4.2, z2, if_pos (show nI 0 < nI 3 by decide +kernel), hm]
  rw [ix_st (N := 3) (k := 0) _ _ (s10 T).1 (s10 T).2.1 (by omega) (by omega), ix_st (N := 3) (k := 1) _ _ (s10 T).1 (s10 T).2.1 (by omega) (by omega), ix_st (N := 3) (k := 2) _ _ (s10 T).1 (s10 T).2.1 (by omega) (by omega), ix_en, (s10 T).2.2.1, (s10 T).2.2.2.1, (s10 T).2.2.2.2]
  unfold sgx
  by_cases h1 : c = 60
  · rw [if_pos (by rw [h1]), if_pos h1, if_pos (by omega)]; rfl
  rw [if_neg (fun e => h1 ((q_eq (by omega) (by omega)).mp e.symm)), if_neg h1]
  by_cases h2 : c = 61
  · rw [if_pos (by rw [h2]), if_pos h2, if_pos (by omega)]; rfl
  rw [if_neg (fun e => h2 ((q_eq (by omega) (by omega)).mp e.symm)), if_neg h2]
  by_cases h3 : c = 62
  · rw [if_pos (by rw [h3]), if_pos h3, if_pos (by omega)]; rfl
  rw [if_neg (fun e => h3 ((q_eq (by omega) (by omega)).mp e.symm)), if_neg h3, if_neg (by omega)]; rfl
theorem P_sign0 (T : Top L xs u) {x : Nat} (hx : x ≤ 126) (h : ¬ sgx x < 3) : F_Pg_readsSign 23 (nI x) u = some (nI 0, u) := by
  unfold F_Pg_readsSign
  rw [A_ixO T hx, if_neg h]
  simp only [s7 T, gd_true, beq_self_eq_true, bd_s]
  rw [if_neg (show ¬ (0 : Int32) ≤ mI 1 by decide +kernel)]
  rfl
theorem P_sign (T : Top L xs u) {c fd x : Nat} {P : List (Nat × Int)} (hcT : c ∈ CTab) (h3 : wr u 23 3 = c) (hC : CO u c P) (hl : P.length < 80) (h6 : wi u 23 6 = nI fd) (hfd : fd < 4) (hx : x ≤ 126) (h : sgx x < 3) : ∃ v, F_Pg_readsSign 23 (nI x) u = some (nI 1, v) ∧ FR (fun a i => (a = 23 ∧ (i = 5 ∨ i = 7 ∨ i = 9 ∨ i = 10)) ∨ (c ≤ a ∧ a ≤ c + 2)) u v ∧ CO v c (P ++ [(3 * fd + sgx x, 0)]) ∧ wi v 23 5 = nI 2 ∧ wi v 23 7 = nI P.length ∧ wi v 23 9 = nI 0 ∧ wi v 23 10 = nI 0 := by
  have rg := CTab_rng c hcT
  have tc := tC T hcT
  have a0 := A_addComp T hcT hC hl hfd h
  obtain ⟨a1, a2⟩ := A_addStep tc hC.1 hl (show 3 * fd + sgx x ≤ 14 by omega)
  have T2 : Top L xs (upI (upI (stW u c P.length (3 * fd + sgx x)) c 3 (nI (mskP (cms P) ||| 1 <<< fd))) c 4 (nI ((cms P).length + 1))) := ((T.sh (stW_sh u P.length (3 * fd + sgx x) (show 16 ≤ c by omega))).up 3 _ (by omega)).up 4 _ (by omega)
  refine ⟨_, ?_, ((((((FR.trans ?_ (FR.refl _ (stW u c P.length (3 * fd + sgx x)))).s c 3 (nI (mskP (cms P) ||| 1 <<< fd)) ?_).s c 4 (nI ((cms P).length + 1)) ?_).s 23 7 (nI P.length) ?_).s 23 9 (nI 0) ?_).s 23 10 (nI 0) ?_).s 23 5 (nI 2) ?_, ?_, ?_, ?_, ?_, ?_⟩
  · unfold F_Pg_readsSign
    rw [A_ixO T hx, if_pos h]
    simp only [s7 T, gd_true, beq_self_eq_true, bd_s]
    rw [if_pos (show (0 : Int32) ≤ nI (sgx x) by rw [l_0, q_le (by omega) (by omega)]; omega)]
    simp only [l_1, t23 T, h3, tc.1, h6, a0, t23 T2, gd_true, beq_self_eq_true, bd_s]
    exact bdb (A_goes (((T2.up 7 _ (by omega)).up 9 _ (by omega)).up 10 _ (by omega)) (nI 2)) (by omega)
  · unfold stW
    refine (((FR.refl _ u).s (c + 1) _ _ ?_).s (c + 2) _ _ ?_).s c 2 _ ?_
    · exact .inr ⟨by omega, by omega⟩
    · exact .inr ⟨by omega, by omega⟩
    · exact .inr ⟨by omega, by omega⟩
  · exact .inr ⟨by omega, by omega⟩
  · exact .inr ⟨by omega, by omega⟩
  · exact .inl ⟨rfl, by omega⟩
  · exact .inl ⟨rfl, by omega⟩
  · exact .inl ⟨rfl, by omega⟩
  · exact .inl ⟨rfl, by omega⟩
  · refine ⟨⟨?_, a2.2.1, fun i m z hi => ?_⟩, ?_, ?_⟩
    · simp (disch := omega) only [wu0, wu1]; exact a2.1
    · simp (disch := omega) only [wu0, wu1]; exact a2.2.2 i m z hi
    · simp (disch := omega) only [wu0, wu1]
      rw [cms_app, cms_one (by omega), mskP_app, show (3 * fd + sgx x) / 3 = fd by omega]
    · simp (disch := omega) only [wu0, wu1]
      rw [cms_app, cms_one (by omega), List.length_append]; rfl
  · simp (disch := omega) only [wu0, wu1]
  · simp (disch := omega) only [wu0, wu1]
  · simp (disch := omega) only [wu0, wu1]
  · simp (disch := omega) only [wu0, wu1]
theorem A_isDig {x : Nat} (hx : x ≤ 126) : F_Pg_isDigit (nI x) = if 48 ≤ x ∧ x ≤ 57 then nI 1 else nI 0 := by
  unfold F_Pg_isDigit
  simp (disch := omega) only [qL, ↓qM, q_lt]
  by_cases h1 : x < 48
  · rw [if_pos h1, if_neg (by omega)]
  · rw [if_neg h1]
    by_cases h2 : 57 < x
    · rw [if_pos h2, if_neg (by omega)]
    · rw [if_neg h2, if_pos (by omega)]
theorem P_digit0 {x : Nat} (hx : x ≤ 126) (h : ¬ (48 ≤ x ∧ x ≤ 57)) : F_Pg_readsDigit 23 (nI x) u = some (nI 0, u) := by
  unfold F_Pg_readsDigit
  rw [A_isDig hx, if_neg h, if_pos (show nI 0 = (0 : Int32) from rfl)]; rfl
theorem P_digit3 (T : Top L xs u) {x : Nat} (hx : x ≤ 126) (h9 : wi u 23 9 = nI 3) : F_Pg_readsDigit 23 (nI x) u = some (nI 0, u) := by
  unfold F_Pg_readsDigit
  rw [A_isDig hx]
  by_cases h : 48 ≤ x ∧ x ≤ 57
  · rw [if_pos h, if_neg (show ¬ nI 1 = (0 : Int32) by decide +kernel)]
    simp only [t23 T, h9, gd_true, beq_self_eq_true]
    rw [if_neg (show ¬ nI 3 < (3 : Int32) by decide +kernel)]; rfl
  · rw [if_neg h, if_pos (show nI 0 = (0 : Int32) from rfl)]; rfl
theorem set_mid {α : Type} (P R : List α) (x y : α) : ((P ++ [x]) ++ R).set P.length y = (P ++ [y]) ++ R := by
  rw [List.append_assoc, List.set_append_right _ _ (Nat.le_refl _), Nat.sub_self, List.append_assoc]
  rfl
theorem get_mid {α : Type} (P R : List α) (x : α) : ((P ++ [x]) ++ R)[P.length]? = some x := by
  rw [List.append_assoc, List.getElem?_append_right (Nat.le_refl _), Nat.sub_self]
  rfl
theorem cms_set {P R : List (Nat × Int)} {m : Nat} {z y : Int} : cms ((P ++ [(m, z)]) ++ R) = cms ((P ++ [(m, y)]) ++ R) := by
  rw [cms_app, cms_app, cms_app, cms_app]
  rfl
theorem dig_x {x : Int32} {mi val d : Nat} (hx : x.toInt = zz mi val) (hv : val ≤ 99) (hd : d ≤ 9) : (nI 10 * x + (if mi = 0 then nI d else -nI d)).toInt = zz mi (10 * val + d) := by
  unfold zz at *
  by_cases e : mi = 0
  · rw [if_pos e] at *
    have : x = nI val := by apply Int32.toInt.inj; rw [hx, nI_toInt (by omega)]
    rw [this, pk_mul, nI_add, nI_toInt (by omega), if_pos e]
  · rw [if_neg e] at *
    have : x = mI val := by apply Int32.toInt.inj; rw [hx, mI_toInt (by omega)]
    rw [this, if_neg e]
    have h2 : nI 10 * mI val + -nI d = mI (10 * val + d) := by
      unfold mI
      rw [Int32.mul_neg, ← Int32.sub_eq_add_neg, ← Int32.neg_add, pk_mul, nI_add]
    rw [h2, mI_toInt (by omega)]
theorem P_minus (T : Top L xs u) : F_Pg_readsMinus 23 u = some (nI 1, upI (upI u 23 10 (nI 1)) 23 5 (nI 3)) := by
  unfold F_Pg_readsMinus
  simp only [t23 T, gd_true, beq_self_eq_true]
  exact bdb (A_goes (T.up 10 _ (by omega)) (nI 3)) (by omega)
/-- a digit of a number -/
theorem P_digPut (T : Top L xs u) {c m mi val d i : Nat} {P R : List (Nat × Int)} (hcT : c ∈ CTab) (hC : CO u c ((P ++ [(m, zz mi val)]) ++ R)) (hi : i = P.length) (hv : val ≤ 99) (hd : d ≤ 9) : (∃ y, F_Co_numberAt u c (nI i) = some y ∧ F_Co_putNumber c (nI i) (nI 10 * y + (if mi = 0 then nI d else -nI d)) u = some (upI u (c + 2) i (nI 10 * y + (if mi = 0 then nI d else -nI d))) ∧ CO (upI u (c + 2) i (nI 10 * y + (if mi = 0 then nI d else -nI d))) c ((P ++ [(m, zz mi (10 * val + d))]) ++ R)) := by
  subst hi
  have tc := tC T hcT
  have hm := get_mid P R (m, zz mi val)
  obtain ⟨q1, q2, q3, q4⟩ := A_putNumber (x := 0) tc hC.1 hm (by decide +kernel) (by decide +kernel)
  have e := dig_x (d := d) q4 hv hd
  have eb : -999 ≤ zz mi (10 * val + d) ∧ zz mi (10 * val + d) ≤ 999 := by unfold zz; split <;> omega
  obtain ⟨r1, r2, r3, r4⟩ := A_putNumber (x := nI 10 * wi u (c + 2) P.length + (if mi = 0 then nI d else -nI d)) tc hC.1 hm (by rw [e]; exact eb.1) (by rw [e]; exact eb.2)
  refine ⟨_, q3, r1, ?_, ?_, ?_⟩
  · rw [set_mid, e] at r2; exact r2
  · rw [wu1 (by omega), hC.2.1, cms_set]
  · rw [wu1 (by omega), hC.2.2, cms_set]
theorem P_digit (T : Top L xs u) {c x : Nat} (h3 : wr u 23 3 = c) (hcT : c ∈ CTab) {m mi val dg : Nat} {P R : List (Nat × Int)} (hC : CO u c ((P ++ [(m, zz mi val)]) ++ R)) (h7 : wi u 23 7 = nI P.length) (h9 : wi u 23 9 = nI dg) (hdg : dg < 3) (h10 : wi u 23 10 = nI mi) (hmi : mi < 2) (hv : val ≤ 99) (hx : 48 ≤ x ∧ x ≤ 57) : ∃ u1, F_Pg_readsDigit 23 (nI x) u = (if (wi u 23 5) = nI 4 then F_Pg_readsDigit_84 23 u1 else (F_Pg_endFactor 23 (nI 1) u1).bind fun r6 => F_Pg_readsDigit_84 23 r6) ∧ FR (fun a i => (a = 23 ∧ i = 9) ∨ (a = c + 2)) u u1 ∧ CO u1 c ((P ++ [(m, zz mi (10 * val + (x - 48)))]) ++ R) ∧ wi u1 23 9 = nI (dg + 1) := by
  have rg := CTab_rng c hcT
  have tc := tC T hcT
  obtain ⟨y, y1, y2, y3⟩ := P_digPut T hcT hC rfl hv (show x - 48 ≤ 9 by omega)
  refine ⟨_, ?_, ((FR.refl (fun a i => (a = 23 ∧ i = 9) ∨ (a = c + 2)) u).s (c + 2) P.length (nI 10 * y + (if mi = 0 then nI (x - 48) else -nI (x - 48))) (.inr rfl)).s 23 9 (nI (dg + 1)) (.inl ⟨rfl, rfl⟩), ?_, wu0 _ _ _ _⟩
  · unfold F_Pg_readsDigit
    rw [A_isDig (by omega), if_pos hx, if_neg (show ¬ nI 1 = (0 : Int32) by decide +kernel)]
    simp only [t23 T, h9, h3, h7, h10, tc.1, y1, gd_true, beq_self_eq_true, bd_s]
    rw [if_pos (show nI dg < (3 : Int32) by rw [l_3, q_lt (by omega) (by omega)]; exact hdg), l_48, q_sub (by omega)]
    have T1 := T.up (a := c + 2) P.length (nI 10 * y + (if mi = 0 then nI (x - 48) else -nI (x - 48))) (by omega)
    have key : ∀ s3, s3 = (if mi = 0 then nI (x - 48) else -nI (x - 48)) → F_Pg_readsDigit_57 23 s3 (nI 10 * y) (nI P.length) c u = (if (wi u 23 5) = nI 4 then F_Pg_readsDigit_84 23 (upI (upI u (c + 2) P.length (nI 10 * y + (if mi = 0 then nI (x - 48) else -nI (x - 48)))) 23 9 (nI (dg + 1))) else (F_Pg_endFactor 23 (nI 1) (upI (upI u (c + 2) P.length (nI 10 * y + (if mi = 0 then nI (x - 48) else -nI (x - 48)))) 23 9 (nI (dg + 1)))).bind fun r6 => F_Pg_readsDigit_84 23 r6) := by
      intro s3 e
      subst e
      unfold F_Pg_readsDigit_57
      simp (disch := omega) only [tc.1, y2, t23 T1, gd_true, beq_self_eq_true, bd_s, l_1, l_4, wu1, h9, nI_add]
    by_cases e : mi = 0
    · rw [if_pos (show nI mi = (0 : Int32) by rw [e]; rfl), l_10]
      exact key _ (by rw [if_pos e])
    · rw [if_neg (show ¬ nI mi = (0 : Int32) from nIne (k := 0) (by omega) (by omega) e), l_10]
      exact key _ (by rw [if_neg e])
  · exact y3.fr ((FR.refl (fun a i => a = 23) _).s 23 9 (nI (dg + 1)) rfl) (fun a i h1 h2 => by omega)
theorem M_isFig {x : Nat} (hx : x ≤ 126) : F_M_isFigure (nI x) = if 48 ≤ x ∧ x ≤ 57 then nI 1 else nI 0 := by
  unfold F_M_isFigure
  rw [M_in_iff, nI_toInt (by omega), show (48 : Int64).toInt = 48 from by decide +kernel, show (57 : Int64).toInt = 57 from by decide +kernel]
  by_cases h : 48 ≤ x ∧ x ≤ 57
  · rw [if_pos h, if_pos (by omega)]; rfl
  · rw [if_neg h, if_neg (by omega)]; rfl
theorem M_fieldOf {c : Nat} (hc : c ≤ 126) : F_M_fieldOf (nI c) = if fdx c < 4 then nI (fdx c) else mI 1 := by
  unfold F_M_fieldOf fdx
  simp (disch := omega) only [qL, ↓qM, q_eq]
  by_cases h1 : c = 83
  · rw [if_pos h1, if_pos h1, if_pos (by omega)]
  rw [if_neg h1, if_neg h1]
  by_cases h2 : c = 87
  · rw [if_pos h2, if_pos h2, if_pos (by omega)]
  rw [if_neg h2, if_neg h2]
  by_cases h3 : c = 82
  · rw [if_pos h3, if_pos h3, if_pos (by omega)]
  rw [if_neg h3, if_neg h3]
  by_cases h4 : c = 84
  · rw [if_pos h4, if_pos h4, if_pos (by omega)]
  rw [if_neg h4, if_neg h4, if_neg (by omega)]
theorem G_paren (T : Top L xs v) {W : List Nat} {g : Nat} (hW : WT v W) (hl : W.length < 80) (h12 : wi v 271 12 = nI g) : F_M_goOnFactor 271 (nI 40) v = some (nI 1, upI (upI (upI v 283 W.length (nI 15)) 271 28 (nI (W.length + 1))) 271 12 (nI (g + 1))) := by
  unfold F_M_goOnFactor
  rw [if_neg (show ¬ nI 40 = (33 : Int32) by decide +kernel), if_pos (show nI 40 = (40 : Int32) from rfl)]
  simp (disch := omega) only [qL, ↓qM, mPar T, hW.1, q_inb, q_nat, wu0, wu1, h12, nI_add, gd_true, beq_self_eq_true, bd_s, if_true, if_false, ↓reduceIte, ite_true, ite_false, Bool.and_self, Bool.and_true, Bool.true_and, Nat.reduceBEq, Bool.or_true, Bool.true_or, Bool.or_self]
theorem G_not (T : Top L xs v) {W : List Nat} (hW : WT v W) (hl : W.length < 80) : F_M_goOnFactor 271 (nI 33) v = some (nI 1, upI (upI v 283 W.length (nI 12)) 271 28 (nI (W.length + 1))) := by
  unfold F_M_goOnFactor
  rw [if_pos (show nI 33 = (33 : Int32) from rfl)]
  simp (disch := omega) only [qL, ↓qM, mPar T, hW.1, q_inb, q_nat, wu0, wu1, nI_add, gd_true, beq_self_eq_true, bd_s, if_true, if_false, ↓reduceIte, ite_true, ite_false, Bool.and_self, Bool.and_true, Bool.true_and, Nat.reduceBEq, Bool.or_true, Bool.true_or, Bool.or_self]
theorem G_field (T : Top L xs v) {c : Nat} (hc : c ≤ 126) (h1 : c ≠ 40) (h2 : c ≠ 33) : F_M_goOnFactor 271 (nI c) v = if fdx c < 4 then some (nI 1, upI (upI v 271 16 (nI (fdx c))) 271 10 (nI 1)) else some (nI 0, upI (upI v 271 16 (mI 1)) 271 10 (nI 1)) := by
  unfold F_M_goOnFactor
  rw [if_neg (show ¬ nI c = (33 : Int32) from nIne (k := 33) hc (by omega) h2), if_neg (show ¬ nI c = (40 : Int32) from nIne (k := 40) hc (by omega) h1), M_fieldOf hc]
  simp (disch := omega) only [qL, ↓qM, mK T, wu0, wu1, gd_true, beq_self_eq_true, bd_s, if_true, if_false, ↓reduceIte, ite_true, ite_false, Bool.and_self, Bool.and_true, Bool.true_and, Nat.reduceBEq, Bool.or_true, Bool.true_or, Bool.or_self]
  by_cases e : fdx c < 4
  · rw [if_pos e, if_pos e, if_neg (by rw [q_nm (by omega) (by omega) (by omega)]; exact not_false)]
  · rw [if_neg e, if_neg e, if_pos rfl]
theorem G_sign (T : Top L xs v) (h10 : wi v 271 10 = nI 1) {x : Nat} (hx : x ≤ 126) : ∃ s, F_M_goOn 271 (nI x) v = some (if sgx x < 3 then nI 1 else nI 0, upI (upI v 271 17 (nI s)) 271 10 (nI 2)) ∧ (sgx x < 3 → s = sgx x) := by
  rw [M_go1 T h10]
  unfold F_M_goOn_104
  simp (disch := omega) only [qL, ↓qM, q_eq, mK T, wk_upI, gd_true, beq_self_eq_true, bd_s, if_true, if_false, ↓reduceIte, ite_true, ite_false, Bool.and_self, Bool.and_true, Bool.true_and, Nat.reduceBEq, Bool.or_true, Bool.true_or, Bool.or_self]
  by_cases h1 : x = 60
  · have e : sgx x = 0 := by unfold sgx; rw [if_pos h1]
    rw [if_pos h1, if_pos h1, e, if_pos (by omega)]; exact ⟨0, rfl, fun _ => rfl⟩
  rw [if_neg h1]
  by_cases h2 : x = 61
  · have e : sgx x = 1 := by unfold sgx; rw [if_neg h1, if_pos h2]
    rw [if_pos h2, if_neg h1, if_pos h2, e, if_pos (by omega)]; exact ⟨1, rfl, fun _ => rfl⟩
  rw [if_neg h2, if_neg h1, if_neg h2]
  by_cases h3 : x = 62
  · have e : sgx x = 2 := by unfold sgx; rw [if_neg h1, if_neg h2, if_pos h3]
    rw [if_pos h3, e, if_pos (by omega)]; exact ⟨2, rfl, fun _ => rfl⟩
  · have e : sgx x = 3 := by unfold sgx; rw [if_neg h1, if_neg h2, if_neg h3]
    rw [if_neg h3, e, if_neg (by omega)]; exact ⟨2, rfl, fun h => by omega⟩
theorem bd01 : (nI 0 == (0 : Int32) || nI 0 == 1) = true ∧ (nI 1 == (0 : Int32) || nI 1 == 1) = true := by decide +kernel
theorem G_148a (T : Top L xs v) (x : Int32) : F_M_goOn_148 271 x 1 271 v = some (nI 1, upI (upI (upI (upI v 271 15 (nI 1)) 271 13 (nI 0)) 271 14 (nI 0)) 271 10 (nI 3)) := by
  have n1 : ¬ nI 1 = (0 : Int32) := by decide +kernel
  unfold F_M_goOn_148
  simp only [l_1, l_0, bd01.2, show (nI 1 == nI 0 || nI 1 == nI 1) = true from bd01.2, mK T, wu0, gd_true, beq_self_eq_true, wk_upI]
  rw [if_neg (show ¬ nI 1 = nI 0 from n1)]
  unfold F_M_goOn_164
  simp (disch := omega) only [l_1, l_0, mK T, wu0, wu1, gd_true, beq_self_eq_true, wk_upI]
  rw [if_neg (show ¬ nI 1 = nI 0 from n1)]
  unfold F_M_goOn_183
  simp (disch := omega) only [l_0, mK T, wu0, wu1, gd_true, beq_self_eq_true, wk_upI]
  rw [if_neg (show ¬ nI 1 = nI 0 from n1)]
  unfold F_M_goOn_199
  simp (disch := omega) only [l_0, l_1, mK T, wu0, wu1, gd_true, beq_self_eq_true, wk_upI]
  rw [if_neg (show ¬ nI 1 = nI 0 from n1)]
  rfl
theorem G_148b (T : Top L xs v) (x : Int32) : F_M_goOn_148 271 x 0 271 v = if F_M_isFigure x = 0 then some (nI 0, upI (upI (upI (upI v 271 15 (nI 0)) 271 13 (nI 1)) 271 14 (x - nI 48)) 271 10 (nI 4)) else some (nI 1, upI (upI (upI (upI v 271 15 (nI 0)) 271 13 (nI 1)) 271 14 (x - nI 48)) 271 10 (nI 4)) := by
  unfold F_M_goOn_148
  simp only [l_1, l_0, show (nI 0 == nI 0 || nI 0 == nI 1) = true from bd01.1, mK T, wu0, wk_upI, gd_true, beq_self_eq_true, bd_s, if_true, if_false, ↓reduceIte, ite_true, ite_false, Bool.and_self, Bool.and_true, Bool.true_and, Nat.reduceBEq, Bool.or_true, Bool.true_or, Bool.or_self]
  unfold F_M_goOn_164
  simp (disch := omega) only [l_0, mK T, wu0, wu1, wk_upI, gd_true, beq_self_eq_true, bd_s, if_true, if_false, ↓reduceIte, ite_true, ite_false, Bool.and_self, Bool.and_true, Bool.true_and, Nat.reduceBEq, Bool.or_true, Bool.true_or, Bool.or_self]
  unfold F_M_goOn_183
  simp (disch := omega) only [l_0, mK T, wu0, wu1, wk_upI, gd_true, beq_self_eq_true, bd_s, if_true, if_false, ↓reduceIte, ite_true, ite_false, Bool.and_self, Bool.and_true, Bool.true_and, Nat.reduceBEq, Bool.or_true, Bool.true_or, Bool.or_self]
  unfold F_M_goOn_199
  simp (disch := omega) only [l_0, l_1, mK T, wu0, wu1, wk_upI, gd_true, beq_self_eq_true, bd_s, if_true, if_false, ↓reduceIte, ite_true, ite_false, Bool.and_self, Bool.and_true, Bool.true_and, Nat.reduceBEq, Bool.or_true, Bool.true_or, Bool.or_self]
  rfl
theorem G_num (T : Top L xs v) (h10 : wi v 271 10 = nI 2) {x : Nat} (hx : x ≤ 126) : (x = 45 → F_M_goOn 271 (nI x) v = some (nI 1, upI (upI (upI (upI v 271 15 (nI 1)) 271 13 (nI 0)) 271 14 (nI 0)) 271 10 (nI 3))) ∧ (x ≠ 45 → 48 ≤ x ∧ x ≤ 57 → F_M_goOn 271 (nI x) v = some (nI 1, upI (upI (upI (upI v 271 15 (nI 0)) 271 13 (nI 1)) 271 14 (nI (x - 48))) 271 10 (nI 4))) ∧ (x ≠ 45 → ¬ (48 ≤ x ∧ x ≤ 57) → ∃ y, F_M_goOn 271 (nI x) v = some (nI 0, upI (upI (upI (upI v 271 15 (nI 0)) 271 13 (nI 1)) 271 14 y) 271 10 (nI 4))) := by
  rw [M_go2 T h10, G_148a T, G_148b T, M_isFig hx]
  refine ⟨fun h => ?_, fun h1 h2 => ?_, fun h1 h2 => ⟨nI x - nI 48, ?_⟩⟩
  · rw [if_pos (show nI x = (45 : Int32) by rw [h]; rfl)]
  · rw [if_neg (show ¬ nI x = (45 : Int32) from nIne (k := 45) hx (by omega) h1), if_pos h2, if_neg (show ¬ nI 1 = (0 : Int32) by decide +kernel), q_sub h2.1]
  · rw [if_neg (show ¬ nI x = (45 : Int32) from nIne (k := 45) hx (by omega) h1), if_neg h2, if_pos (show nI 0 = (0 : Int32) from rfl)]
theorem G_dig3 (T : Top L xs v) (h10 : wi v 271 10 = nI 3) {x : Nat} (hx : x ≤ 126) : (48 ≤ x ∧ x ≤ 57 → F_M_goOn 271 (nI x) v = some (nI 1, upI (upI (upI v 271 13 (nI 1)) 271 14 (nI (x - 48))) 271 10 (nI 4))) ∧ (¬ (48 ≤ x ∧ x ≤ 57) → ∃ y, F_M_goOn 271 (nI x) v = some (nI 0, upI (upI (upI v 271 13 (nI 1)) 271 14 y) 271 10 (nI 4))) := by
  rw [M_go3 T h10, M_isFig hx]
  refine ⟨fun h => ?_, fun h => ⟨nI x - nI 48, ?_⟩⟩
  · rw [if_pos h, l_48, q_sub h.1]; rfl
  · rw [if_neg h]; rfl
theorem G_dig4 (T : Top L xs v) (h10 : wi v 271 10 = nI 4) {x dg val : Nat} (hx : 48 ≤ x ∧ x ≤ 57) (h13 : wi v 271 13 = nI dg) (h14 : wi v 271 14 = nI val) (hd : dg < 3) : F_M_goOn 271 (nI x) v = some (nI 1, upI (upI v 271 13 (nI (dg + 1))) 271 14 (nI (10 * val + (x - 48)))) := by
  rw [M_go4 T h10, M_isFig (by omega), if_pos hx, if_neg (show ¬ nI 1 = (0 : Int32) by decide +kernel), h13, if_neg (show ¬ (3 : Int32) ≤ nI dg by rw [l_3, q_le (by omega) (by omega)]; omega)]
  simp (disch := omega) only [qL, ↓qM, wu1, h14, nI_add, pk_mul]
  rw [q_sub (by omega), show 10 * val + x - 48 = 10 * val + (x - 48) by omega]
theorem G_beh4 (T : Top L xs v) (h10 : wi v 271 10 = nI 4) {x dg : Nat} (hx : x ≤ 126) (h13 : wi v 271 13 = nI dg) (hd : ¬ (48 ≤ x ∧ x ≤ 57) ∨ dg = 3) : F_M_goOn 271 (nI x) v = F_M_goOn_288 271 (nI x) v := by
  rw [M_go4 T h10, M_isFig hx]
  by_cases e : 48 ≤ x ∧ x ≤ 57
  · rcases hd with hd | hd
    · exact absurd e hd
    · rw [if_pos e, if_neg (show ¬ nI 1 = (0 : Int32) by decide +kernel), h13, hd, if_pos (show (3 : Int32) ≤ nI 3 by decide +kernel)]
  · rw [if_neg e, if_pos (show nI 0 = (0 : Int32) from rfl)]
end
