/-! PURE: the calls of the law, each on both sides (out of gen/law.py) -/
section
variable {L : Nat} {xs : Nat → Int32} {S : Nat → Nat → Int32}
theorem ro (z0 q0 : Nat) : (Nat.ble (300 + 0) (z0 + 600000) && Nat.ble (42927 + 0) (q0 + 7302250)) = true := by simp only [Bool.and_eq_true, Nat.ble_eq]; omega
theorem t1 {w : AW} (T : Top L xs w) : wk w 1 = 110 ∧ wn w 1 = L := ⟨T.k 1 110 (by decide +kernel), T.2.2.2.2.1⟩
theorem wzz : (300 == 300 + 0) = true ∧ (42927 == 42927 + 0) = true := by decide
theorem W_1661 {w : AW} (I : Inv L xs S w) (hL : L ≤ 3072) (rec18 : Nat → Nat → Nat → Int32 → AW → Option (Int32 × AW)) (z0 q0 : Nat) {p : Nat} (hp : p + 6 ≤ L) : ∃ S1 v, Inv L xs S1 v ∧ F_Lw_law_1661 rec18 z0 q0 1 16 271 (nI p) w = rec18 1 16 271 (nI (p + 6)) v := by
  have T := I.1
  obtain ⟨r, h1, h2⟩ := S_count I (xs (p + 1))
  refine ⟨S, w, I, ?_⟩
  unfold F_Lw_law_1661
  simp (disch := omega) only [qL, ↓qM, t1 T, t16 T, mK T, T.1, T.2.1, ro, T.x, q_inb, q_nat, nI_add, h1, h2, gd_true, beq_self_eq_true, bd_s, if_true, if_false, ↓reduceIte, ite_true, ite_false, Bool.and_self, Bool.and_true, Bool.true_and, Nat.reduceBEq, Bool.or_true, Bool.true_or, Bool.or_self]
theorem W_1618 {w : AW} (I : Inv L xs S w) (hL : L ≤ 3072) (rec18 : Nat → Nat → Nat → Int32 → AW → Option (Int32 × AW)) (z0 q0 : Nat) {p : Nat} (hp : p + 6 ≤ L) : ∃ S1 v, Inv L xs S1 v ∧ F_Lw_law_1618 rec18 z0 q0 1 16 271 (nI p) w = rec18 1 16 271 (nI (p + 6)) v := by
  have T := I.1
  obtain ⟨r, w1, w2, S1, h1, T1, h2, J⟩ := S_spring I (xs (p + 1)) (xs (p + 2)) (xs (p + 3))
  obtain ⟨r2, e1, e2⟩ := bd_e h2
  obtain ⟨rfl, rfl⟩ : r2 = r ∧ w1 = w2 := by injection e2 with e2; injection e2 with e3 e4; exact ⟨e3, e4⟩
  refine ⟨S1, w1, J, ?_⟩
  unfold F_Lw_law_1618
  simp (disch := omega) only [qL, ↓qM, t1 T, t16 T, T.1, T.2.1, ro, T.x, q_inb, q_nat, nI_add, h1, wzz, T1.1, T1.2.1, t1 T1, mK T1, T1.x, e1, gd_true, beq_self_eq_true, bd_s, if_true, if_false, ↓reduceIte, ite_true, ite_false, Bool.and_self, Bool.and_true, Bool.true_and, Nat.reduceBEq, Bool.or_true, Bool.true_or, Bool.or_self]
theorem W_1575 {w : AW} (I : Inv L xs S w) (hL : L ≤ 3072) (rec18 : Nat → Nat → Nat → Int32 → AW → Option (Int32 × AW)) (z0 q0 : Nat) {p : Nat} (hp : p + 6 ≤ L) : ∃ S1 v, Inv L xs S1 v ∧ F_Lw_law_1575 rec18 z0 q0 1 16 271 (nI p) w = rec18 1 16 271 (nI (p + 6)) v := by
  have T := I.1
  obtain ⟨r, w1, w2, S1, h1, T1, h2, J⟩ := S_source I (xs (p + 1)) (xs (p + 2)) (xs (p + 3))
  obtain ⟨r2, e1, e2⟩ := bd_e h2
  obtain ⟨rfl, rfl⟩ : r2 = r ∧ w1 = w2 := by injection e2 with e2; injection e2 with e3 e4; exact ⟨e3, e4⟩
  refine ⟨S1, w1, J, ?_⟩
  unfold F_Lw_law_1575
  simp (disch := omega) only [qL, ↓qM, t1 T, t16 T, T.1, T.2.1, ro, T.x, q_inb, q_nat, nI_add, h1, wzz, T1.1, T1.2.1, t1 T1, mK T1, T1.x, e1, gd_true, beq_self_eq_true, bd_s, if_true, if_false, ↓reduceIte, ite_true, ite_false, Bool.and_self, Bool.and_true, Bool.true_and, Nat.reduceBEq, Bool.or_true, Bool.true_or, Bool.or_self]
theorem W_1522 {w : AW} (I : Inv L xs S w) (hL : L ≤ 3072) (rec18 : Nat → Nat → Nat → Int32 → AW → Option (Int32 × AW)) (z0 q0 : Nat) {p : Nat} (hp : p + 6 ≤ L) : ∃ S1 v, Inv L xs S1 v ∧ F_Lw_law_1522 rec18 z0 q0 1 16 271 (nI p) w = rec18 1 16 271 (nI (p + 6)) v := by
  have T := I.1
  obtain ⟨r, w1, w2, S1, h1, T1, h2, J⟩ := S_alike I (xs (p + 1)) (xs (p + 2)) (xs (p + 3)) (xs (p + 4))
  obtain ⟨r2, e1, e2⟩ := bd_e h2
  obtain ⟨rfl, rfl⟩ : r2 = r ∧ w1 = w2 := by injection e2 with e2; injection e2 with e3 e4; exact ⟨e3, e4⟩
  refine ⟨S1, w1, J, ?_⟩
  unfold F_Lw_law_1522
  simp (disch := omega) only [qL, ↓qM, t1 T, t16 T, T.1, T.2.1, ro, T.x, q_inb, q_nat, nI_add, h1, wzz, T1.1, T1.2.1, t1 T1, mK T1, T1.x, e1, gd_true, beq_self_eq_true, bd_s, if_true, if_false, ↓reduceIte, ite_true, ite_false, Bool.and_self, Bool.and_true, Bool.true_and, Nat.reduceBEq, Bool.or_true, Bool.true_or, Bool.or_self]
theorem W_1469 {w : AW} (I : Inv L xs S w) (hL : L ≤ 3072) (rec18 : Nat → Nat → Nat → Int32 → AW → Option (Int32 × AW)) (z0 q0 : Nat) {p : Nat} (hp : p + 6 ≤ L) : ∃ S1 v, Inv L xs S1 v ∧ F_Lw_law_1469 rec18 z0 q0 1 16 271 (nI p) w = rec18 1 16 271 (nI (p + 6)) v := by
  have T := I.1
  obtain ⟨r, w1, w2, S1, h1, T1, h2, J⟩ := S_shared I (xs (p + 1)) (xs (p + 2)) (xs (p + 3)) (xs (p + 4))
  obtain ⟨r2, e1, e2⟩ := bd_e h2
  obtain ⟨rfl, rfl⟩ : r2 = r ∧ w1 = w2 := by injection e2 with e2; injection e2 with e3 e4; exact ⟨e3, e4⟩
  refine ⟨S1, w1, J, ?_⟩
  unfold F_Lw_law_1469
  simp (disch := omega) only [qL, ↓qM, t1 T, t16 T, T.1, T.2.1, ro, T.x, q_inb, q_nat, nI_add, h1, wzz, T1.1, T1.2.1, t1 T1, mK T1, T1.x, e1, gd_true, beq_self_eq_true, bd_s, if_true, if_false, ↓reduceIte, ite_true, ite_false, Bool.and_self, Bool.and_true, Bool.true_and, Nat.reduceBEq, Bool.or_true, Bool.true_or, Bool.or_self]
theorem W_1436 {w : AW} (I : Inv L xs S w) (hL : L ≤ 3072) (rec18 : Nat → Nat → Nat → Int32 → AW → Option (Int32 × AW)) (z0 q0 : Nat) {p : Nat} (hp : p + 6 ≤ L) : ∃ S1 v, Inv L xs S1 v ∧ F_Lw_law_1436 rec18 z0 q0 1 16 271 (nI p) w = rec18 1 16 271 (nI (p + 6)) v := by
  have T := I.1
  obtain ⟨r, w1, w2, S1, h1, T1, h2, J⟩ := S_wrong I (xs (p + 1)) (xs (p + 2))
  obtain ⟨r2, e1, e2⟩ := bd_e h2
  obtain ⟨rfl, rfl⟩ : r2 = r ∧ w1 = w2 := by injection e2 with e2; injection e2 with e3 e4; exact ⟨e3, e4⟩
  refine ⟨S1, w1, J, ?_⟩
  unfold F_Lw_law_1436
  simp (disch := omega) only [qL, ↓qM, t1 T, t16 T, T.1, T.2.1, ro, T.x, q_inb, q_nat, nI_add, h1, wzz, T1.1, T1.2.1, t1 T1, mK T1, T1.x, e1, gd_true, beq_self_eq_true, bd_s, if_true, if_false, ↓reduceIte, ite_true, ite_false, Bool.and_self, Bool.and_true, Bool.true_and, Nat.reduceBEq, Bool.or_true, Bool.true_or, Bool.or_self]
theorem W_1393 {w : AW} (I : Inv L xs S w) (hL : L ≤ 3072) (rec18 : Nat → Nat → Nat → Int32 → AW → Option (Int32 × AW)) (z0 q0 : Nat) {p : Nat} (hp : p + 6 ≤ L) : ∃ S1 v, Inv L xs S1 v ∧ F_Lw_law_1393 rec18 z0 q0 1 16 271 (nI p) w = rec18 1 16 271 (nI (p + 6)) v := by
  have T := I.1
  obtain ⟨r, w1, w2, S1, h1, T1, h2, J⟩ := S_foretell I (xs (p + 1)) (xs (p + 2)) (xs (p + 3))
  have T2 := J.1
  refine ⟨S1, w2, J, ?_⟩
  unfold F_Lw_law_1393
  simp (disch := omega) only [qL, ↓qM, t1 T, t16 T, T.1, T.2.1, ro, T.x, q_inb, q_nat, nI_add, h1, wzz, T1.1, T1.2.1, t1 T1, mK T1, T1.x, h2, T2.1, T2.2.1, gd_true, beq_self_eq_true, bd_s, if_true, if_false, ↓reduceIte, ite_true, ite_false, Bool.and_self, Bool.and_true, Bool.true_and, Nat.reduceBEq, Bool.or_true, Bool.true_or, Bool.or_self]
theorem W_1340 {w : AW} (I : Inv L xs S w) (hL : L ≤ 3072) (rec18 : Nat → Nat → Nat → Int32 → AW → Option (Int32 × AW)) (z0 q0 : Nat) {p : Nat} (hp : p + 6 ≤ L) : ∃ S1 v, Inv L xs S1 v ∧ F_Lw_law_1340 rec18 z0 q0 1 16 271 (nI p) w = rec18 1 16 271 (nI (p + 6)) v := by
  have T := I.1
  obtain ⟨r, w1, w2, S1, h1, T1, h2, J⟩ := S_copy I (xs (p + 1)) (xs (p + 2)) (xs (p + 3)) (xs (p + 4))
  have T2 := J.1
  refine ⟨S1, w2, J, ?_⟩
  unfold F_Lw_law_1340
  simp (disch := omega) only [qL, ↓qM, t1 T, t16 T, T.1, T.2.1, ro, T.x, q_inb, q_nat, nI_add, h1, wzz, T1.1, T1.2.1, t1 T1, mK T1, T1.x, h2, T2.1, T2.2.1, gd_true, beq_self_eq_true, bd_s, if_true, if_false, ↓reduceIte, ite_true, ite_false, Bool.and_self, Bool.and_true, Bool.true_and, Nat.reduceBEq, Bool.or_true, Bool.true_or, Bool.or_self]
theorem W_1297 {w : AW} (I : Inv L xs S w) (hL : L ≤ 3072) (rec18 : Nat → Nat → Nat → Int32 → AW → Option (Int32 × AW)) (z0 q0 : Nat) {p : Nat} (hp : p + 6 ≤ L) : ∃ S1 v, Inv L xs S1 v ∧ F_Lw_law_1297 rec18 z0 q0 1 16 271 (nI p) w = rec18 1 16 271 (nI (p + 6)) v := by
  have T := I.1
  obtain ⟨r, w1, w2, S1, h1, T1, h2, J⟩ := S_draw I (xs (p + 1)) (xs (p + 2)) (xs (p + 3))
  have T2 := J.1
  refine ⟨S1, w2, J, ?_⟩
  unfold F_Lw_law_1297
  simp (disch := omega) only [qL, ↓qM, t1 T, t16 T, T.1, T.2.1, ro, T.x, q_inb, q_nat, nI_add, h1, wzz, T1.1, T1.2.1, t1 T1, mK T1, T1.x, h2, T2.1, T2.2.1, gd_true, beq_self_eq_true, bd_s, if_true, if_false, ↓reduceIte, ite_true, ite_false, Bool.and_self, Bool.and_true, Bool.true_and, Nat.reduceBEq, Bool.or_true, Bool.true_or, Bool.or_self]
theorem W_1264 {w : AW} (I : Inv L xs S w) (hL : L ≤ 3072) (rec18 : Nat → Nat → Nat → Int32 → AW → Option (Int32 × AW)) (z0 q0 : Nat) {p : Nat} (hp : p + 6 ≤ L) : ∃ S1 v, Inv L xs S1 v ∧ F_Lw_law_1264 rec18 z0 q0 1 16 271 (nI p) w = rec18 1 16 271 (nI (p + 6)) v := by
  have T := I.1
  obtain ⟨r, w1, w2, S1, h1, T1, h2, J⟩ := S_age I (xs (p + 1)) (xs (p + 2))
  have T2 := J.1
  refine ⟨S1, w2, J, ?_⟩
  unfold F_Lw_law_1264
  simp (disch := omega) only [qL, ↓qM, t1 T, t16 T, T.1, T.2.1, ro, T.x, q_inb, q_nat, nI_add, h1, wzz, T1.1, T1.2.1, t1 T1, mK T1, T1.x, h2, T2.1, T2.2.1, gd_true, beq_self_eq_true, bd_s, if_true, if_false, ↓reduceIte, ite_true, ite_false, Bool.and_self, Bool.and_true, Bool.true_and, Nat.reduceBEq, Bool.or_true, Bool.true_or, Bool.or_self]
theorem W_1241 {w : AW} (I : Inv L xs S w) (hL : L ≤ 3072) (rec18 : Nat → Nat → Nat → Int32 → AW → Option (Int32 × AW)) (z0 q0 : Nat) {p : Nat} (hp : p + 6 ≤ L) : ∃ S1 v, Inv L xs S1 v ∧ F_Lw_law_1241 rec18 z0 q0 1 16 271 (nI p) w = rec18 1 16 271 (nI (p + 6)) v := by
  have T := I.1
  obtain ⟨r, h1, h2⟩ := S_list I (xs (p + 1))
  refine ⟨S, w, I, ?_⟩
  unfold F_Lw_law_1241
  simp (disch := omega) only [qL, ↓qM, t1 T, t16 T, mK T, T.1, T.2.1, ro, T.x, q_inb, q_nat, nI_add, h1, h2, gd_true, beq_self_eq_true, bd_s, if_true, if_false, ↓reduceIte, ite_true, ite_false, Bool.and_self, Bool.and_true, Bool.true_and, Nat.reduceBEq, Bool.or_true, Bool.true_or, Bool.or_self]
theorem W_1218 {w : AW} (I : Inv L xs S w) (hL : L ≤ 3072) (rec18 : Nat → Nat → Nat → Int32 → AW → Option (Int32 × AW)) (z0 q0 : Nat) {p : Nat} (hp : p + 6 ≤ L) : ∃ S1 v, Inv L xs S1 v ∧ F_Lw_law_1218 rec18 z0 q0 1 16 271 (nI p) w = rec18 1 16 271 (nI (p + 6)) v := by
  have T := I.1
  obtain ⟨r, h1, h2⟩ := S_entry I (xs (p + 1))
  refine ⟨S, w, I, ?_⟩
  unfold F_Lw_law_1218
  simp (disch := omega) only [qL, ↓qM, t1 T, t16 T, mK T, T.1, T.2.1, ro, T.x, q_inb, q_nat, nI_add, h1, h2, gd_true, beq_self_eq_true, bd_s, if_true, if_false, ↓reduceIte, ite_true, ite_false, Bool.and_self, Bool.and_true, Bool.true_and, Nat.reduceBEq, Bool.or_true, Bool.true_or, Bool.or_self]
theorem W_1165 {w : AW} (I : Inv L xs S w) (hL : L ≤ 3072) (rec18 : Nat → Nat → Nat → Int32 → AW → Option (Int32 × AW)) (z0 q0 : Nat) {p : Nat} (hp : p + 6 ≤ L) : ∃ S1 v, Inv L xs S1 v ∧ F_Lw_law_1165 rec18 z0 q0 1 16 271 (nI p) w = rec18 1 16 271 (nI (p + 6)) v := by
  have T := I.1
  obtain ⟨r, w1, w2, S1, h1, T1, h2, J⟩ := S_learn I (xs (p + 1)) (xs (p + 2)) (xs (p + 3)) (xs (p + 4))
  have T2 := J.1
  refine ⟨S1, w2, J, ?_⟩
  unfold F_Lw_law_1165
  simp (disch := omega) only [qL, ↓qM, t1 T, t16 T, T.1, T.2.1, ro, T.x, q_inb, q_nat, nI_add, h1, wzz, T1.1, T1.2.1, t1 T1, mK T1, T1.x, h2, T2.1, T2.2.1, gd_true, beq_self_eq_true, bd_s, if_true, if_false, ↓reduceIte, ite_true, ite_false, Bool.and_self, Bool.and_true, Bool.true_and, Nat.reduceBEq, Bool.or_true, Bool.true_or, Bool.or_self]
theorem W_1142 {w : AW} (I : Inv L xs S w) (hL : L ≤ 3072) (rec18 : Nat → Nat → Nat → Int32 → AW → Option (Int32 × AW)) (z0 q0 : Nat) {p : Nat} (hp : p + 6 ≤ L) : ∃ S1 v, Inv L xs S1 v ∧ F_Lw_law_1142 rec18 z0 q0 1 16 271 (nI p) w = rec18 1 16 271 (nI (p + 6)) v := by
  have T := I.1
  obtain ⟨r, w1, w2, S1, h1, T1, h2, J⟩ := S_home I (xs (p + 1))
  have T2 := J.1
  refine ⟨S1, w2, J, ?_⟩
  unfold F_Lw_law_1142
  simp (disch := omega) only [qL, ↓qM, t1 T, t16 T, T.1, T.2.1, ro, T.x, q_inb, q_nat, nI_add, h1, wzz, T1.1, T1.2.1, t1 T1, mK T1, T1.x, h2, T2.1, T2.2.1, gd_true, beq_self_eq_true, bd_s, if_true, if_false, ↓reduceIte, ite_true, ite_false, Bool.and_self, Bool.and_true, Bool.true_and, Nat.reduceBEq, Bool.or_true, Bool.true_or, Bool.or_self]
theorem W_1109 {w : AW} (I : Inv L xs S w) (hL : L ≤ 3072) (rec18 : Nat → Nat → Nat → Int32 → AW → Option (Int32 × AW)) (z0 q0 : Nat) {p : Nat} (hp : p + 6 ≤ L) : ∃ S1 v, Inv L xs S1 v ∧ F_Lw_law_1109 rec18 z0 q0 1 16 271 (nI p) w = rec18 1 16 271 (nI (p + 6)) v := by
  have T := I.1
  obtain ⟨r, w1, w2, S1, h1, T1, h2, J⟩ := S_one I (xs (p + 1)) (xs (p + 2))
  have T2 := J.1
  refine ⟨S1, w2, J, ?_⟩
  unfold F_Lw_law_1109
  simp (disch := omega) only [qL, ↓qM, t1 T, t16 T, T.1, T.2.1, ro, T.x, q_inb, q_nat, nI_add, h1, wzz, T1.1, T1.2.1, t1 T1, mK T1, T1.x, h2, T2.1, T2.2.1, gd_true, beq_self_eq_true, bd_s, if_true, if_false, ↓reduceIte, ite_true, ite_false, Bool.and_self, Bool.and_true, Bool.true_and, Nat.reduceBEq, Bool.or_true, Bool.true_or, Bool.or_self]
theorem W_1066 {w : AW} (I : Inv L xs S w) (hL : L ≤ 3072) (rec18 : Nat → Nat → Nat → Int32 → AW → Option (Int32 × AW)) (z0 q0 : Nat) {p : Nat} (hp : p + 6 ≤ L) : ∃ S1 v, Inv L xs S1 v ∧ F_Lw_law_1066 rec18 z0 q0 1 16 271 (nI p) w = rec18 1 16 271 (nI (p + 6)) v := by
  have T := I.1
  obtain ⟨r, w1, w2, S1, h1, T1, h2, J⟩ := S_parted I (xs (p + 1)) (xs (p + 2)) (xs (p + 3))
  have T2 := J.1
  refine ⟨S1, w2, J, ?_⟩
  unfold F_Lw_law_1066
  simp (disch := omega) only [qL, ↓qM, t1 T, t16 T, T.1, T.2.1, ro, T.x, q_inb, q_nat, nI_add, h1, wzz, T1.1, T1.2.1, t1 T1, mK T1, T1.x, h2, T2.1, T2.2.1, gd_true, beq_self_eq_true, bd_s, if_true, if_false, ↓reduceIte, ite_true, ite_false, Bool.and_self, Bool.and_true, Bool.true_and, Nat.reduceBEq, Bool.or_true, Bool.true_or, Bool.or_self]
theorem W_1033 {w : AW} (I : Inv L xs S w) (hL : L ≤ 3072) (rec18 : Nat → Nat → Nat → Int32 → AW → Option (Int32 × AW)) (z0 q0 : Nat) {p : Nat} (hp : p + 6 ≤ L) : ∃ S1 v, Inv L xs S1 v ∧ F_Lw_law_1033 rec18 z0 q0 1 16 271 (nI p) w = rec18 1 16 271 (nI (p + 6)) v := by
  have T := I.1
  obtain ⟨r, w1, w2, S1, h1, T1, h2, J⟩ := S_chance I (xs (p + 1)) (xs (p + 2))
  have T2 := J.1
  refine ⟨S1, w2, J, ?_⟩
  unfold F_Lw_law_1033
  simp (disch := omega) only [qL, ↓qM, t1 T, t16 T, T.1, T.2.1, ro, T.x, q_inb, q_nat, nI_add, h1, wzz, T1.1, T1.2.1, t1 T1, mK T1, T1.x, h2, T2.1, T2.2.1, gd_true, beq_self_eq_true, bd_s, if_true, if_false, ↓reduceIte, ite_true, ite_false, Bool.and_self, Bool.and_true, Bool.true_and, Nat.reduceBEq, Bool.or_true, Bool.true_or, Bool.or_self]
theorem W_980 {w : AW} (I : Inv L xs S w) (hL : L ≤ 3072) (rec18 : Nat → Nat → Nat → Int32 → AW → Option (Int32 × AW)) (z0 q0 : Nat) {p : Nat} (hp : p + 6 ≤ L) : ∃ S1 v, Inv L xs S1 v ∧ F_Lw_law_980 rec18 z0 q0 1 16 271 (nI p) w = rec18 1 16 271 (nI (p + 6)) v := by
  have T := I.1
  obtain ⟨r, w1, w2, S1, h1, T1, h2, J⟩ := S_turned I (xs (p + 1)) (xs (p + 2)) (xs (p + 3)) (xs (p + 4))
  have T2 := J.1
  refine ⟨S1, w2, J, ?_⟩
  unfold F_Lw_law_980
  simp (disch := omega) only [qL, ↓qM, t1 T, t16 T, T.1, T.2.1, ro, T.x, q_inb, q_nat, nI_add, h1, wzz, T1.1, T1.2.1, t1 T1, mK T1, T1.x, h2, T2.1, T2.2.1, gd_true, beq_self_eq_true, bd_s, if_true, if_false, ↓reduceIte, ite_true, ite_false, Bool.and_self, Bool.and_true, Bool.true_and, Nat.reduceBEq, Bool.or_true, Bool.true_or, Bool.or_self]
theorem W_947 {w : AW} (I : Inv L xs S w) (hL : L ≤ 3072) (rec18 : Nat → Nat → Nat → Int32 → AW → Option (Int32 × AW)) (z0 q0 : Nat) {p : Nat} (hp : p + 6 ≤ L) : ∃ S1 v, Inv L xs S1 v ∧ F_Lw_law_947 rec18 z0 q0 1 16 271 (nI p) w = rec18 1 16 271 (nI (p + 6)) v := by
  have T := I.1
  obtain ⟨r, w1, w2, S1, h1, T1, h2, J⟩ := S_worth I (xs (p + 1)) (xs (p + 2))
  have T2 := J.1
  refine ⟨S1, w2, J, ?_⟩
  unfold F_Lw_law_947
  simp (disch := omega) only [qL, ↓qM, t1 T, t16 T, T.1, T.2.1, ro, T.x, q_inb, q_nat, nI_add, h1, wzz, T1.1, T1.2.1, t1 T1, mK T1, T1.x, h2, T2.1, T2.2.1, gd_true, beq_self_eq_true, bd_s, if_true, if_false, ↓reduceIte, ite_true, ite_false, Bool.and_self, Bool.and_true, Bool.true_and, Nat.reduceBEq, Bool.or_true, Bool.true_or, Bool.or_self]
theorem W_914 {w : AW} (I : Inv L xs S w) (hL : L ≤ 3072) (rec18 : Nat → Nat → Nat → Int32 → AW → Option (Int32 × AW)) (z0 q0 : Nat) {p : Nat} (hp : p + 6 ≤ L) : ∃ S1 v, Inv L xs S1 v ∧ F_Lw_law_914 rec18 z0 q0 1 16 271 (nI p) w = rec18 1 16 271 (nI (p + 6)) v := by
  have T := I.1
  obtain ⟨r, w1, w2, S1, h1, T1, h2, J⟩ := S_expected I (xs (p + 1)) (xs (p + 2))
  have T2 := J.1
  refine ⟨S1, w2, J, ?_⟩
  unfold F_Lw_law_914
  simp (disch := omega) only [qL, ↓qM, t1 T, t16 T, T.1, T.2.1, ro, T.x, q_inb, q_nat, nI_add, h1, wzz, T1.1, T1.2.1, t1 T1, mK T1, T1.x, h2, T2.1, T2.2.1, gd_true, beq_self_eq_true, bd_s, if_true, if_false, ↓reduceIte, ite_true, ite_false, Bool.and_self, Bool.and_true, Bool.true_and, Nat.reduceBEq, Bool.or_true, Bool.true_or, Bool.or_self]
theorem W_861 {w : AW} (I : Inv L xs S w) (hL : L ≤ 3072) (rec18 : Nat → Nat → Nat → Int32 → AW → Option (Int32 × AW)) (z0 q0 : Nat) {p : Nat} (hp : p + 6 ≤ L) : ∃ S1 v, Inv L xs S1 v ∧ F_Lw_law_861 rec18 z0 q0 1 16 271 (nI p) w = rec18 1 16 271 (nI (p + 6)) v := by
  have T := I.1
  obtain ⟨r, w1, w2, S1, h1, T1, h2, J⟩ := S_month I (xs (p + 1)) (xs (p + 2)) (xs (p + 3)) (xs (p + 4))
  have T2 := J.1
  refine ⟨S1, w2, J, ?_⟩
  unfold F_Lw_law_861
  simp (disch := omega) only [qL, ↓qM, t1 T, t16 T, T.1, T.2.1, ro, T.x, q_inb, q_nat, nI_add, h1, wzz, T1.1, T1.2.1, t1 T1, mK T1, T1.x, h2, T2.1, T2.2.1, gd_true, beq_self_eq_true, bd_s, if_true, if_false, ↓reduceIte, ite_true, ite_false, Bool.and_self, Bool.and_true, Bool.true_and, Nat.reduceBEq, Bool.or_true, Bool.true_or, Bool.or_self]
theorem W_798 {w : AW} (I : Inv L xs S w) (hL : L ≤ 3072) (rec18 : Nat → Nat → Nat → Int32 → AW → Option (Int32 × AW)) (z0 q0 : Nat) {p : Nat} (hp : p + 6 ≤ L) : ∃ S1 v, Inv L xs S1 v ∧ F_Lw_law_798 rec18 z0 q0 1 16 271 (nI p) w = rec18 1 16 271 (nI (p + 6)) v := by
  have T := I.1
  obtain ⟨r, w1, w2, S1, h1, T1, h2, J⟩ := S_cases I (xs (p + 1)) (xs (p + 2)) (xs (p + 3)) (xs (p + 4)) (xs (p + 5))
  have T2 := J.1
  refine ⟨S1, w2, J, ?_⟩
  unfold F_Lw_law_798
  simp (disch := omega) only [qL, ↓qM, t1 T, t16 T, T.1, T.2.1, ro, T.x, q_inb, q_nat, nI_add, h1, wzz, T1.1, T1.2.1, t1 T1, mK T1, T1.x, h2, T2.1, T2.2.1, gd_true, beq_self_eq_true, bd_s, if_true, if_false, ↓reduceIte, ite_true, ite_false, Bool.and_self, Bool.and_true, Bool.true_and, Nat.reduceBEq, Bool.or_true, Bool.true_or, Bool.or_self]
theorem W_745 {w : AW} (I : Inv L xs S w) (hL : L ≤ 3072) (rec18 : Nat → Nat → Nat → Int32 → AW → Option (Int32 × AW)) (z0 q0 : Nat) {p : Nat} (hp : p + 6 ≤ L) : ∃ S1 v, Inv L xs S1 v ∧ F_Lw_law_745 rec18 z0 q0 1 16 271 (nI p) w = rec18 1 16 271 (nI (p + 6)) v := by
  have T := I.1
  obtain ⟨r, w1, w2, S1, h1, T1, h2, J⟩ := S_truth I (xs (p + 1)) (xs (p + 2)) (xs (p + 3)) (xs (p + 4))
  have T2 := J.1
  refine ⟨S1, w2, J, ?_⟩
  unfold F_Lw_law_745
  simp (disch := omega) only [qL, ↓qM, t1 T, t16 T, T.1, T.2.1, ro, T.x, q_inb, q_nat, nI_add, h1, wzz, T1.1, T1.2.1, t1 T1, mK T1, T1.x, h2, T2.1, T2.2.1, gd_true, beq_self_eq_true, bd_s, if_true, if_false, ↓reduceIte, ite_true, ite_false, Bool.and_self, Bool.and_true, Bool.true_and, Nat.reduceBEq, Bool.or_true, Bool.true_or, Bool.or_self]
theorem W_732 {w : AW} (I : Inv L xs S w) (hL : L ≤ 3072) (rec18 : Nat → Nat → Nat → Int32 → AW → Option (Int32 × AW)) (z0 q0 : Nat) {p : Nat} (hp : p + 6 ≤ L) : ∃ S1 v, Inv L xs S1 v ∧ F_Lw_law_732 rec18 z0 q0 1 16 271 (nI p) w = rec18 1 16 271 (nI (p + 6)) v := by
  have T := I.1
  obtain ⟨r, w1, w2, S1, h1, T1, h2, J⟩ := S_forget I 
  have T2 := J.1
  refine ⟨S1, w2, J, ?_⟩
  unfold F_Lw_law_732
  simp (disch := omega) only [qL, ↓qM, t1 T, t16 T, T.1, T.2.1, ro, T.x, q_inb, q_nat, nI_add, h1, wzz, T1.1, T1.2.1, t1 T1, mK T1, T1.x, h2, T2.1, T2.2.1, gd_true, beq_self_eq_true, bd_s, if_true, if_false, ↓reduceIte, ite_true, ite_false, Bool.and_self, Bool.and_true, Bool.true_and, Nat.reduceBEq, Bool.or_true, Bool.true_or, Bool.or_self]
theorem W_699 {w : AW} (I : Inv L xs S w) (hL : L ≤ 3072) (rec18 : Nat → Nat → Nat → Int32 → AW → Option (Int32 × AW)) (z0 q0 : Nat) {p : Nat} (hp : p + 6 ≤ L) : ∃ S1 v, Inv L xs S1 v ∧ F_Lw_law_699 rec18 z0 q0 1 16 271 (nI p) w = rec18 1 16 271 (nI (p + 6)) v := by
  have T := I.1
  obtain ⟨r, h1, h2⟩ := S_asks I (xs (p + 1)) (xs (p + 2))
  refine ⟨S, w, I, ?_⟩
  unfold F_Lw_law_699
  simp (disch := omega) only [qL, ↓qM, t1 T, t16 T, mK T, T.1, T.2.1, ro, T.x, q_inb, q_nat, nI_add, h1, h2, gd_true, beq_self_eq_true, bd_s, if_true, if_false, ↓reduceIte, ite_true, ite_false, Bool.and_self, Bool.and_true, Bool.true_and, Nat.reduceBEq, Bool.or_true, Bool.true_or, Bool.or_self]
theorem W_660 {w : AW} (I : Inv L xs S w) (hL : L ≤ 3072) (rec18 : Nat → Nat → Nat → Int32 → AW → Option (Int32 × AW)) (z0 q0 : Nat) {p : Nat} (hp : p + 6 ≤ L) : ∃ S1 v, Inv L xs S1 v ∧ F_Lw_law_660 rec18 z0 q0 1 16 271 (nI p) w = rec18 1 16 271 (nI (p + 6)) v := by
  have T := I.1
  obtain ⟨r, w1, w2, S1, h1, T1, h2, J⟩ := S_blank I 
  have T2 := J.1
  refine ⟨S1, w2, J, ?_⟩
  unfold F_Lw_law_660
  simp (disch := omega) only [qL, ↓qM, t1 T, t16 T, T.1, T.2.1, ro, T.x, q_inb, q_nat, nI_add, h1, wzz, T1.1, T1.2.1, t1 T1, mK T1, T1.x, h2, T2.1, T2.2.1, gd_true, beq_self_eq_true, bd_s, if_true, if_false, ↓reduceIte, ite_true, ite_false, Bool.and_self, Bool.and_true, Bool.true_and, Nat.reduceBEq, Bool.or_true, Bool.true_or, Bool.or_self]
theorem W_574 {w : AW} (I : Inv L xs S w) (hL : L ≤ 3072) (rec18 : Nat → Nat → Nat → Int32 → AW → Option (Int32 × AW)) (z0 q0 : Nat) {p : Nat} (hp : p + 6 ≤ L) : ∃ S1 v, Inv L xs S1 v ∧ F_Lw_law_574 rec18 z0 q0 1 16 271 (nI p) w = rec18 1 16 271 (nI (p + 6)) v := by
  have T := I.1
  obtain ⟨r, h1, h2⟩ := S_kept I (xs (p + 1)) (xs (p + 2))
  refine ⟨S, w, I, ?_⟩
  unfold F_Lw_law_574
  simp (disch := omega) only [qL, ↓qM, t1 T, t16 T, mK T, T.1, T.2.1, ro, T.x, q_inb, q_nat, nI_add, h1, h2, gd_true, beq_self_eq_true, bd_s, if_true, if_false, ↓reduceIte, ite_true, ite_false, Bool.and_self, Bool.and_true, Bool.true_and, Nat.reduceBEq, Bool.or_true, Bool.true_or, Bool.or_self]
theorem W_531 {w : AW} (I : Inv L xs S w) (hL : L ≤ 3072) (rec18 : Nat → Nat → Nat → Int32 → AW → Option (Int32 × AW)) (z0 q0 : Nat) {p : Nat} (hp : p + 6 ≤ L) : ∃ S1 v, Inv L xs S1 v ∧ F_Lw_law_531 rec18 z0 q0 1 16 271 (nI p) w = rec18 1 16 271 (nI (p + 6)) v := by
  have T := I.1
  obtain ⟨r, h1, h2⟩ := S_get I (xs (p + 1)) (xs (p + 2)) (xs (p + 3))
  refine ⟨S, w, I, ?_⟩
  unfold F_Lw_law_531
  simp (disch := omega) only [qL, ↓qM, t1 T, t16 T, mK T, T.1, T.2.1, ro, T.x, q_inb, q_nat, nI_add, h1, h2, gd_true, beq_self_eq_true, bd_s, if_true, if_false, ↓reduceIte, ite_true, ite_false, Bool.and_self, Bool.and_true, Bool.true_and, Nat.reduceBEq, Bool.or_true, Bool.true_or, Bool.or_self]
theorem W_399 {w : AW} (I : Inv L xs S w) (hL : L ≤ 3072) (rec18 : Nat → Nat → Nat → Int32 → AW → Option (Int32 × AW)) (z0 q0 : Nat) {p : Nat} (hp : p + 6 ≤ L) : ∃ S1 v, Inv L xs S1 v ∧ F_Lw_law_399 rec18 z0 q0 1 16 271 (nI p) w = rec18 1 16 271 (nI (p + 6)) v := by
  have T := I.1
  obtain ⟨r, w1, w2, S1, h1, T1, h2, J⟩ := S_write I (xs (p + 1)) (xs (p + 2)) (xs (p + 3)) (xs (p + 4))
  have T2 := J.1
  refine ⟨S1, w2, J, ?_⟩
  unfold F_Lw_law_399
  simp (disch := omega) only [qL, ↓qM, t1 T, t16 T, T.1, T.2.1, ro, T.x, q_inb, q_nat, nI_add, h1, wzz, T1.1, T1.2.1, t1 T1, mK T1, T1.x, h2, T2.1, T2.2.1, gd_true, beq_self_eq_true, bd_s, if_true, if_false, ↓reduceIte, ite_true, ite_false, Bool.and_self, Bool.and_true, Bool.true_and, Nat.reduceBEq, Bool.or_true, Bool.true_or, Bool.or_self]
theorem W_366 {w : AW} (I : Inv L xs S w) (hL : L ≤ 3072) (rec18 : Nat → Nat → Nat → Int32 → AW → Option (Int32 × AW)) (z0 q0 : Nat) {p : Nat} (hp : p + 6 ≤ L) : ∃ S1 v, Inv L xs S1 v ∧ F_Lw_law_366 rec18 z0 q0 1 16 271 (nI p) w = rec18 1 16 271 (nI (p + 6)) v := by
  have T := I.1
  obtain ⟨r, h1, h2⟩ := S_feast I (xs (p + 1)) (xs (p + 2))
  refine ⟨S, w, I, ?_⟩
  unfold F_Lw_law_366
  simp (disch := omega) only [qL, ↓qM, t1 T, t16 T, mK T, T.1, T.2.1, ro, T.x, q_inb, q_nat, nI_add, h1, h2, gd_true, beq_self_eq_true, bd_s, if_true, if_false, ↓reduceIte, ite_true, ite_false, Bool.and_self, Bool.and_true, Bool.true_and, Nat.reduceBEq, Bool.or_true, Bool.true_or, Bool.or_self]
theorem W_303 {w : AW} (I : Inv L xs S w) (hL : L ≤ 3072) (rec18 : Nat → Nat → Nat → Int32 → AW → Option (Int32 × AW)) (z0 q0 : Nat) {p : Nat} (hp : p + 6 ≤ L) : ∃ S1 v, Inv L xs S1 v ∧ F_Lw_law_303 rec18 z0 q0 1 16 271 (nI p) w = rec18 1 16 271 (nI (p + 6)) v := by
  have T := I.1
  obtain ⟨r, w1, w2, S1, h1, T1, h2, J⟩ := S_saint I (xs (p + 1)) (xs (p + 2)) (xs (p + 3)) (xs (p + 4)) (xs (p + 5))
  have T2 := J.1
  refine ⟨S1, w2, J, ?_⟩
  unfold F_Lw_law_303
  simp (disch := omega) only [qL, ↓qM, t1 T, t16 T, T.1, T.2.1, ro, T.x, q_inb, q_nat, nI_add, h1, wzz, T1.1, T1.2.1, t1 T1, mK T1, T1.x, h2, T2.1, T2.2.1, gd_true, beq_self_eq_true, bd_s, if_true, if_false, ↓reduceIte, ite_true, ite_false, Bool.and_self, Bool.and_true, Bool.true_and, Nat.reduceBEq, Bool.or_true, Bool.true_or, Bool.or_self]
theorem W_270 {w : AW} (I : Inv L xs S w) (hL : L ≤ 3072) (rec18 : Nat → Nat → Nat → Int32 → AW → Option (Int32 × AW)) (z0 q0 : Nat) {p : Nat} (hp : p + 6 ≤ L) : ∃ S1 v, Inv L xs S1 v ∧ F_Lw_law_270 rec18 z0 q0 1 16 271 (nI p) w = rec18 1 16 271 (nI (p + 6)) v := by
  have T := I.1
  obtain ⟨r, h1, h2⟩ := S_date I (xs (p + 1)) (xs (p + 2))
  refine ⟨S, w, I, ?_⟩
  unfold F_Lw_law_270
  simp (disch := omega) only [qL, ↓qM, t1 T, t16 T, mK T, T.1, T.2.1, ro, T.x, q_inb, q_nat, nI_add, h1, h2, gd_true, beq_self_eq_true, bd_s, if_true, if_false, ↓reduceIte, ite_true, ite_false, Bool.and_self, Bool.and_true, Bool.true_and, Nat.reduceBEq, Bool.or_true, Bool.true_or, Bool.or_self]
theorem W_227 {w : AW} (I : Inv L xs S w) (hL : L ≤ 3072) (rec18 : Nat → Nat → Nat → Int32 → AW → Option (Int32 × AW)) (z0 q0 : Nat) {p : Nat} (hp : p + 6 ≤ L) : ∃ S1 v, Inv L xs S1 v ∧ F_Lw_law_227 rec18 z0 q0 1 16 271 (nI p) w = rec18 1 16 271 (nI (p + 6)) v := by
  have T := I.1
  obtain ⟨r, h1, h2⟩ := S_day I (xs (p + 1)) (xs (p + 2)) (xs (p + 3))
  refine ⟨S, w, I, ?_⟩
  unfold F_Lw_law_227
  simp (disch := omega) only [qL, ↓qM, t1 T, t16 T, mK T, T.1, T.2.1, ro, T.x, q_inb, q_nat, nI_add, h1, h2, gd_true, beq_self_eq_true, bd_s, if_true, if_false, ↓reduceIte, ite_true, ite_false, Bool.and_self, Bool.and_true, Bool.true_and, Nat.reduceBEq, Bool.or_true, Bool.true_or, Bool.or_self]
theorem W_204 {w : AW} (I : Inv L xs S w) (hL : L ≤ 3072) (rec18 : Nat → Nat → Nat → Int32 → AW → Option (Int32 × AW)) (z0 q0 : Nat) {p : Nat} (hp : p + 6 ≤ L) : ∃ S1 v, Inv L xs S1 v ∧ F_Lw_law_204 rec18 z0 q0 1 16 271 (nI p) w = rec18 1 16 271 (nI (p + 6)) v := by
  have T := I.1
  obtain ⟨r, w1, w2, S1, h1, T1, h2, J⟩ := S_first I (xs (p + 1))
  have T2 := J.1
  refine ⟨S1, w2, J, ?_⟩
  unfold F_Lw_law_204
  simp (disch := omega) only [qL, ↓qM, t1 T, t16 T, T.1, T.2.1, ro, T.x, q_inb, q_nat, nI_add, h1, wzz, T1.1, T1.2.1, t1 T1, mK T1, T1.x, h2, T2.1, T2.2.1, gd_true, beq_self_eq_true, bd_s, if_true, if_false, ↓reduceIte, ite_true, ite_false, Bool.and_self, Bool.and_true, Bool.true_and, Nat.reduceBEq, Bool.or_true, Bool.true_or, Bool.or_self]
end
