/-! PURE: the law's loop -/
section
variable {L : Nat} {xs : Nat → Int32} {S : Nat → Nat → Int32}
theorem law_sub {L : Nat} (hL : L ≤ 3072) (p : Nat) (hp : p ≤ 10000) : (Int32.ofNat L - nI 6 < nI p) = (L < p + 6) := by
  have e : (nI L - nI 6).toInt = (L : Int) - 6 := by
    rw [Int32.toInt_sub, nI_toInt (by omega), nI_toInt (by omega)]
    exact Int.bmod_eq_of_le (by omega) (by omega)
  apply propext
  rw [show Int32.ofNat L = nI L from rfl, Int32.lt_iff_toInt_lt, e, nI_toInt (by omega)]
  omega
theorem law_step (HG : ∀ (S : Nat → Nat → Int32) (w : AW), Inv L xs S w → STEP L xs w (F_A_good 16) (F_M_good 271)) (HS : ∀ (S : Nat → Nat → Int32) (w : AW), Inv L xs S w → STEP L xs w (F_A_say 16) (F_M_say 271)) {w : AW} (I : Inv L xs S w) (hL : L ≤ 3072) (rec18 : Nat → Nat → Nat → Int32 → AW → Option (Int32 × AW)) (z0 q0 : Nat) {p : Nat} (hp : p + 6 ≤ L) : ∃ S1 v, Inv L xs S1 v ∧ F_Lw_law_18_B rec18 z0 q0 1 16 271 (nI p) w = rec18 1 16 271 (nI (p + 6)) v := by
  have T := I.1
  have k1 : (wk w 1 == 110) = true := by rw [(t1 T).1]; rfl
  have k2 : inb (nI p) L = true := q_inb (by omega) (by omega)
  have k3 : wi w 1 (Int32.toNatClampNeg (nI p)) = xs p := by rw [q_nat (by omega)]; exact T.x p
  have k4 : ¬ (Int32.ofNat L - (6 : Int32) < nI p) := by rw [l_6, law_sub hL p (by omega)]; omega
  unfold F_Lw_law_18_B
  rw [k1, gd_true, (t1 T).2, if_neg k4, k2, gd_true, k3]
  dsimp only
  generalize xs p &&& (63 : Int32) = v4
  by_cases h : Int32.toInt v4 < 0 ∨ 38 < Int32.toInt v4
  · rw [if_pos h]; exact ⟨S, w, I, by rw [l_6, nI_add]⟩
  rw [if_neg h]
  by_cases h0 : v4 = (0 : Int32)
  · rw [if_pos h0]; exact W_204 I hL rec18 z0 q0 hp
  rw [if_neg h0]
  by_cases h1 : v4 = (1 : Int32)
  · rw [if_pos h1]; exact W_227 I hL rec18 z0 q0 hp
  rw [if_neg h1]
  by_cases h2 : v4 = (2 : Int32)
  · rw [if_pos h2]; exact W_270 I hL rec18 z0 q0 hp
  rw [if_neg h2]
  by_cases h3 : v4 = (3 : Int32)
  · rw [if_pos h3]; exact W_303 I hL rec18 z0 q0 hp
  rw [if_neg h3]
  by_cases h4 : v4 = (4 : Int32)
  · rw [if_pos h4]; exact W_366 I hL rec18 z0 q0 hp
  rw [if_neg h4]
  by_cases h5 : v4 = (5 : Int32)
  · rw [if_pos h5]; exact W_399 I hL rec18 z0 q0 hp
  rw [if_neg h5]
  by_cases h6 : v4 = (6 : Int32)
  · rw [if_pos h6]; exact W_452 I hL rec18 z0 q0 hp
  rw [if_neg h6]
  by_cases h7 : v4 = (7 : Int32)
  · rw [if_pos h7]; exact W_531 I hL rec18 z0 q0 hp
  rw [if_neg h7]
  by_cases h8 : v4 = (8 : Int32)
  · rw [if_pos h8]; exact W_574 I hL rec18 z0 q0 hp
  rw [if_neg h8]
  by_cases h9 : v4 = (9 : Int32)
  · rw [if_pos h9]; exact W_607 I hL rec18 z0 q0 hp
  rw [if_neg h9]
  by_cases h10 : v4 = (10 : Int32)
  · rw [if_pos h10]; exact W_660 I hL rec18 z0 q0 hp
  rw [if_neg h10]
  by_cases h11 : v4 = (11 : Int32)
  · rw [if_pos h11]; exact W_673 (HS S w I) I hL rec18 z0 q0 hp
  rw [if_neg h11]
  by_cases h12 : v4 = (12 : Int32)
  · rw [if_pos h12]; exact W_686 (HG S w I) I hL rec18 z0 q0 hp
  rw [if_neg h12]
  by_cases h13 : v4 = (13 : Int32)
  · rw [if_pos h13]; exact W_699 I hL rec18 z0 q0 hp
  rw [if_neg h13]
  by_cases h14 : v4 = (14 : Int32)
  · rw [if_pos h14]; exact W_732 I hL rec18 z0 q0 hp
  rw [if_neg h14]
  by_cases h15 : v4 = (15 : Int32)
  · rw [if_pos h15]; exact W_745 I hL rec18 z0 q0 hp
  rw [if_neg h15]
  by_cases h16 : v4 = (16 : Int32)
  · rw [if_pos h16]; exact W_798 I hL rec18 z0 q0 hp
  rw [if_neg h16]
  by_cases h17 : v4 = (17 : Int32)
  · rw [if_pos h17]; exact W_861 I hL rec18 z0 q0 hp
  rw [if_neg h17]
  by_cases h18 : v4 = (18 : Int32)
  · rw [if_pos h18]; exact W_914 I hL rec18 z0 q0 hp
  rw [if_neg h18]
  by_cases h19 : v4 = (19 : Int32)
  · rw [if_pos h19]; exact W_947 I hL rec18 z0 q0 hp
  rw [if_neg h19]
  by_cases h20 : v4 = (20 : Int32)
  · rw [if_pos h20]; exact W_980 I hL rec18 z0 q0 hp
  rw [if_neg h20]
  by_cases h21 : v4 = (21 : Int32)
  · rw [if_pos h21]; exact W_1033 I hL rec18 z0 q0 hp
  rw [if_neg h21]
  by_cases h22 : v4 = (22 : Int32)
  · rw [if_pos h22]; exact W_1066 I hL rec18 z0 q0 hp
  rw [if_neg h22]
  by_cases h23 : v4 = (23 : Int32)
  · rw [if_pos h23]; exact W_1109 I hL rec18 z0 q0 hp
  rw [if_neg h23]
  by_cases h24 : v4 = (24 : Int32)
  · rw [if_pos h24]; exact W_1142 I hL rec18 z0 q0 hp
  rw [if_neg h24]
  by_cases h25 : v4 = (25 : Int32)
  · rw [if_pos h25]; exact W_1165 I hL rec18 z0 q0 hp
  rw [if_neg h25]
  by_cases h26 : v4 = (26 : Int32)
  · rw [if_pos h26]; exact W_1218 I hL rec18 z0 q0 hp
  rw [if_neg h26]
  by_cases h27 : v4 = (27 : Int32)
  · rw [if_pos h27]; exact W_1241 I hL rec18 z0 q0 hp
  rw [if_neg h27]
  by_cases h28 : v4 = (28 : Int32)
  · rw [if_pos h28]; exact W_1264 I hL rec18 z0 q0 hp
  rw [if_neg h28]
  by_cases h29 : v4 = (29 : Int32)
  · rw [if_pos h29]; exact W_1297 I hL rec18 z0 q0 hp
  rw [if_neg h29]
  by_cases h30 : v4 = (30 : Int32)
  · rw [if_pos h30]; exact W_1340 I hL rec18 z0 q0 hp
  rw [if_neg h30]
  by_cases h31 : v4 = (31 : Int32)
  · rw [if_pos h31]; exact W_1393 I hL rec18 z0 q0 hp
  rw [if_neg h31]
  by_cases h32 : v4 = (32 : Int32)
  · rw [if_pos h32]; exact W_1436 I hL rec18 z0 q0 hp
  rw [if_neg h32]
  by_cases h33 : v4 = (33 : Int32)
  · rw [if_pos h33]; exact W_1469 I hL rec18 z0 q0 hp
  rw [if_neg h33]
  by_cases h34 : v4 = (34 : Int32)
  · rw [if_pos h34]; exact W_1522 I hL rec18 z0 q0 hp
  rw [if_neg h34]
  by_cases h35 : v4 = (35 : Int32)
  · rw [if_pos h35]; exact W_1575 I hL rec18 z0 q0 hp
  rw [if_neg h35]
  by_cases h36 : v4 = (36 : Int32)
  · rw [if_pos h36]; exact W_1618 I hL rec18 z0 q0 hp
  rw [if_neg h36]
  by_cases h37 : v4 = (37 : Int32)
  · rw [if_pos h37]; exact W_1661 I hL rec18 z0 q0 hp
  rw [if_neg h37]
  by_cases h38 : v4 = (38 : Int32)
  · rw [if_pos h38]; exact W_1684 I hL rec18 z0 q0 hp
  rw [if_neg h38]
  exfalso
  obtain ⟨c, rfl, hc⟩ := q_of (x := v4) (by omega) (n := 38) (by omega) (by omega)
  have : c = 0 ∨ c = 1 ∨ c = 2 ∨ c = 3 ∨ c = 4 ∨ c = 5 ∨ c = 6 ∨ c = 7 ∨ c = 8 ∨ c = 9 ∨ c = 10 ∨ c = 11 ∨ c = 12 ∨ c = 13 ∨ c = 14 ∨ c = 15 ∨ c = 16 ∨ c = 17 ∨ c = 18 ∨ c = 19 ∨ c = 20 ∨ c = 21 ∨ c = 22 ∨ c = 23 ∨ c = 24 ∨ c = 25 ∨ c = 26 ∨ c = 27 ∨ c = 28 ∨ c = 29 ∨ c = 30 ∨ c = 31 ∨ c = 32 ∨ c = 33 ∨ c = 34 ∨ c = 35 ∨ c = 36 ∨ c = 37 ∨ c = 38 := by omega
  rcases this with e | e | e | e | e | e | e | e | e | e | e | e | e | e | e | e | e | e | e | e | e | e | e | e | e | e | e | e | e | e | e | e | e | e | e | e | e | e | e <;> subst e
  · exact h0 rfl
  · exact h1 rfl
  · exact h2 rfl
  · exact h3 rfl
  · exact h4 rfl
  · exact h5 rfl
  · exact h6 rfl
  · exact h7 rfl
  · exact h8 rfl
  · exact h9 rfl
  · exact h10 rfl
  · exact h11 rfl
  · exact h12 rfl
  · exact h13 rfl
  · exact h14 rfl
  · exact h15 rfl
  · exact h16 rfl
  · exact h17 rfl
  · exact h18 rfl
  · exact h19 rfl
  · exact h20 rfl
  · exact h21 rfl
  · exact h22 rfl
  · exact h23 rfl
  · exact h24 rfl
  · exact h25 rfl
  · exact h26 rfl
  · exact h27 rfl
  · exact h28 rfl
  · exact h29 rfl
  · exact h30 rfl
  · exact h31 rfl
  · exact h32 rfl
  · exact h33 rfl
  · exact h34 rfl
  · exact h35 rfl
  · exact h36 rfl
  · exact h37 rfl
  · exact h38 rfl
theorem law_loop (HG : ∀ (S : Nat → Nat → Int32) (w : AW), Inv L xs S w → STEP L xs w (F_A_good 16) (F_M_good 271)) (HS : ∀ (S : Nat → Nat → Int32) (w : AW), Inv L xs S w → STEP L xs w (F_A_say 16) (F_M_say 271)) (hL : L ≤ 3072) (z0 q0 : Nat) : ∀ k fu p (S : Nat → Nat → Int32) (w : AW), Inv L xs S w → L < p + 6 + 6 * k → p ≤ 5000 → k < fu → ∃ v, F_Lw_law_18 z0 q0 fu 1 16 271 (nI p) w = some (nI 1, v) := by
  have stop : ∀ fu p (S : Nat → Nat → Int32) (w : AW), Inv L xs S w → L < p + 6 → p ≤ 5000 → F_Lw_law_18 z0 q0 (fu + 1) 1 16 271 (nI p) w = some (nI 1, w) := by
    intro fu p S w I h hp
    have T := I.1
    have ro' : (Nat.ble 300 (z0 + 600000) && Nat.ble 42927 (q0 + 7302250)) = true := ro z0 q0
    show F_Lw_law_18_B (F_Lw_law_18 z0 q0 fu) _ _ _ _ _ _ w = _
    have k1 : (wk w 1 == 110) = true := by rw [(t1 T).1]; rfl
    have k4 : Int32.ofNat L - (6 : Int32) < nI p := by rw [l_6, law_sub hL p (by omega)]; exact h
    unfold F_Lw_law_18_B
    rw [k1, gd_true, (t1 T).2, if_pos k4, T.1, T.2.1, ro', gd_true]
    rfl
  intro k
  induction k with
  | zero =>
    intro fu p S w I h hp hf
    obtain ⟨fu, rfl⟩ : ∃ m, fu = m + 1 := ⟨fu - 1, by omega⟩
    exact ⟨w, stop fu p S w I (by omega) hp⟩
  | succ k ih =>
    intro fu p S w I h hp hf
    obtain ⟨fu, rfl⟩ : ∃ m, fu = m + 1 := ⟨fu - 1, by omega⟩
    by_cases hd : L < p + 6
    · exact ⟨w, stop fu p S w I hd hp⟩
    · obtain ⟨S1, v, J, e⟩ := law_step HG HS I hL (F_Lw_law_18 z0 q0 fu) z0 q0 (show p + 6 ≤ L by omega)
      obtain ⟨v2, e2⟩ := ih fu (p + 6) S1 v J (by omega) (by omega) (by omega)
      exact ⟨v2, Eq.trans e e2⟩
end
