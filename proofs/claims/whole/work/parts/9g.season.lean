/-! PURE: one letter more in the season -/
section
variable {L : Nat} {xs : Nat → Int32} {u v u' v' : AW} {pg : Nat → Nat} {nP s k q x val dg nx : Nat}
theorem P_month0 (hx : x ≤ 126) (h : ¬ (48 ≤ x ∧ x ≤ 57)) : F_Pg_readsMonth 23 (nI x) (nI nx) u = some (nI 0, u) := by
  unfold F_Pg_readsMonth
  rw [A_isDig hx, if_neg h, if_pos (show nI 0 = (0 : Int32) from rfl)]; rfl
theorem P_month3 (T : Top L xs u) (hx : x ≤ 126) (h9 : wi u 23 9 = nI 3) : F_Pg_readsMonth 23 (nI x) (nI nx) u = some (nI 0, u) := by
  by_cases h : 48 ≤ x ∧ x ≤ 57
  · unfold F_Pg_readsMonth
    rw [A_isDig hx, if_pos h, if_neg (show ¬ nI 1 = (0 : Int32) by decide +kernel)]
    simp only [t23 T, h9, gd_true, beq_self_eq_true]
    rw [if_neg (show ¬ nI 3 < (3 : Int32) by decide +kernel)]; rfl
  · exact P_month0 hx h
def okM (val dg : Nat) : Prop := val ≤ 12 ∧ (0 < val ∨ dg < 3)
theorem P_month (T : Top L xs u) (hx : 48 ≤ x ∧ x ≤ 57) (h8 : wi u 23 8 = nI val) (h9 : wi u 23 9 = nI dg) (hv : val ≤ 12) (hd : dg < 3) : (okM (10 * val + (x - 48)) (dg + 1) → F_Pg_readsMonth 23 (nI x) (nI nx) u = some (nI 1, upI (upI (upI u 23 8 (nI (10 * val + (x - 48)))) 23 9 (nI (dg + 1))) 23 5 (nI nx))) ∧ (¬ okM (10 * val + (x - 48)) (dg + 1) → F_Pg_readsMonth 23 (nI x) (nI nx) u = some (nI 0, upI (upI u 23 8 (nI (10 * val + (x - 48)))) 23 9 (nI (dg + 1)))) := by
  have T1 := (T.up (a := 23) 8 (nI (10 * val + (x - 48))) (by omega)).up (a := 23) 9 (nI (dg + 1)) (by omega)
  have k72 : F_Pg_readsMonth_72 23 (nI nx) (nI 1) (upI (upI u 23 8 (nI (10 * val + (x - 48)))) 23 9 (nI (dg + 1))) = some (nI 1, upI (upI (upI u 23 8 (nI (10 * val + (x - 48)))) 23 9 (nI (dg + 1))) 23 5 (nI nx)) := by
    unfold F_Pg_readsMonth_72
    rw [if_neg (show ¬ nI 1 = 0 by decide +kernel), (t23 T1).1]
    simp only [gd_true, beq_self_eq_true]
    exact bdc (A_goes T1 (nI nx)) (by omega)
  have k72' : ∀ w, F_Pg_readsMonth_72 23 (nI nx) (nI 0) w = some (nI 0, w) := by
    intro w
    unfold F_Pg_readsMonth_72
    rw [if_pos (show nI 0 = 0 from rfl)]; rfl
  have e : F_Pg_readsMonth 23 (nI x) (nI nx) u = if 12 < 10 * val + (x - 48) then some (nI 0, upI (upI u 23 8 (nI (10 * val + (x - 48)))) 23 9 (nI (dg + 1))) else if 0 < 10 * val + (x - 48) then some (nI 1, upI (upI (upI u 23 8 (nI (10 * val + (x - 48)))) 23 9 (nI (dg + 1))) 23 5 (nI nx)) else if 3 ≤ dg + 1 then some (nI 0, upI (upI u 23 8 (nI (10 * val + (x - 48)))) 23 9 (nI (dg + 1))) else some (nI 1, upI (upI (upI u 23 8 (nI (10 * val + (x - 48)))) 23 9 (nI (dg + 1))) 23 5 (nI nx)) := by
    unfold F_Pg_readsMonth
    rw [A_isDig (by omega), if_pos hx, if_neg (show ¬ nI 1 = (0 : Int32) by decide +kernel)]
    simp only [t23 T, h8, h9, gd_true, beq_self_eq_true]
    rw [if_pos (show nI dg < (3 : Int32) by rw [l_3, q_lt (by omega) (by omega)]; exact hd)]
    have ev : (10 : Int32) * nI val + nI x - 48 = nI (10 * val + (x - 48)) := by
      rw [l_10, l_48, pk_mul, nI_add, q_sub (by omega), show 10 * val + x - 48 = 10 * val + (x - 48) by omega]
    rw [ev]
    simp (disch := omega) only [wu0, wu1, h9, l_1, nI_add, l_0, l_12, l_3, q_lt, q_le, k72, k72']
  rw [e]
  unfold okM
  constructor
  · intro h
    rw [if_neg (by omega)]
    by_cases h2 : 0 < 10 * val + (x - 48)
    · rw [if_pos h2]
    · rw [if_neg h2, if_neg (by omega)]
  · intro h
    by_cases h1 : 12 < 10 * val + (x - 48)
    · rw [if_pos h1]
    · rw [if_neg h1, if_neg (by omega), if_pos (by omega)]
theorem G_83 (T : Top L xs v) (hx : 48 ≤ x ∧ x ≤ 57) (h13 : wi v 271 13 = nI dg) (h14 : wi v 271 14 = nI val) (hv : val ≤ 12) (hd : dg ≤ 3) : (dg < 3 ∧ okM (10 * val + (x - 48)) (dg + 1) → F_M_goOnSeason_83 271 (nI x) v = some (nI 1, upI (upI v 271 13 (nI (dg + 1))) 271 14 (nI (10 * val + (x - 48))))) ∧ (¬ (dg < 3 ∧ okM (10 * val + (x - 48)) (dg + 1)) → F_M_goOnSeason_83 271 (nI x) v = some (nI 0, upI (upI v 271 13 (nI (dg + 1))) 271 14 (nI (10 * val + (x - 48))))) := by
  have T1 := (T.up (a := 271) 13 (nI (dg + 1)) (by omega)).up (a := 271) 14 (nI (10 * val + (x - 48))) (by omega)
  have km : F_M_mayBeMonth (upI (upI v 271 13 (nI (dg + 1))) 271 14 (nI (10 * val + (x - 48)))) 271 = some (if 4 ≤ dg + 1 then nI 0 else if 13 ≤ 10 * val + (x - 48) then nI 0 else if 0 < 10 * val + (x - 48) then nI 1 else if 3 ≤ dg + 1 then nI 0 else nI 1) := by
    unfold F_M_mayBeMonth
    simp only [mK T1, gd_true, beq_self_eq_true]
    simp (disch := omega) only [wu0, wu1, l_0, l_1, l_3, l_4, l_13, q_le, q_lt]
    by_cases a1 : 4 ≤ dg + 1
    · rw [if_pos a1, if_pos a1]
    rw [if_neg a1, if_neg a1]
    by_cases a2 : 13 ≤ 10 * val + (x - 48)
    · rw [if_pos a2, if_pos a2]
    rw [if_neg a2, if_neg a2]
    by_cases a3 : 0 < 10 * val + (x - 48)
    · rw [if_pos a3, if_pos a3]
    rw [if_neg a3, if_neg a3]
    by_cases a4 : 3 ≤ dg + 1
    · rw [if_pos a4, if_pos a4]
    · rw [if_neg a4, if_neg a4]
  have e : F_M_goOnSeason_83 271 (nI x) v = (some (if 4 ≤ dg + 1 then nI 0 else if 13 ≤ 10 * val + (x - 48) then nI 0 else if 0 < 10 * val + (x - 48) then nI 1 else if 3 ≤ dg + 1 then nI 0 else nI 1)).bind fun r11 => gd (r11 == 0 || r11 == 1) (some (r11, upI (upI v 271 13 (nI (dg + 1))) 271 14 (nI (10 * val + (x - 48))))) := by
    unfold F_M_goOnSeason_83
    rw [M_isFig (by omega), if_pos hx, if_neg (show ¬ nI 1 = (0 : Int32) by decide +kernel)]
    simp only [mK T, h13, gd_true, beq_self_eq_true]
    have ev : (10 : Int32) * nI val + nI x - 48 = nI (10 * val + (x - 48)) := by
      rw [l_10, l_48, pk_mul, nI_add, q_sub (by omega), show 10 * val + x - 48 = 10 * val + (x - 48) by omega]
    rw [wu1 (show ¬ (271 = 271 ∧ 14 = 13) by omega), h14, ev, l_1, nI_add, km]
  have fin : ∀ b, b ≤ 1 → ((some (nI b)).bind fun r11 => gd (r11 == 0 || r11 == 1) (some (r11, upI (upI v 271 13 (nI (dg + 1))) 271 14 (nI (10 * val + (x - 48)))))) = some (nI b, upI (upI v 271 13 (nI (dg + 1))) 271 14 (nI (10 * val + (x - 48)))) := by
    intro b hb
    have : b = 0 ∨ b = 1 := by omega
    rcases this with e | e <;> subst e <;> rfl
  rw [e]
  unfold okM
  constructor
  · intro h
    rw [if_neg (by omega), if_neg (by omega)]
    by_cases h2 : 0 < 10 * val + (x - 48)
    · rw [if_pos h2]; exact fin 1 (by omega)
    · rw [if_neg h2, if_neg (by omega)]; exact fin 1 (by omega)
  · intro h
    by_cases h1 : 4 ≤ dg + 1
    · rw [if_pos h1]; exact fin 0 (by omega)
    rw [if_neg h1]
    by_cases h2 : 13 ≤ 10 * val + (x - 48)
    · rw [if_pos h2]; exact fin 0 (by omega)
    · rw [if_neg h2, if_neg (by omega), if_pos (by omega)]; exact fin 0 (by omega)
theorem G_83n (T : Top L xs v) (hx : x ≤ 126) (h : ¬ (48 ≤ x ∧ x ≤ 57)) (h2 : ¬ wi v 271 10 = nI 11 ∨ x ≠ 45) : F_M_goOnSeason_83 271 (nI x) v = some (nI 0, v) := by
  unfold F_M_goOnSeason_83
  rw [M_isFig hx, if_neg h, if_pos (show nI 0 = (0 : Int32) from rfl)]
  simp only [mK T, gd_true, beq_self_eq_true]
  by_cases e : wi v 271 10 = nI 11
  · rw [if_pos (show wi v 271 10 = (11 : Int32) from e), if_neg (show ¬ nI x = (45 : Int32) from nIne (k := 45) hx (by omega) (h2.elim (fun q => absurd e q) id))]; rfl
  · rw [if_neg (show ¬ wi v 271 10 = (11 : Int32) from e)]; rfl
theorem G_83m (T : Top L xs v) (h10 : wi v 271 10 = nI 11) (h13 : wi v 271 13 = nI dg) (h14 : wi v 271 14 = nI val) (hd : 1 ≤ dg ∧ dg ≤ 3) (hv : val ≤ 12) : (0 < val → F_M_goOnSeason_83 271 (nI 45) v = some (nI 1, upI (upI (upI (upI v 271 21 (nI val)) 271 13 (nI 0)) 271 14 (nI 0)) 271 10 (nI 12))) ∧ (val = 0 → F_M_goOnSeason_83 271 (nI 45) v = some (nI 0, v)) := by
  have km : F_M_isMonth v 271 = some (if 0 < val then nI 1 else nI 0) := by
    unfold F_M_isMonth
    simp only [mK T, h13, h14, gd_true, beq_self_eq_true]
    rw [if_neg (show ¬ nI dg ≤ (0 : Int32) by rw [l_0, q_le (by omega) (by omega)]; omega), M_in_iff, nI_toInt (by omega), show (1 : Int64).toInt = 1 from by decide +kernel, show (12 : Int64).toInt = 12 from by decide +kernel]
    by_cases e : 0 < val
    · rw [if_pos e, if_pos (show (1 : Int) ≤ (val : Int) ∧ (val : Int) ≤ 12 by omega), if_neg (show ¬ (1 : Int32) = 0 by decide +kernel)]; rfl
    · rw [if_neg e, if_neg (show ¬ ((1 : Int) ≤ (val : Int) ∧ (val : Int) ≤ 12) by omega), if_pos rfl]; rfl
  unfold F_M_goOnSeason_83
  rw [M_isFig (x := 45) (by omega), if_neg (show ¬ (48 ≤ 45 ∧ 45 ≤ 57) by omega), if_pos (show nI 0 = (0 : Int32) from rfl)]
  simp only [mK T, h10, h14, km, gd_true, beq_self_eq_true, bd_s]
  rw [if_pos (show nI 11 = (11 : Int32) from rfl), if_pos (show nI 45 = (45 : Int32) from rfl)]
  constructor
  · intro h
    rw [if_pos h, if_neg (show ¬ nI 1 = (0 : Int32) by decide +kernel)]; rfl
  · intro h
    rw [if_neg (show ¬ 0 < val by omega), if_pos (show nI 0 = (0 : Int32) from rfl)]; rfl
theorem G_306 (T : Top L xs v) (x : Int32) (h : wi v 271 10 = nI 10 ∨ wi v 271 10 = nI 11 ∨ wi v 271 10 = nI 12 ∨ wi v 271 10 = nI 13) : F_M_goOn 271 x v = (F_M_goOnSeason 271 x v).bind fun r => gd (r.1 == 0 || r.1 == 1) (some (r.1, r.2)) := by
  rcases h with h | h | h | h
  · rw [M_go10 T h]; unfold F_M_goOn_306; simp only [mK T, gd_true, beq_self_eq_true]
  · rw [M_go11 T h]; unfold F_M_goOn_306; simp only [mK T, gd_true, beq_self_eq_true]
  · rw [M_go12 T h]; unfold F_M_goOn_306; simp only [mK T, gd_true, beq_self_eq_true]
  · rw [M_go13 T h]; unfold F_M_goOn_306; simp only [mK T, gd_true, beq_self_eq_true]
theorem G_sea10 (T : Top L xs v) (hx : x ≤ 126) (h : wi v 271 10 = nI 10) : F_M_goOnSeason 271 (nI x) v = if x = 35 then some (nI 1, upI v 271 10 (nI 13)) else F_M_goOnSeason_83 271 (nI x) (upI (upI (upI v 271 13 (nI 0)) 271 14 (nI 0)) 271 10 (nI 11)) := by
  unfold F_M_goOnSeason F_M_goOnSeason_23
  simp only [mK T, h, gd_true, beq_self_eq_true]
  rw [if_pos (show nI 10 = (10 : Int32) from rfl)]
  by_cases e : x = 35
  · rw [if_pos e, if_pos (show nI x = (35 : Int32) by rw [e]; rfl)]; rfl
  · rw [if_neg e, if_neg (show ¬ nI x = (35 : Int32) from nIne (k := 35) hx (by omega) e), if_neg (show ¬ nI 10 = (13 : Int32) by decide +kernel), if_pos (show nI 10 = (10 : Int32) from rfl)]; rfl
theorem G_sea12 (T : Top L xs v) (h : (q = 11 ∨ q = 12) ∧ wi v 271 10 = nI q) (x : Int32) : F_M_goOnSeason 271 x v = F_M_goOnSeason_83 271 x v := by
  obtain ⟨hq, h⟩ := h
  unfold F_M_goOnSeason F_M_goOnSeason_23
  simp only [mK T, h, gd_true, beq_self_eq_true]
  rw [if_neg (show ¬ nI q = (10 : Int32) from nIne (k := 10) (by omega) (by omega) (by omega)), if_neg (show ¬ nI q = (13 : Int32) from nIne (k := 13) (by omega) (by omega) (by omega)), if_neg (show ¬ nI q = (10 : Int32) from nIne (k := 10) (by omega) (by omega) (by omega))]
theorem G_sea13 (T : Top L xs v) (hx : x ≤ 126) (h : wi v 271 10 = nI 13) : F_M_goOnSeason 271 (nI x) v = some (if 48 ≤ x ∧ x ≤ 55 then nI 1 else nI 0, upI (upI v 271 23 (nI x - nI 48)) 271 10 (nI 14)) := by
  unfold F_M_goOnSeason F_M_goOnSeason_23
  simp only [mK T, h, gd_true, beq_self_eq_true]
  rw [if_neg (show ¬ nI 13 = (10 : Int32) by decide +kernel), if_pos (show nI 13 = (13 : Int32) from rfl), M_in_iff, nI_toInt (by omega), show (48 : Int64).toInt = 48 from by decide +kernel, show (55 : Int64).toInt = 55 from by decide +kernel]
  by_cases e : 48 ≤ x ∧ x ≤ 55
  · rw [if_pos e, if_pos (by omega)]; rfl
  · rw [if_neg e, if_neg (by omega)]; rfl
theorem P_saint (T : Top L xs u) (hs : s ∈ STab) (h2 : wr u 23 2 = s) (hx : x ≤ 126) : F_Pg_readsSaint 23 (nI x) u = if 48 ≤ x ∧ x ≤ 55 then some (nI 1, upI (upI u s 7 (nI x - nI 48)) 23 5 (nI 14)) else some (nI 0, upI u s 7 (nI x - nI 48)) := by
  have hsr := STab_rng s hs
  unfold F_Pg_readsSaint
  simp only [l_48, t23 T, h2, tY T hs, wk_upI, wr_upI, wu0, gd_true, beq_self_eq_true]
  have e : (nI x - nI 48).toInt = (x : Int) - 48 := by
    rw [Int32.toInt_sub, nI_toInt (by omega), nI_toInt (by omega)]
    exact Int.bmod_eq_of_le (by omega) (by omega)
  rw [A_within_iff, e, show (0 : Int32).toInt = 0 from rfl, show (7 : Int32).toInt = 7 from rfl]
  by_cases ed : 48 ≤ x ∧ x ≤ 55
  · rw [if_pos ed, if_pos (show (0 : Int) ≤ (x : Int) - 48 ∧ (x : Int) - 48 ≤ 7 by omega), if_neg (show ¬ (1 : Int32) = 0 by decide +kernel)]
    exact bdc (A_goes (T.up (a := s) 7 _ (by omega)) (nI 14)) (by omega)
  · rw [if_neg ed, if_neg (show ¬ ((0 : Int) ≤ (x : Int) - 48 ∧ (x : Int) - 48 ≤ 7) by omega), if_pos rfl]; rfl
theorem P_mdash (T : Top L xs u) (hs : s ∈ STab) (h2 : wr u 23 2 = s) (h8 : wi u 23 8 = nI val) (hv : val ≤ 12) : (0 < val → F_Pg_readsMonthDash 23 u = some (nI 1, upI (upI (upI (upI u s 5 (nI val)) 23 8 (nI 0)) 23 9 (nI 0)) 23 5 (nI 12))) ∧ (val = 0 → F_Pg_readsMonthDash 23 u = some (nI 0, upI (upI (upI u s 5 (nI val)) 23 8 (nI 0)) 23 9 (nI 0))) := by
  have hsr := STab_rng s hs
  have T1 := ((T.up (a := s) 5 (nI val) (by omega)).up (a := 23) 8 (nI 0) (by omega)).up (a := 23) 9 (nI 0) (by omega)
  unfold F_Pg_readsMonthDash
  simp only [t23 T, h8, gd_true, beq_self_eq_true]
  constructor
  · intro h
    rw [if_neg (show ¬ nI val ≤ (0 : Int32) by rw [l_0, q_le (by omega) (by omega)]; omega)]
    unfold F_Pg_readsMonthDash_12
    simp only [t23 T, h2, h8, tY T hs, gd_true, beq_self_eq_true]
    rw [if_neg (show ¬ (1 : Int32) = 0 by decide +kernel)]
    exact bdc (A_goes T1 (nI 12)) (by omega)
  · intro h
    rw [if_pos (show nI val ≤ (0 : Int32) by rw [h]; decide +kernel)]
    unfold F_Pg_readsMonthDash_12
    simp only [t23 T, h2, h8, tY T hs, gd_true, beq_self_eq_true, if_true]
    rfl
end
