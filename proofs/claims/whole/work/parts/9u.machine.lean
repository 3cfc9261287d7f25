/-! THE MACHINE at the law's entry is the abstract world w00 -/
def Gof (dC : Nat → ClassId) (dI : Nat → Nat → Nat) (cA : Nat → ClassId) (s : State) (b t2 t3 t4 t5 t6 a7 a8 t9 t10 : Nat) : AG := (dC, dI, cA, s.heap.size, (fun n => if n = 1 then b else if n = 2 then t2 else if n = 3 then t3 else if n = 4 then t4 else if n = 5 then t5 else if n = 6 then t6 else if n = 7 then a7 else if n = 8 then a8 else if n = 9 then t9 else if n = 10 then t10 else 0), s.heap)
def sT (C n : String) : Term := .static C n "[I"
def sV (k : Nat) : Term := .field (.string "RedSky$Page" k) "java/lang/String" "value" "[B"
def NLw : List Cond := [.arrayOf (sT "RedSky$Calendar" "LENGTHS") .int, .eq (.length (sT "RedSky$Calendar" "LENGTHS")) (.int (Int32.ofNat 12)), .eq (.elem (sT "RedSky$Calendar" "LENGTHS") (.int (Int32.ofNat 0))) (.int ((S00.getD 2 []).getD 0 (nI 0))), .eq (.elem (sT "RedSky$Calendar" "LENGTHS") (.int (Int32.ofNat 1))) (.int ((S00.getD 2 []).getD 1 (nI 0))), .eq (.elem (sT "RedSky$Calendar" "LENGTHS") (.int (Int32.ofNat 2))) (.int ((S00.getD 2 []).getD 2 (nI 0))), .eq (.elem (sT "RedSky$Calendar" "LENGTHS") (.int (Int32.ofNat 3))) (.int ((S00.getD 2 []).getD 3 (nI 0))), .eq (.elem (sT "RedSky$Calendar" "LENGTHS") (.int (Int32.ofNat 4))) (.int ((S00.getD 2 []).getD 4 (nI 0))), .eq (.elem (sT "RedSky$Calendar" "LENGTHS") (.int (Int32.ofNat 5))) (.int ((S00.getD 2 []).getD 5 (nI 0))), .eq (.elem (sT "RedSky$Calendar" "LENGTHS") (.int (Int32.ofNat 6))) (.int ((S00.getD 2 []).getD 6 (nI 0))), .eq (.elem (sT "RedSky$Calendar" "LENGTHS") (.int (Int32.ofNat 7))) (.int ((S00.getD 2 []).getD 7 (nI 0))), .eq (.elem (sT "RedSky$Calendar" "LENGTHS") (.int (Int32.ofNat 8))) (.int ((S00.getD 2 []).getD 8 (nI 0))), .eq (.elem (sT "RedSky$Calendar" "LENGTHS") (.int (Int32.ofNat 9))) (.int ((S00.getD 2 []).getD 9 (nI 0))), .eq (.elem (sT "RedSky$Calendar" "LENGTHS") (.int (Int32.ofNat 10))) (.int ((S00.getD 2 []).getD 10 (nI 0))), .eq (.elem (sT "RedSky$Calendar" "LENGTHS") (.int (Int32.ofNat 11))) (.int ((S00.getD 2 []).getD 11 (nI 0))), .arrayOf (sT "RedSky$Diary" "LOWEST") .int, .eq (.length (sT "RedSky$Diary" "LOWEST")) (.int (Int32.ofNat 4)), .eq (.elem (sT "RedSky$Diary" "LOWEST") (.int (Int32.ofNat 0))) (.int ((S00.getD 3 []).getD 0 (nI 0))), .eq (.elem (sT "RedSky$Diary" "LOWEST") (.int (Int32.ofNat 1))) (.int ((S00.getD 3 []).getD 1 (nI 0))), .eq (.elem (sT "RedSky$Diary" "LOWEST") (.int (Int32.ofNat 2))) (.int ((S00.getD 3 []).getD 2 (nI 0))), .eq (.elem (sT "RedSky$Diary" "LOWEST") (.int (Int32.ofNat 3))) (.int ((S00.getD 3 []).getD 3 (nI 0))), .arrayOf (sT "RedSky$Diary" "HIGHEST") .int, .eq (.length (sT "RedSky$Diary" "HIGHEST")) (.int (Int32.ofNat 4)), .eq (.elem (sT "RedSky$Diary" "HIGHEST") (.int (Int32.ofNat 0))) (.int ((S00.getD 4 []).getD 0 (nI 0))), .eq (.elem (sT "RedSky$Diary" "HIGHEST") (.int (Int32.ofNat 1))) (.int ((S00.getD 4 []).getD 1 (nI 0))), .eq (.elem (sT "RedSky$Diary" "HIGHEST") (.int (Int32.ofNat 2))) (.int ((S00.getD 4 []).getD 2 (nI 0))), .eq (.elem (sT "RedSky$Diary" "HIGHEST") (.int (Int32.ofNat 3))) (.int ((S00.getD 4 []).getD 3 (nI 0))), .arrayOf (sT "RedSky$Diary" "SHIFTS") .int, .eq (.length (sT "RedSky$Diary" "SHIFTS")) (.int (Int32.ofNat 4)), .eq (.elem (sT "RedSky$Diary" "SHIFTS") (.int (Int32.ofNat 0))) (.int ((S00.getD 5 []).getD 0 (nI 0))), .eq (.elem (sT "RedSky$Diary" "SHIFTS") (.int (Int32.ofNat 1))) (.int ((S00.getD 5 []).getD 1 (nI 0))), .eq (.elem (sT "RedSky$Diary" "SHIFTS") (.int (Int32.ofNat 2))) (.int ((S00.getD 5 []).getD 2 (nI 0))), .eq (.elem (sT "RedSky$Diary" "SHIFTS") (.int (Int32.ofNat 3))) (.int ((S00.getD 5 []).getD 3 (nI 0))), .arrayOf (sT "RedSky$Diary" "MASKS") .int, .eq (.length (sT "RedSky$Diary" "MASKS")) (.int (Int32.ofNat 4)), .eq (.elem (sT "RedSky$Diary" "MASKS") (.int (Int32.ofNat 0))) (.int ((S00.getD 6 []).getD 0 (nI 0))), .eq (.elem (sT "RedSky$Diary" "MASKS") (.int (Int32.ofNat 1))) (.int ((S00.getD 6 []).getD 1 (nI 0))), .eq (.elem (sT "RedSky$Diary" "MASKS") (.int (Int32.ofNat 2))) (.int ((S00.getD 6 []).getD 2 (nI 0))), .eq (.elem (sT "RedSky$Diary" "MASKS") (.int (Int32.ofNat 3))) (.int ((S00.getD 6 []).getD 3 (nI 0))), .exactly (.string "RedSky$Page" 152) "java/lang/String", .eq (.field (.string "RedSky$Page" 152) "java/lang/String" "coder" "B") (.int 0), .arrayOf (sV 152) .byte, .eq (.length (sV 152)) (.int (Int32.ofNat 4)), .eq (.elem (sV 152) (.int (Int32.ofNat 0))) (.int ((S00.getD 9 []).getD 0 (nI 0))), .eq (.elem (sV 152) (.int (Int32.ofNat 1))) (.int ((S00.getD 9 []).getD 1 (nI 0))), .eq (.elem (sV 152) (.int (Int32.ofNat 2))) (.int ((S00.getD 9 []).getD 2 (nI 0))), .eq (.elem (sV 152) (.int (Int32.ofNat 3))) (.int ((S00.getD 9 []).getD 3 (nI 0))), .exactly (.string "RedSky$Page" 159) "java/lang/String", .eq (.field (.string "RedSky$Page" 159) "java/lang/String" "coder" "B") (.int 0), .arrayOf (sV 159) .byte, .eq (.length (sV 159)) (.int (Int32.ofNat 3)), .eq (.elem (sV 159) (.int (Int32.ofNat 0))) (.int ((S00.getD 10 []).getD 0 (nI 0))), .eq (.elem (sV 159) (.int (Int32.ofNat 1))) (.int ((S00.getD 10 []).getD 1 (nI 0))), .eq (.elem (sV 159) (.int (Int32.ofNat 2))) (.int ((S00.getD 10 []).getD 2 (nI 0))), .eq (.static "java/lang/String" "COMPACT_STRINGS" "Z") (.int 1)]
theorem NLw_in : ∀ c ∈ NLw, c ∈ flatC (Jvm.Cond.and given_1 narrow_1) := by decide +kernel
theorem st_2 {b : Nat} {s : State} (hn : ∀ (i : Nat) (c : Cond), NLw[i]? = some c → c.before #[Value.ref b] s = true) : ∃ t : Nat, (sT "RedSky$Calendar" "LENGTHS").eval #[Value.ref b] s none [] s = some (.ref t) ∧ va_T .int t 12 (fun j => .int ((S00.getD 2 []).getD j (nI 0))) (fun q => s.heap.size ≤ q) s s.heap := by
  refine va_Tof (by decide) (hn 0 _ rfl) (va_eqt (hn 1 _ rfl)) (fun j hj => ?_) (fun a h => Nat.not_le.mpr h)
  have : j = 0 ∨ j = 1 ∨ j = 2 ∨ j = 3 ∨ j = 4 ∨ j = 5 ∨ j = 6 ∨ j = 7 ∨ j = 8 ∨ j = 9 ∨ j = 10 ∨ j = 11 := by omega
  rcases this with e | e | e | e | e | e | e | e | e | e | e | e <;> subst e
  · exact va_eqt (hn 2 _ rfl)
  · exact va_eqt (hn 3 _ rfl)
  · exact va_eqt (hn 4 _ rfl)
  · exact va_eqt (hn 5 _ rfl)
  · exact va_eqt (hn 6 _ rfl)
  · exact va_eqt (hn 7 _ rfl)
  · exact va_eqt (hn 8 _ rfl)
  · exact va_eqt (hn 9 _ rfl)
  · exact va_eqt (hn 10 _ rfl)
  · exact va_eqt (hn 11 _ rfl)
  · exact va_eqt (hn 12 _ rfl)
  · exact va_eqt (hn 13 _ rfl)
theorem st_3 {b : Nat} {s : State} (hn : ∀ (i : Nat) (c : Cond), NLw[i]? = some c → c.before #[Value.ref b] s = true) : ∃ t : Nat, (sT "RedSky$Diary" "LOWEST").eval #[Value.ref b] s none [] s = some (.ref t) ∧ va_T .int t 4 (fun j => .int ((S00.getD 3 []).getD j (nI 0))) (fun q => s.heap.size ≤ q) s s.heap := by
  refine va_Tof (by decide) (hn 14 _ rfl) (va_eqt (hn 15 _ rfl)) (fun j hj => ?_) (fun a h => Nat.not_le.mpr h)
  have : j = 0 ∨ j = 1 ∨ j = 2 ∨ j = 3 := by omega
  rcases this with e | e | e | e <;> subst e
  · exact va_eqt (hn 16 _ rfl)
  · exact va_eqt (hn 17 _ rfl)
  · exact va_eqt (hn 18 _ rfl)
  · exact va_eqt (hn 19 _ rfl)
theorem st_4 {b : Nat} {s : State} (hn : ∀ (i : Nat) (c : Cond), NLw[i]? = some c → c.before #[Value.ref b] s = true) : ∃ t : Nat, (sT "RedSky$Diary" "HIGHEST").eval #[Value.ref b] s none [] s = some (.ref t) ∧ va_T .int t 4 (fun j => .int ((S00.getD 4 []).getD j (nI 0))) (fun q => s.heap.size ≤ q) s s.heap := by
  refine va_Tof (by decide) (hn 20 _ rfl) (va_eqt (hn 21 _ rfl)) (fun j hj => ?_) (fun a h => Nat.not_le.mpr h)
  have : j = 0 ∨ j = 1 ∨ j = 2 ∨ j = 3 := by omega
  rcases this with e | e | e | e <;> subst e
  · exact va_eqt (hn 22 _ rfl)
  · exact va_eqt (hn 23 _ rfl)
  · exact va_eqt (hn 24 _ rfl)
  · exact va_eqt (hn 25 _ rfl)
theorem st_5 {b : Nat} {s : State} (hn : ∀ (i : Nat) (c : Cond), NLw[i]? = some c → c.before #[Value.ref b] s = true) : ∃ t : Nat, (sT "RedSky$Diary" "SHIFTS").eval #[Value.ref b] s none [] s = some (.ref t) ∧ va_T .int t 4 (fun j => .int ((S00.getD 5 []).getD j (nI 0))) (fun q => s.heap.size ≤ q) s s.heap := by
  refine va_Tof (by decide) (hn 26 _ rfl) (va_eqt (hn 27 _ rfl)) (fun j hj => ?_) (fun a h => Nat.not_le.mpr h)
  have : j = 0 ∨ j = 1 ∨ j = 2 ∨ j = 3 := by omega
  rcases this with e | e | e | e <;> subst e
  · exact va_eqt (hn 28 _ rfl)
  · exact va_eqt (hn 29 _ rfl)
  · exact va_eqt (hn 30 _ rfl)
  · exact va_eqt (hn 31 _ rfl)
theorem st_6 {b : Nat} {s : State} (hn : ∀ (i : Nat) (c : Cond), NLw[i]? = some c → c.before #[Value.ref b] s = true) : ∃ t : Nat, (sT "RedSky$Diary" "MASKS").eval #[Value.ref b] s none [] s = some (.ref t) ∧ va_T .int t 4 (fun j => .int ((S00.getD 6 []).getD j (nI 0))) (fun q => s.heap.size ≤ q) s s.heap := by
  refine va_Tof (by decide) (hn 32 _ rfl) (va_eqt (hn 33 _ rfl)) (fun j hj => ?_) (fun a h => Nat.not_le.mpr h)
  have : j = 0 ∨ j = 1 ∨ j = 2 ∨ j = 3 := by omega
  rcases this with e | e | e | e <;> subst e
  · exact va_eqt (hn 34 _ rfl)
  · exact va_eqt (hn 35 _ rfl)
  · exact va_eqt (hn 36 _ rfl)
  · exact va_eqt (hn 37 _ rfl)
theorem st_9 {b : Nat} {s : State} (hn : ∀ (i : Nat) (c : Cond), NLw[i]? = some c → c.before #[Value.ref b] s = true) : ∃ t : Nat, (sV 152).eval #[Value.ref b] s none [] s = some (.ref t) ∧ va_T .byte t 4 (fun j => .int ((S00.getD 9 []).getD j (nI 0))) (fun q => s.heap.size ≤ q) s s.heap := by
  refine va_Tof (by decide) (hn 40 _ rfl) (va_eqt (hn 41 _ rfl)) (fun j hj => ?_) (fun a h => Nat.not_le.mpr h)
  have : j = 0 ∨ j = 1 ∨ j = 2 ∨ j = 3 := by omega
  rcases this with e | e | e | e <;> subst e
  · exact va_eqt (hn 42 _ rfl)
  · exact va_eqt (hn 43 _ rfl)
  · exact va_eqt (hn 44 _ rfl)
  · exact va_eqt (hn 45 _ rfl)
theorem so_7 {b : Nat} {s : State} (hn : ∀ (i : Nat) (c : Cond), NLw[i]? = some c → c.before #[Value.ref b] s = true) : ∃ a : Nat, (Term.string "RedSky$Page" 152).eval #[Value.ref b] s none [] s = some (.ref a) ∧ va_O "java/lang/String" a (fun q => s.heap.size ≤ q) s s.heap ∧ va_OF "java/lang/String" "coder" "B" (.int 0) a (fun q => s.heap.size ≤ q) s s.heap ∧ ∀ t : Nat, (sV 152).eval #[Value.ref b] s none [] s = some (.ref t) → va_OF "java/lang/String" "value" "[B" (.ref t) a (fun q => s.heap.size ≤ q) s s.heap := by
  have hex : (Cond.exactly (.string "RedSky$Page" 152) "java/lang/String").before #[Value.ref b] s = true := hn 38 _ rfl
  obtain ⟨a, -, -, -, ev, -⟩ := Cond.exactly_spec (args := #[Value.ref b]) (first := s) (o := none) (s := s) (idx := []) (t := .string "RedSky$Page" 152) (cls := "java/lang/String") hex
  have hA : ∀ a : Nat, a < s.heap.size → ¬ (fun q => s.heap.size ≤ q) a := fun a h => Nat.not_le.mpr h
  exact ⟨a, ev, va_Oof hex ev hA, vk_OFof ev (va_eqt (hn 39 _ rfl)) hA, fun t ht => vk_OFof ev ht hA⟩
theorem st_10 {b : Nat} {s : State} (hn : ∀ (i : Nat) (c : Cond), NLw[i]? = some c → c.before #[Value.ref b] s = true) : ∃ t : Nat, (sV 159).eval #[Value.ref b] s none [] s = some (.ref t) ∧ va_T .byte t 3 (fun j => .int ((S00.getD 10 []).getD j (nI 0))) (fun q => s.heap.size ≤ q) s s.heap := by
  refine va_Tof (by decide) (hn 48 _ rfl) (va_eqt (hn 49 _ rfl)) (fun j hj => ?_) (fun a h => Nat.not_le.mpr h)
  have : j = 0 ∨ j = 1 ∨ j = 2 := by omega
  rcases this with e | e | e <;> subst e
  · exact va_eqt (hn 50 _ rfl)
  · exact va_eqt (hn 51 _ rfl)
  · exact va_eqt (hn 52 _ rfl)
theorem so_8 {b : Nat} {s : State} (hn : ∀ (i : Nat) (c : Cond), NLw[i]? = some c → c.before #[Value.ref b] s = true) : ∃ a : Nat, (Term.string "RedSky$Page" 159).eval #[Value.ref b] s none [] s = some (.ref a) ∧ va_O "java/lang/String" a (fun q => s.heap.size ≤ q) s s.heap ∧ va_OF "java/lang/String" "coder" "B" (.int 0) a (fun q => s.heap.size ≤ q) s s.heap ∧ ∀ t : Nat, (sV 159).eval #[Value.ref b] s none [] s = some (.ref t) → va_OF "java/lang/String" "value" "[B" (.ref t) a (fun q => s.heap.size ≤ q) s s.heap := by
  have hex : (Cond.exactly (.string "RedSky$Page" 159) "java/lang/String").before #[Value.ref b] s = true := hn 46 _ rfl
  obtain ⟨a, -, -, -, ev, -⟩ := Cond.exactly_spec (args := #[Value.ref b]) (first := s) (o := none) (s := s) (idx := []) (t := .string "RedSky$Page" 159) (cls := "java/lang/String") hex
  have hA : ∀ a : Nat, a < s.heap.size → ¬ (fun q => s.heap.size ≤ q) a := fun a h => Nat.not_le.mpr h
  exact ⟨a, ev, va_Oof hex ev hA, vk_OFof ev (va_eqt (hn 47 _ rfl)) hA, fun t ht => vk_OFof ev ht hA⟩
theorem cls_k {args : Array Value} {s : State} (hts : ∀ w ∈ lw_tbl, w.before args s = true) : ∀ k : Nat, ∃ (c : ClassId) (i : Nat → Nat), ∀ q : vw_C, kc[k]? = some q → u_Kn s q.1 q.2.1 q.2.2 c i := by
  intro k
  by_cases e0 : k = 0
  · subst e0
    obtain ⟨c, iS, h⟩ := u_known (C := R0) (T := T0) (N := 12) (n := 12) hts in0 (hts (.instantiable R0 12) (List.mem_of_getElem? (i := 113) (by decide +kernel)))
    exact ⟨c, iS, fun q hq => by cases hq; exact h⟩
  by_cases e1 : k = 1
  · subst e1
    obtain ⟨c, iS, h⟩ := u_known (C := R1) (T := T1) (N := 5) (n := 5) hts in1 (hts (.instantiable R1 5) (List.mem_of_getElem? (i := 121) (by decide +kernel)))
    exact ⟨c, iS, fun q hq => by cases hq; exact h⟩
  by_cases e2 : k = 2
  · subst e2
    obtain ⟨c, iS, h⟩ := u_known (C := R2) (T := T2) (N := 1) (n := 1) hts in2 (hts (.instantiable R2 1) (List.mem_of_getElem? (i := 470) (by decide +kernel)))
    exact ⟨c, iS, fun q hq => by cases hq; exact h⟩
  by_cases e3 : k = 3
  · subst e3
    obtain ⟨c, iS, h⟩ := u_known (C := R3) (T := T3) (N := 17) (n := 17) hts in3 (hts (.instantiable R3 17) (List.mem_of_getElem? (i := 154) (by decide +kernel)))
    exact ⟨c, iS, fun q hq => by cases hq; exact h⟩
  by_cases e4 : k = 4
  · subst e4
    obtain ⟨c, iS, h⟩ := u_known (C := R4) (T := T4) (N := 8) (n := 8) hts in4 (hts (.instantiable R4 8) (List.mem_of_getElem? (i := 160) (by decide +kernel)))
    exact ⟨c, iS, fun q hq => by cases hq; exact h⟩
  by_cases e5 : k = 5
  · subst e5
    obtain ⟨c, iS, h⟩ := u_known (C := R5) (T := T5) (N := 6) (n := 6) hts in5 (hts (.instantiable R5 6) (List.mem_of_getElem? (i := 166) (by decide +kernel)))
    exact ⟨c, iS, fun q hq => by cases hq; exact h⟩
  by_cases e6 : k = 6
  · subst e6
    obtain ⟨c, iS, h⟩ := u_known (C := R6) (T := T6) (N := 1) (n := 1) hts in6 (hts (.instantiable R6 1) (List.mem_of_getElem? (i := 296) (by decide +kernel)))
    exact ⟨c, iS, fun q hq => by cases hq; exact h⟩
  by_cases e7 : k = 7
  · subst e7
    obtain ⟨c, iS, h⟩ := u_known (C := R7) (T := T7) (N := 1) (n := 1) hts in7 (hts (.instantiable R7 1) (List.mem_of_getElem? (i := 303) (by decide +kernel)))
    exact ⟨c, iS, fun q hq => by cases hq; exact h⟩
  by_cases e8 : k = 8
  · subst e8
    obtain ⟨c, iS, h⟩ := u_known (C := R8) (T := T8) (N := 11) (n := 11) hts in8 (hts (.instantiable R8 11) (List.mem_of_getElem? (i := 318) (by decide +kernel)))
    exact ⟨c, iS, fun q hq => by cases hq; exact h⟩
  by_cases e9 : k = 9
  · subst e9
    obtain ⟨c, iS, h⟩ := u_known (C := R9) (T := T9) (N := 16) (n := 16) hts in9 (hts (.instantiable R9 16) (List.mem_of_getElem? (i := 371) (by decide +kernel)))
    exact ⟨c, iS, fun q hq => by cases hq; exact h⟩
  by_cases e10 : k = 10
  · subst e10
    obtain ⟨c, iS, h⟩ := u_known (C := R10) (T := T10) (N := 3) (n := 3) hts in10 (hts (.instantiable R10 3) (List.mem_of_getElem? (i := 480) (by decide +kernel)))
    exact ⟨c, iS, fun q hq => by cases hq; exact h⟩
  by_cases e11 : k = 11
  · subst e11
    obtain ⟨c, iS, h⟩ := u_known (C := R11) (T := T11) (N := 9) (n := 9) hts in11 (hts (.instantiable R11 9) (List.mem_of_getElem? (i := 433) (by decide +kernel)))
    exact ⟨c, iS, fun q hq => by cases hq; exact h⟩
  by_cases e12 : k = 12
  · subst e12
    obtain ⟨c, iS, h⟩ := u_known (C := R12) (T := T12) (N := 49) (n := 49) hts in12 (hts (.instantiable R12 49) (List.mem_of_getElem? (i := 1356) (by decide +kernel)))
    exact ⟨c, iS, fun q hq => by cases hq; exact h⟩
  obtain ⟨c, iS, h⟩ := u_known (C := R0) (T := T0) (N := 12) (n := 12) hts in0 (hts (.instantiable R0 12) (List.mem_of_getElem? (i := 113) (by decide +kernel)))
  refine ⟨c, iS, fun q hq => ?_⟩
  rw [List.getElem?_eq_none (show kc.length ≤ k by show 13 ≤ k; omega)] at hq
  cases hq
theorem arr_p {args : Array Value} {s : State} {ty : FieldType} (h : (Cond.arrayClass ty).before args s = true) (hno : ∀ D, ty ≠ .object D) : ∃ c : ClassId, ArrOfT s c ty ∧ va_RA s c ty := by
  obtain ⟨c, k, comp, h1, h2, h3⟩ := Cond.arrayClass_spec (args := args) (first := s) (o := none) (s := s) (idx := []) h
  refine ⟨c, fun n z => ⟨(fun k h => by cases h), k, h2, comp, h3⟩, ?_⟩
  cases ty with
  | object D => exact absurd rfl (hno D)
  | _ => exact h1
theorem arr_o {args : Array Value} {s : State} {D : String} (h : (Cond.arrayOver (.object D)).before args s = true) : ∃ c : ClassId, ArrOfT s c (.object D) ∧ va_RA s c (.object D) := by
  obtain ⟨comp, c, k, f1, -, f2, f3, f4⟩ := Cond.arrayOver_spec (args := args) (first := s) (o := none) (s := s) (idx := []) h
  exact ⟨c, fun N z => ⟨(fun k h => by cases h), k, f2, comp, f3⟩, k, comp, f2, f3, f1, f4⟩
