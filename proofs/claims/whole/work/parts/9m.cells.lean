/-! PURE: sayings cell by cell -/
theorem prog_cell {S S' : Nat → Nat → Int32} {k p : Nat} (h16 : S' 16 (2 * k + p) = S 16 (2 * k + p)) (hl : nat (S 16 (2 * k + p)) ≤ 80) (h14 : ∀ i, i < 80 → S' 14 (80 * (2 * k + p) + i) = S 14 (80 * (2 * k + p) + i)) (h15 : ∀ i, i < 80 → S' 15 (80 * (2 * k + p) + i) = S 15 (80 * (2 * k + p) + i)) : prog S' k p = prog S k p := by
  unfold prog
  rw [h16]
  apply List.map_congr_left
  intro i hi
  have := List.mem_range.mp hi
  rw [h14 i (by omega), h15 i (by omega)]
/-- saying k has the same cells -/
def SmC (S S' : Nat → Nat → Int32) (k : Nat) : Prop := (∀ j, j < 12 → S' 13 (12 * k + j) = S 13 (12 * k + j)) ∧ ∀ p, p < 2 → S' 16 (2 * k + p) = S 16 (2 * k + p) ∧ ∀ i, i < 80 → S' 14 (80 * (2 * k + p) + i) = S 14 (80 * (2 * k + p) + i) ∧ S' 15 (80 * (2 * k + p) + i) = S 15 (80 * (2 * k + p) + i)
theorem SmC.prog {S S' : Nat → Nat → Int32} {k p : Nat} (h : SmC S S' k) (hp : p < 2) (hl : nat (S 16 (2 * k + p)) ≤ 80) : prog S' k p = prog S k p :=
  prog_cell (h.2 p hp).1 hl (fun i hi => ((h.2 p hp).2 i hi).1) (fun i hi => ((h.2 p hp).2 i hi).2)
theorem SmC.imp {S S' : Nat → Nat → Int32} {k p : Nat} (h : SmC S S' k) (hp : p < 2) (I : IMp S k p) : IMp S' k p := by
  obtain ⟨i1, i2, i3, i4, i5, i6⟩ := I
  have e := h.prog hp i2
  have m : mkS S' k p = mkS S k p := by unfold mkS; rw [h.1 p (by omega)]
  unfold IMp
  rw [(h.2 p hp).1, e, m, h.1 p (by omega)]
  refine ⟨i1, i2, i3, fun i hi => ?_, i5, i6⟩
  rw [((h.2 p hp).2 i (by omega)).1]
  exact i4 i hi
theorem SmC.imk {S S' : Nat → Nat → Int32} {k : Nat} (h : SmC S S' k) (I : IMk S k) : IMk S' k := by
  obtain ⟨i1, i2, i3, i4, i5⟩ := I
  refine ⟨h.imp (by omega) i1, h.imp (by omega) i2, ?_⟩
  unfold spA spB at *
  rw [h.1 2 (by omega), h.1 3 (by omega), h.1 4 (by omega), h.1 5 (by omega), h.1 6 (by omega), h.1 7 (by omega)]
  exact ⟨i3, i4, i5⟩
theorem SmC.syk {S S' : Nat → Nat → Int32} {w : AW} {k s : Nat} (h : SmC S S' k) (I : IMk S k) (K : SyK S w k s) : SyK S' w k s := by
  have e0 := h.prog (p := 0) (by omega) I.1.2.1
  have e1 := h.prog (p := 1) (by omega) I.2.1.2.1
  have m0 : mkS S' k 0 = mkS S k 0 := by unfold mkS; rw [h.1 0 (by omega)]
  have m1 : mkS S' k 1 = mkS S k 1 := by unfold mkS; rw [h.1 1 (by omega)]
  have z0 : S' 13 (12 * k) = S 13 (12 * k) := h.1 0 (by omega)
  unfold SyK CQ at *
  rw [e0, e1, m0, m1, z0, h.1 1 (by omega), h.1 2 (by omega), h.1 3 (by omega), h.1 4 (by omega), h.1 5 (by omega), h.1 6 (by omega), h.1 7 (by omega), h.1 8 (by omega), h.1 9 (by omega), h.1 10 (by omega), h.1 11 (by omega)]
  exact K
theorem prog_new {S' : Nat → Nat → Int32} {k p : Nat} {Q : List (Nat × Int)} (h16 : S' 16 (2 * k + p) = nI Q.length) (hl : Q.length ≤ 80) (h : ∀ i m z, Q[i]? = some (m, z) → S' 14 (80 * (2 * k + p) + i) = nI m ∧ (S' 15 (80 * (2 * k + p) + i)).toInt = z ∧ m ≤ 14) : prog S' k p = Q := by
  unfold prog
  rw [h16, nat_nI (by omega)]
  apply List.ext_getElem?
  intro i
  rw [List.getElem?_map]
  by_cases hi : i < Q.length
  · obtain ⟨m, z, hm⟩ : ∃ m z, Q[i]? = some (m, z) := ⟨_, _, List.getElem?_eq_getElem hi⟩
    obtain ⟨q1, q2, q3⟩ := h i m z hm
    rw [List.getElem?_range hi, hm]
    show some (nat (S' 14 (80 * (2 * k + p) + i)), (S' 15 (80 * (2 * k + p) + i)).toInt) = some (m, z)
    rw [q1, q2, nat_nI (by omega)]
  · rw [List.getElem?_eq_none (by rw [List.length_range]; omega), List.getElem?_eq_none (by omega)]
    rfl
theorem bit_or : ∀ a, a < 16 → ∀ f, f < 4 → ∀ g, g < 4 → (a ||| 1 <<< f).testBit g = (a.testBit g || decide (g = f)) := by decide +kernel
theorem mskP_fold : ∀ (l : List Nat) (b : Nat), b < 16 → (∀ m, m ∈ l → m < 12) → ∀ g, g < 4 → (b.testBit g = true ∨ ∃ m, m ∈ l ∧ m / 3 = g) → (l.foldl (fun b m => b ||| 1 <<< (m / 3)) b).testBit g = true
  | [], b, hb, _, g, _, h => by
    rcases h with h | ⟨m, hm, _⟩
    · exact h
    · cases hm
  | m :: l, b, hb, hl, g, hg, h => by
    have hm := hl m List.mem_cons_self
    refine mskP_fold l _ (or_lt b hb (m / 3) (by omega)).1 (fun x hx => hl x (List.mem_cons_of_mem _ hx)) g hg ?_
    rw [bit_or b hb (m / 3) (by omega) g hg]
    rcases h with h | ⟨x, hx, e⟩
    · left; rw [h]; rfl
    · rcases List.mem_cons.mp hx with q | q
      · left; subst q; rw [decide_eq_true e.symm, Bool.or_true]
      · exact .inr ⟨x, q, e⟩
theorem mskP_bit {P : List (Nat × Int)} {m : Nat} {z : Int} (h : (m, z) ∈ P) (h12 : m < 12) : (mskP (cms P)).testBit (m / 3) = true :=
  mskP_fold _ 0 (by omega) (fun x hx => cms_lt hx) (m / 3) (by omega) (.inr ⟨m, by
    unfold cms
    exact List.mem_filter.mpr ⟨List.mem_map.mpr ⟨(m, z), h, rfl⟩, decide_eq_true h12⟩, rfl⟩)
/-- a new part of a saying, on the reference's side -/
def NwP (S' : Nat → Nat → Int32) (k p : Nat) (Q : List (Nat × Int)) (d : Int32) : Prop := S' 13 (12 * k + p) = nI (mskP (cms Q)) ∧ S' 13 (12 * k + 8 + p) = nI (cms Q).length ∧ S' 13 (12 * k + 10 + p) = d ∧ S' 16 (2 * k + p) = nI Q.length ∧ Q.length ≤ 80 ∧ ∀ i m z, Q[i]? = some (m, z) → S' 14 (80 * (2 * k + p) + i) = nI m ∧ (S' 15 (80 * (2 * k + p) + i)).toInt = z ∧ m ≤ 14
theorem NwP.imp {S' : Nat → Nat → Int32} {k p c : Nat} {P Q : List (Nat × Int)} {d : Int32} (h : NwP S' k p Q d) (H : HE P Q c 1) : IMp S' k p := by
  obtain ⟨h1, h2, h3, h4, h5, h6⟩ := h
  have e := prog_new h4 h5 h6
  have hm := mskP_16 Q
  have hk : mkS S' k p = mskP (cms Q) := by unfold mkS; rw [h1, nat_nI (by omega)]
  unfold IMp
  rw [e, hk, h4, h1, nat_nI (by omega)]
  refine ⟨rfl, h5, okt_okh H.2.2.2.2.1, fun i hi => ?_, rfl, hm⟩
  obtain ⟨m, z, hmz⟩ : ∃ m z, Q[i]? = some (m, z) := ⟨_, _, List.getElem?_eq_getElem hi⟩
  obtain ⟨q1, q2, q3⟩ := h6 i m z hmz
  rw [q1, nat_nI (by omega)]
  exact ⟨rfl, q3⟩
theorem NwP.cq {S' : Nat → Nat → Int32} {k p c a : Nat} {P Q : List (Nat × Int)} {d : Int32} {w : AW} (h : NwP S' k p Q d) (H : HE P Q c 1) (hP : CP w a P) : CQ S' w k p a := by
  obtain ⟨h1, h2, h3, h4, h5, h6⟩ := h
  have e := prog_new h4 h5 h6
  have hm := mskP_16 Q
  have hk : mkS S' k p = mskP (cms P) := by unfold mkS; rw [h1, nat_nI (by omega), H.2.1]
  refine ⟨P, hP, okt_okh H.2.2.2.1, fun m z hmz h12 => ?_, fun g => ?_⟩
  · rw [hk]; exact mskP_bit hmz h12
  · rw [e]; exact H.1 g []
theorem ru1 {w : AW} {a i x b j : Nat} (h : ¬ (b = a ∧ j = i)) : wr (upR w a i x) b j = wr w b j := by rw [wr_upR, if_neg h]
theorem ru0 (w : AW) (a i x : Nat) : wr (upR w a i x) a i = x := by rw [wr_upR, if_pos ⟨rfl, rfl⟩]
theorem RTab_sw : ∀ p, p ∈ RTab → ¬ p.1 = 37 ∧ ¬ (p.1 = 23 ∧ p.2.1 = 2) := by decide +kernel
/-- the draft becomes a saying -/
theorem Top.swap {L : Nat} {xs : Nat → Int32} {u : AW} (T : Top L xs u) {n : Nat} (hn : n < 8) : Top L xs (upR (upR u 37 n (wr u 23 2)) 23 2 (wr u 37 n)) := by
  obtain ⟨t1, t2, t3, t4, t5, t6, ⟨p1, p2, p3, p4⟩, t8, t9⟩ := T
  have e37 : ∀ i, wr (upR (upR u 37 n (wr u 23 2)) 23 2 (wr u 37 n)) 37 i = if i = n then wr u 23 2 else wr u 37 i := by
    intro i
    rw [ru1 (by omega), wr_upR]
    by_cases e : i = n
    · rw [if_pos e, if_pos ⟨rfl, e⟩]
    · rw [if_neg e, if_neg (fun q => e q.2)]
  have e23 : wr (upR (upR u 37 n (wr u 23 2)) 23 2 (wr u 37 n)) 23 2 = wr u 37 n := ru0 _ _ _ _
  refine ⟨t1, t2, t3, t4, t5, fun p hp => ?_, ⟨fun i hi => ?_, ?_, fun i j hi hj => ?_, fun i hi => ?_⟩, t8, t9⟩
  · have q := RTab_sw p hp
    rw [ru1 (by omega), ru1 (by omega)]
    exact t6 p hp
  · rw [e37]
    by_cases e : i = n
    · rw [if_pos e]; exact p2
    · rw [if_neg e]; exact p1 i hi
  · rw [e23]; exact p1 n hn
  · rw [e37, e37]
    by_cases e : i = n
    · rw [if_pos e]
      by_cases e2 : j = n
      · intro _; omega
      · rw [if_neg e2]; intro q; exact absurd q.symm (p4 j hj)
    · rw [if_neg e]
      by_cases e2 : j = n
      · rw [if_pos e2]; intro q; exact absurd q (p4 i hi)
      · rw [if_neg e2]; exact p3 i j hi hj
  · rw [e37, e23]
    by_cases e : i = n
    · rw [if_pos e]; intro q; exact p4 n hn q.symm
    · rw [if_neg e]; intro q; exact e (p3 i n hi hn q)
/-- all that the reference writes as it keeps saying n -/
def XK (n a i : Nat) : Prop := ((a = 285 ∨ a = 286) ∧ 80 * (2 * n) ≤ i ∧ i < 80 * (2 * n) + 160) ∨ (a = 284 ∧ 12 * n ≤ i ∧ i < 12 * n + 12) ∨ (a = 287 ∧ (i = 2 * n ∨ i = 2 * n + 1)) ∨ (288 ≤ a ∧ a ≤ 292) ∨ (a = 271 ∧ (i = 29 ∨ i = 9))
theorem XK_16 {n : Nat} : ∀ a i, XK n a i → 16 ≤ a := by
  intro a i h; unfold XK at h; omega
theorem XP_XK {n p : Nat} (hp : p < 2) : ∀ a i, XP n p a i → XK n a i := by
  intro a i h; unfold XP XC at h; unfold XK; omega
/-- part p of saying n, as kept in v -/
def KpP (v : AW) (n p : Nat) (Q : List (Nat × Int)) (d : Int32) : Prop := wi v 284 (12 * n + p) = nI (mskP (cms Q)) ∧ wi v 284 (12 * n + 8 + p) = nI (cms Q).length ∧ wi v 284 (12 * n + 10 + p) = d ∧ wi v 287 (2 * n + p) = nI Q.length ∧ Q.length ≤ 80 ∧ ∀ i m z, Q[i]? = some (m, z) → wi v 285 (80 * (2 * n + p) + i) = nI m ∧ (wi v 286 (80 * (2 * n + p) + i)).toInt = z ∧ m ≤ 14
theorem M_say50 {L : Nat} {xs : Nat → Int32} {pg : Nat → Nat} {np n s : Nat} {u v : AW} (T : Top L xs v) (hn : n < 8) (hnP : np ≤ 80) (hpg : ∀ i, i < np → pg i ≤ 126) (h9 : wi v 271 9 = nI np) (h279 : ∀ i, i < np → wi v 279 i = nI (pg i)) (h29 : wi v 271 29 = nI n) (W : WHL pg np s u v) : ∃ v3 P0 Q0 c0 d0 P1 Q1 c1 d1, F_M_say_50 FUEL 271 (nI (12 * n)) (nI 0) v = some (nI n, v3) ∧ FR (XK n) v v3 ∧ (CO u (s + 1) P0 ∧ wi u (s + 1) 5 = d0 ∧ HE P0 Q0 c0 1 ∧ KpP v3 n 0 Q0 d0) ∧ (CO u (s + 4) P1 ∧ wi u (s + 4) 5 = d1 ∧ HE P1 Q1 c1 1 ∧ KpP v3 n 1 Q1 d1) ∧ wi v3 284 (12 * n + 2) = wi u s 2 ∧ wi v3 284 (12 * n + 3) = wi u s 3 ∧ wi v3 284 (12 * n + 4) = wi u s 4 ∧ wi v3 284 (12 * n + 5) = wi u s 5 ∧ wi v3 284 (12 * n + 6) = wi u s 6 ∧ wi v3 284 (12 * n + 7) = wi u s 7 ∧ (∃ a b al, wi u s 2 = nI a ∧ wi u s 3 = nI b ∧ wi u s 4 = nI al ∧ a ≤ b ∧ b ≤ 9 ∧ al ≤ 1) ∧ okSea (wi u s 5) (wi u s 6) (wi u s 7) ∧ wi v3 271 29 = nI (n + 1) ∧ wi v3 271 9 = nI 0 := by
  obtain ⟨m, hm⟩ := FUEL_5
  obtain ⟨⟨P0, Q0, c0, i0, m0, V0, a1, a2, a3, a4, a5, a6, a7, a8⟩, ⟨P1, Q1, c1, i1, m1, V1, b1', b2, b3, b4, b5, b6, b7, b8⟩, ⟨a, b, al, s1, s2, s3, s4, s5, s6, s7, s8, s9⟩, ⟨e1, e2, e3, e4⟩⟩ := W
  obtain ⟨v1, x1, x2, x3, x4, x5, x6, x7⟩ := M_part (fu := m + 1 + 1 + 1 + 1) T (by omega) hn hnP hpg a3 a5 a6 a7 a8 h9 h279 h29
  have T1 := T.sh (x2.sh XP_16)
  have n1 : ∀ a i, (a = 271 ∨ a = 279 ∨ a = 282 ∨ a = 280 ∨ a = 281) → wi v1 a i = wi v a i := fun a i h => x2.i (by unfold XP XC; omega)
  have b3' : MK v1 1 Q1 := b3.fr x2 (by unfold XP XC; omega) (fun i hi => ⟨by unfold XP XC; omega, by unfold XP XC; omega⟩)
  obtain ⟨v2, y1, y2, y3, y4, y5, y6, y7⟩ := M_part (fu := m + 1 + 1 + 1) T1 (by omega) hn hnP hpg b3' b5 b6 b7 b8 ((n1 271 9 (by omega)).trans h9) (fun i hi => (n1 279 i (by omega)).trans (h279 i hi)) ((n1 271 29 (by omega)).trans h29)
  have T2 := T1.sh (y2.sh XP_16)
  have n2 : ∀ i, wi v2 271 i = wi v 271 i := fun i => (y2.i (by unfold XP XC; omega)).trans (n1 271 i (by omega))
  obtain ⟨v3, z1, z2, z3, z4, z5, z6, z7, z8, z9, z10⟩ := M_fin (fu := m + 1 + 1) T2 hn ((n2 29).trans h29) ((n2 20).trans s6) s9
  have k3 : ∀ a i, (284 ≤ a ∧ a ≤ 287) → ¬ (a = 284 ∧ 12 * n + 2 ≤ i ∧ i ≤ 12 * n + 7) → wi v3 a i = wi v2 a i := fun a i h1 h2 => z2.i (by omega)
  have k2 : ∀ a i, (284 ≤ a ∧ a ≤ 287) → ¬ XP n 1 a i → wi v2 a i = wi v1 a i := fun a i h1 h2 => y2.i h2
  refine ⟨v3, P0, Q0, c0, _, P1, Q1, c1, _, ?_, ((x2.mono (XP_XK (by omega))).trans (y2.mono (XP_XK (by omega)))).trans (z2.mono (fun a i h => by unfold XK; omega)), ⟨a1, a2, a4, ?_, ?_, ?_, ?_, a3.2.1, fun i m z hi => ?_⟩, ⟨b1', b2, b4, ?_, ?_, ?_, ?_, b3.2.1, fun i m z hi => ?_⟩, ?_, ?_, ?_, ?_, ?_, ?_, ⟨a, b, al, s1, s2, s3, s7, s8, s9⟩, ?_, z9, z10⟩
  · rw [hm, x1, y1, z1]
  · rw [k3 _ _ (by omega) (by omega), k2 _ _ (by omega) (by unfold XP XC; omega)]; exact x3
  · rw [k3 _ _ (by omega) (by omega), k2 _ _ (by omega) (by unfold XP XC; omega)]; exact x4
  · rw [k3 _ _ (by omega) (by omega), k2 _ _ (by omega) (by unfold XP XC; omega)]; exact x5
  · rw [k3 _ _ (by omega) (by omega), k2 _ _ (by omega) (by unfold XP XC; omega)]; exact x6
  · have hl : i < Q0.length := by rw [List.getElem?_eq_some_iff] at hi; exact hi.1
    have h80 := a3.2.1
    obtain ⟨q1, q2⟩ := x7 i hl
    have q3 := a3.2.2 i m z hi
    rw [k3 _ _ (by omega) (by omega), k3 _ _ (by omega) (by omega), k2 _ _ (by omega) (by unfold XP XC; omega), k2 _ _ (by omega) (by unfold XP XC; omega), q1, q2]
    exact q3
  · rw [k3 _ _ (by omega) (by omega)]; exact y3
  · rw [k3 _ _ (by omega) (by omega)]; exact y4
  · rw [k3 _ _ (by omega) (by omega)]; exact y5
  · rw [k3 _ _ (by omega) (by omega)]; exact y6
  · have hl : i < Q1.length := by rw [List.getElem?_eq_some_iff] at hi; exact hi.1
    obtain ⟨q1, q2⟩ := y7 i hl
    have q3 := b3'.2.2 i m z hi
    rw [k3 _ _ (by omega) (by omega), k3 _ _ (by omega) (by omega), q1, q2]
    exact q3
  · rw [z3, n2, s4, s1]
  · rw [z4, n2, s5, s2]
  · rw [z5, s3]
  · rw [z6, n2, e1]
  · rw [z7, n2, e2]
  · rw [z8, n2, e3]
  · rw [e1, e2, e3]; exact e4
