/-! PURE: the law from its first instruction on -/
def S00 : List (List Int32) := [[], [], [nI 31, nI 28, nI 31, nI 30, nI 31, nI 30, nI 31, nI 31, nI 30, nI 31, nI 30, nI 31], [nI 0, nI 0, nI 0, mI 30], [nI 3, nI 9, nI 99, nI 40], [nI 0, nI 3, nI 7, nI 14], [nI 7, nI 15, nI 127, nI 127], [], [], [nI 83, nI 87, nI 82, nI 84], [nI 60, nI 61, nI 62]]
def I00 (xs : Nat → Int32) : Nat → Nat → Int32 := fun a i => if a = 1 then xs i else (S00.getD a []).getD i (nI 0)
theorem S00_z (a i : Nat) (h : 11 ≤ a) : (S00.getD a []).getD i (nI 0) = nI 0 := by
  have e : S00.getD a [] = [] := by
    rw [List.getD_eq_getElem?_getD, List.getElem?_eq_none (show S00.length ≤ a from h)]
    rfl
  rw [e]
  rfl
theorem I00_z (xs : Nat → Int32) : ZI (I00 xs) 16 := fun a i ha => by
  unfold I00
  rw [if_neg (by omega)]
  exact S00_z a i (by omega)
def b00 : List (Nat × Nat × Nat) := [(8, 0, 10), (7, 0, 9)]
theorem FL_00 : FL b00 16 := by
  intro p hp
  have : p ∈ [((8 : Nat), (0 : Nat), (10 : Nat)), (7, 0, 9)] := hp
  simp at this
  rcases this with e | e <;> subst e <;> show _ < 16 <;> omega
/-- what stands before the law -/
def w00 (L : Nat) (xs : Nat → Int32) : AW := Wc L 16 0 (I00 xs) b00
def l99 : List (Nat × Nat × Nat) := lMod (lCls b00)
def I99 (xs : Nat → Int32) : Nat → Nat → Int32 := I2 (I1 (I00 xs))
def w99 (L : Nat) (xs : Nat → Int32) : AW := Wc L 300 42927 (I99 xs) l99
theorem law_start (L : Nat) (xs : Nat → Int32) : F_Lw_law 1 (w00 L xs) = F_Lw_law_18 16 0 FUEL 1 16 271 (nI 0) (w99 L xs) := by
  have hI := I00_z xs
  have f1 : FL b00 17 := FL_00.mono (by omega)
  have f2 := FL_Cls f1
  unfold F_Lw_law w00
  rw [wz_W, wq_W, grd (by omega) (by omega)]
  (try dsimp only)
  rw [W_new (k := 1) (n := 0) (by omega) (by decide +kernel) (by decide +kernel) hI FL_00]
  unfold F_Lw_law_4
  rw [wk_W (by omega), kt16, gk rfl, wz_W, wq_W, grb (by omega) (by omega), C_A hI f1, bd_s, wz_W, wq_W, grq rfl rfl]
  unfold F_Lw_law_7
  rw [wz_W, wq_W, grd (by omega) (by omega)]
  (try dsimp only)
  have hI2 : ZI (I1 (I00 xs)) 271 := (I1_z hI).mono (by omega)
  rw [W_new (k := 13) (n := 0) (by omega) (by decide +kernel) (by decide +kernel) hI2 f2]
  unfold F_Lw_law_12
  rw [wk_W (by omega), kt271, gk rfl, wz_W, wq_W, grb (by omega) (by omega), C_M (hI2.mono (by omega)) (f2.mono (by omega)), bd_s, wz_W, wq_W, grq rfl rfl]
  rfl
theorem R99a : ∀ p, p ∈ RTab → Rl l99 p.1 p.2.1 = p.2.2 := by decide +kernel
theorem R99b : (∀ i, i < 8 → Rl l99 37 i ∈ STab) ∧ Rl l99 23 2 ∈ STab ∧ (∀ i, i < 8 → Rl l99 37 i ≠ Rl l99 23 2) := by decide +kernel
theorem R99c : ∀ i, i < 8 → ∀ j, j < 8 → Rl l99 37 i = Rl l99 37 j → i = j := by decide +kernel
theorem I99_hi (xs : Nat → Int32) (a i : Nat) (ha : 20 ≤ a) : I99 xs a i = if a = 278 ∧ i < 8766 then mI 1 else if a = 276 ∧ i < 17532 then mI 1000 else if a = 273 ∧ i < 8 then nI 1 else if a = 272 ∧ i < 8 then nI 1 else if a = 271 ∧ i = 0 then nI 1 else nI 0 := by
  have h := I1_z (I00_z xs) a i ha
  show (if a = 278 ∧ i < 8766 then mI 1 else if a = 276 ∧ i < 17532 then mI 1000 else if a = 273 ∧ i < 8 then nI 1 else if a = 272 ∧ i < 8 then nI 1 else if a = 271 ∧ i = 0 then nI 1 else I1 (I00 xs) a i) = _
  rw [h]
theorem wr99 (L : Nat) (xs : Nat → Int32) (a i : Nat) : wr (w99 L xs) a i = Rl l99 a i := by
  unfold w99
  exact wr_W a i
theorem Top99 (L : Nat) (xs : Nat → Int32) : Top L xs (w99 L xs) := by
  refine ⟨rfl, rfl, fun a ha => wk_W ha, fun a ha h1 => wn_W ha h1, ?_, fun p hp => by rw [wr99]; exact R99a p hp, ⟨fun i hi => by rw [wr99]; exact R99b.1 i hi, by rw [wr99]; exact R99b.2.1, fun i j hi hj => by rw [wr99, wr99]; exact R99c i hi j hj, fun i hi => by rw [wr99, wr99]; exact R99b.2.2 i hi⟩, fun i => ?_, ?_⟩
  · show (if 1 = 1 then L else if 1 < 300 then NTab.getD 1 0 else 0) = L
    exact if_pos rfl
  · show (if 1 = 278 ∧ i < 8766 then mI 1 else if 1 = 276 ∧ i < 17532 then mI 1000 else if 1 = 273 ∧ i < 8 then nI 1 else if 1 = 272 ∧ i < 8 then nI 1 else if 1 = 271 ∧ i = 0 then nI 1 else if 1 = 19 ∧ i < 8 then nI 1 else if 1 = 18 ∧ i < 8 then nI 1 else if 1 = 17 ∧ i = 0 then nI 1 else I00 xs 1 i) = xs i
    rw [if_neg (by omega), if_neg (by omega), if_neg (by omega), if_neg (by omega), if_neg (by omega), if_neg (by omega), if_neg (by omega), if_neg (by omega)]
    exact if_pos rfl
  · have lo : ∀ a i, 1 < a → a < 16 → wi (w99 L xs) a i = (S00.getD a []).getD i (nI 0) := by
      intro a i h1 h2
      show (if a = 278 ∧ i < 8766 then mI 1 else if a = 276 ∧ i < 17532 then mI 1000 else if a = 273 ∧ i < 8 then nI 1 else if a = 272 ∧ i < 8 then nI 1 else if a = 271 ∧ i = 0 then nI 1 else if a = 19 ∧ i < 8 then nI 1 else if a = 18 ∧ i < 8 then nI 1 else if a = 17 ∧ i = 0 then nI 1 else I00 xs a i) = _
      rw [if_neg (by omega), if_neg (by omega), if_neg (by omega), if_neg (by omega), if_neg (by omega), if_neg (by omega), if_neg (by omega), if_neg (by omega)]
      unfold I00
      rw [if_neg (by omega)]
    unfold SVal
    simp only [lo 2 _ (by omega) (by omega), lo 3 _ (by omega) (by omega), lo 4 _ (by omega) (by omega), lo 5 _ (by omega) (by omega), lo 6 _ (by omega) (by omega), lo 9 _ (by omega) (by omega), lo 10 _ (by omega) (by omega)]
    decide +kernel
theorem gf_00 : ∀ f, f < 4 → gf (nI 0) f = nI (pl f (mI 1000)) := by decide +kernel
theorem Inv99 (L : Nat) (xs : Nat → Int32) : Inv L xs (RS (w99 L xs)) (w99 L xs) := by
  have T := Top99 L xs
  have hi : ∀ a i, 20 ≤ a → wi (w99 L xs) a i = if a = 278 ∧ i < 8766 then mI 1 else if a = 276 ∧ i < 17532 then mI 1000 else if a = 273 ∧ i < 8 then nI 1 else if a = 272 ∧ i < 8 then nI 1 else if a = 271 ∧ i = 0 then nI 1 else nI 0 := fun a i ha => I99_hi xs a i ha
  have z : ∀ a i, 20 ≤ a → a ≠ 278 → a ≠ 276 → a ≠ 273 → a ≠ 272 → ¬ (a = 271 ∧ i = 0) → wi (w99 L xs) a i = nI 0 := by
    intro a i h1 h2 h3 h4 h5 h6
    rw [hi a i h1, if_neg (by omega), if_neg (by omega), if_neg (by omega), if_neg (by omega), if_neg h6]
  have lo : ∀ a i, 16 ≤ a → a < 20 → wi (w99 L xs) a i = if a = 19 ∧ i < 8 then nI 1 else if a = 18 ∧ i < 8 then nI 1 else if a = 17 ∧ i = 0 then nI 1 else nI 0 := by
    intro a i h1 h2
    have h := I00_z xs a i h1
    show (if a = 278 ∧ i < 8766 then mI 1 else if a = 276 ∧ i < 17532 then mI 1000 else if a = 273 ∧ i < 8 then nI 1 else if a = 272 ∧ i < 8 then nI 1 else if a = 271 ∧ i = 0 then nI 1 else if a = 19 ∧ i < 8 then nI 1 else if a = 18 ∧ i < 8 then nI 1 else if a = 17 ∧ i = 0 then nI 1 else I00 xs a i) = _
    rw [if_neg (by omega), if_neg (by omega), if_neg (by omega), if_neg (by omega), if_neg (by omega), h]
  have s0 : ∀ i, KFld i = true → RS (w99 L xs) 0 i = wi (w99 L xs) 271 i := fun i h => RS_0 _ _ h
  have sr : ∀ r i, (r ≠ 0 ∧ KRow r = true) → RS (w99 L xs) r i = wi (w99 L xs) (271 + r) i := fun r i h => RS_r _ _ _ h
  have e00 : RS (w99 L xs) 0 0 = nI 1 := by rw [s0 0 (by decide), hi _ _ (by omega), if_neg (by omega), if_neg (by omega), if_neg (by omega), if_neg (by omega), if_pos ⟨rfl, rfl⟩]
  have e0 : ∀ i, KFld i = true → i ≠ 0 → RS (w99 L xs) 0 i = nI 0 := fun i h h0 => by rw [s0 i h]; exact z 271 i (by omega) (by omega) (by omega) (by omega) (by omega) (by omega)
  have c1 : ∀ s, s < 8 → RS (w99 L xs) 1 s = nI 1 := fun s hs => by rw [sr 1 s (by decide), hi _ _ (by omega), if_neg (by omega), if_neg (by omega), if_neg (by omega), if_pos ⟨rfl, hs⟩]
  have c2 : ∀ s, s < 8 → RS (w99 L xs) 2 s = nI 1 := fun s hs => by rw [sr 2 s (by decide), hi _ _ (by omega), if_neg (by omega), if_neg (by omega), if_pos ⟨rfl, hs⟩]
  have c3 : ∀ s, RS (w99 L xs) 3 s = nI 0 := fun s => by rw [sr 3 s (by decide)]; exact z _ _ (by omega) (by omega) (by omega) (by omega) (by omega) (by omega)
  have c4 : ∀ s, RS (w99 L xs) 4 s = nI 0 := fun s => by rw [sr 4 s (by decide)]; exact z _ _ (by omega) (by omega) (by omega) (by omega) (by omega) (by omega)
  have c5 : ∀ i, i < 17532 → RS (w99 L xs) 5 i = mI 1000 := fun i h => by rw [sr 5 i (by decide), hi _ _ (by omega), if_neg (by omega), if_pos ⟨rfl, h⟩]
  have c6 : ∀ i, RS (w99 L xs) 6 i = nI 0 := fun i => by rw [sr 6 i (by decide)]; exact z _ _ (by omega) (by omega) (by omega) (by omega) (by omega) (by omega)
  have c7 : ∀ i, i < 8766 → RS (w99 L xs) 7 i = mI 1 := fun i h => by rw [sr 7 i (by decide), hi _ _ (by omega), if_pos ⟨rfl, h⟩]
  have e29 := e0 29 (by decide) (by omega)
  have e9 := e0 9 (by decide) (by omega)
  have e40 := e0 40 (by decide) (by omega)
  have e41 := e0 41 (by decide) (by omega)
  have e45 := e0 45 (by decide) (by omega)
  have hnS : nS (RS (w99 L xs)) = 0 := by unfold nS; rw [e29, nat0]
  have hnP : nP (RS (w99 L xs)) = 0 := by unfold nP; rw [e9, nat0]
  have n1 : nat (nI 1) = 1 := by decide +kernel
  have gz : ∀ a n, gD (w99 L xs) a n = false := fun a n => by
    show (decide (n < 1461) && bt 0 (n % 64)) = false
    rw [bt_0, Bool.and_false]
  refine ⟨T, rfl, ⟨⟨?_, ?_⟩, ?_, ?_, ⟨?_, ?_, ?_⟩, ⟨?_, ?_, ?_⟩, ?_⟩, ⟨?_, ?_⟩, ?_, ⟨?_, ?_⟩, ⟨?_, ?_⟩, ?_, ?_, ?_⟩
  · unfold sF; rw [e00, n1]
  · unfold sF; rw [e00, n1]; omega
  · intro s hs
    rw [c1 s hs, c2 s hs, c3, c4, n1, nat0]
    decide +kernel
  · intro v hv n hn f hf
    left
    exact c5 _ (by unfold fx; omega)
  · rw [hnP]; exact e9
  · rw [hnP]; omega
  · rw [hnP]; intro i h; omega
  · rw [hnS]; exact e29
  · rw [hnS]; omega
  · rw [hnS]; intro k h; omega
  · unfold IMle
    rw [e40, e41, e45, nat0]
    refine ⟨rfl, by omega, rfl, by omega, by rw [if_pos rfl], fun _ => rfl, fun h => absurd rfl h⟩
  · rw [e00, lo 17 0 (by omega) (by omega), if_neg (by omega), if_neg (by omega), if_pos ⟨rfl, rfl⟩]
  · intro s hs
    rw [c1 s hs, c2 s hs, c3, c4, lo 18 s (by omega) (by omega), lo 19 s (by omega) (by omega), if_neg (by omega), if_pos ⟨rfl, hs⟩, if_pos ⟨rfl, hs⟩, z 20 s (by omega) (by omega) (by omega) (by omega) (by omega) (by omega), z 21 s (by omega) (by omega) (by omega) (by omega) (by omega) (by omega)]
    exact ⟨rfl, rfl, rfl, rfl⟩
  · intro v hv n hn f hf
    rw [c5 _ (by unfold fx; omega), z (180 + 2 * v) n (by omega) (by omega) (by omega) (by omega) (by omega) (by omega)]
    exact gf_00 f hf
  · rw [e9]; exact z 23 0 (by omega) (by omega) (by omega) (by omega) (by omega) (by omega)
  · rw [hnP]; intro i h; omega
  · rw [e29, lo 16 4 (by omega) (by omega), if_neg (by omega), if_neg (by omega), if_neg (by omega)]
  · rw [hnS]; intro k h; omega
  · unfold LeA
    rw [e40, e45, nat0]
    exact ⟨z _ _ (by omega) (by omega) (by omega) (by omega) (by omega) (by omega), z _ _ (by omega) (by omega) (by omega) (by omega) (by omega) (by omega), fun h => absurd rfl h, fun i h => by omega⟩
  · intro a ha
    rw [c6]
    refine ⟨z _ _ (by omega) (by omega) (by omega) (by omega) (by omega) (by omega), fun n hn => ?_⟩
    rw [c7 _ (by omega), gz, gz]
    rfl
  · intro a ha j hj
    exact bt_0 j
/-- THE PURE CLAIM: whatever the script holds, the law answers 1 -/
theorem pure_law {L : Nat} (hL : L ≤ 3072) (xs : Nat → Int32) : ∃ v, F_Lw_law 1 (w00 L xs) = some (nI 1, v) := by
  obtain ⟨v, h⟩ := law_loop (L := L) (xs := xs) (fun S w I => S_good I) (fun S w I => S_say I) hL 16 0 513 FUEL 0 _ _ (Inv99 L xs) (by omega) (by omega) (by have := FUEL_big; omega)
  exact ⟨v, (law_start L xs).trans h⟩
