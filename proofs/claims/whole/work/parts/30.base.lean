/-! PURE: what written worlds hold -/
theorem wz_upI (w : AW) (a i : Nat) (x : Int32) : wz (upI w a i x) = wz w := rfl
theorem wz_upJ (w : AW) (a i : Nat) (x : Int64) : wz (upJ w a i x) = wz w := rfl
theorem wz_upR (w : AW) (a i x : Nat) : wz (upR w a i x) = wz w := rfl
theorem wq_upI (w : AW) (a i : Nat) (x : Int32) : wq (upI w a i x) = wq w := rfl
theorem wq_upJ (w : AW) (a i : Nat) (x : Int64) : wq (upJ w a i x) = wq w := rfl
theorem wq_upR (w : AW) (a i x : Nat) : wq (upR w a i x) = wq w := rfl
theorem wk_upI (w : AW) (a i : Nat) (x : Int32) (b : Nat) : wk (upI w a i x) b = wk w b := rfl
theorem wk_upJ (w : AW) (a i : Nat) (x : Int64) (b : Nat) : wk (upJ w a i x) b = wk w b := rfl
theorem wk_upR (w : AW) (a i x : Nat) (b : Nat) : wk (upR w a i x) b = wk w b := rfl
theorem wn_upI (w : AW) (a i : Nat) (x : Int32) (b : Nat) : wn (upI w a i x) b = wn w b := rfl
theorem wn_upJ (w : AW) (a i : Nat) (x : Int64) (b : Nat) : wn (upJ w a i x) b = wn w b := rfl
theorem wn_upR (w : AW) (a i x : Nat) (b : Nat) : wn (upR w a i x) b = wn w b := rfl
theorem wi_upI (w : AW) (a i : Nat) (x : Int32) (b j : Nat) : wi (upI w a i x) b j = if b = a ∧ j = i then x else wi w b j := rfl
theorem wi_upJ (w : AW) (a i : Nat) (x : Int64) (b j : Nat) : wi (upJ w a i x) b j = wi w b j := rfl
theorem wi_upR (w : AW) (a i x : Nat) (b j : Nat) : wi (upR w a i x) b j = wi w b j := rfl
theorem wj_upI (w : AW) (a i : Nat) (x : Int32) (b j : Nat) : wj (upI w a i x) b j = wj w b j := rfl
theorem wj_upJ (w : AW) (a i : Nat) (x : Int64) (b j : Nat) : wj (upJ w a i x) b j = if b = a ∧ j = i then x else wj w b j := rfl
theorem wj_upR (w : AW) (a i x : Nat) (b j : Nat) : wj (upR w a i x) b j = wj w b j := rfl
theorem wr_upI (w : AW) (a i : Nat) (x : Int32) (b j : Nat) : wr (upI w a i x) b j = wr w b j := rfl
theorem wr_upJ (w : AW) (a i : Nat) (x : Int64) (b j : Nat) : wr (upJ w a i x) b j = wr w b j := rfl
theorem wr_upR (w : AW) (a i x : Nat) (b j : Nat) : wr (upR w a i x) b j = if b = a ∧ j = i then x else wr w b j := rfl
def rowI (w : AW) (a : Nat) (f : Nat → Int32) : AW := (w.1, w.2.1, w.2.2.1, w.2.2.2.1, (fun b j => if b = a then f j else w.2.2.2.2.1 b j), w.2.2.2.2.2.1, w.2.2.2.2.2.2)
def rowJ (w : AW) (a : Nat) (f : Nat → Int64) : AW := (w.1, w.2.1, w.2.2.1, w.2.2.2.1, w.2.2.2.2.1, (fun b j => if b = a then f j else w.2.2.2.2.2.1 b j), w.2.2.2.2.2.2)
theorem wz_rowI (w : AW) (a : Nat) (f : Nat → Int32) : wz (rowI w a f) = wz w := rfl
theorem wq_rowI (w : AW) (a : Nat) (f : Nat → Int32) : wq (rowI w a f) = wq w := rfl
theorem wk_rowI (w : AW) (a : Nat) (f : Nat → Int32) (b : Nat) : wk (rowI w a f) b = wk w b := rfl
theorem wn_rowI (w : AW) (a : Nat) (f : Nat → Int32) (b : Nat) : wn (rowI w a f) b = wn w b := rfl
theorem wi_rowI (w : AW) (a : Nat) (f : Nat → Int32) (b j : Nat) : wi (rowI w a f) b j = if b = a then f j else wi w b j := rfl
theorem wj_rowI (w : AW) (a : Nat) (f : Nat → Int32) (b j : Nat) : wj (rowI w a f) b j = wj w b j := rfl
theorem wr_rowI (w : AW) (a : Nat) (f : Nat → Int32) (b j : Nat) : wr (rowI w a f) b j = wr w b j := rfl
theorem wz_rowJ (w : AW) (a : Nat) (f : Nat → Int64) : wz (rowJ w a f) = wz w := rfl
theorem wq_rowJ (w : AW) (a : Nat) (f : Nat → Int64) : wq (rowJ w a f) = wq w := rfl
theorem wk_rowJ (w : AW) (a : Nat) (f : Nat → Int64) (b : Nat) : wk (rowJ w a f) b = wk w b := rfl
theorem wn_rowJ (w : AW) (a : Nat) (f : Nat → Int64) (b : Nat) : wn (rowJ w a f) b = wn w b := rfl
theorem wi_rowJ (w : AW) (a : Nat) (f : Nat → Int64) (b j : Nat) : wi (rowJ w a f) b j = wi w b j := rfl
theorem wj_rowJ (w : AW) (a : Nat) (f : Nat → Int64) (b j : Nat) : wj (rowJ w a f) b j = if b = a then f j else wj w b j := rfl
theorem wr_rowJ (w : AW) (a : Nat) (f : Nat → Int64) (b j : Nat) : wr (rowJ w a f) b j = wr w b j := rfl
theorem aw_ext {w v : AW} (h1 : wz w = wz v) (h2 : wq w = wq v) (h3 : ∀ b, wk w b = wk v b) (h4 : ∀ b, wn w b = wn v b) (h5 : ∀ b j, wi w b j = wi v b j) (h6 : ∀ b j, wj w b j = wj v b j) (h7 : ∀ b j, wr w b j = wr v b j) : w = v := by
  obtain ⟨a1, a2, a3, a4, a5, a6, a7⟩ := w
  obtain ⟨b1, b2, b3, b4, b5, b6, b7⟩ := v
  have e1 : a1 = b1 := h1
  have e2 : a2 = b2 := h2
  have e3 : a3 = b3 := funext h3
  have e4 : a4 = b4 := funext h4
  have e5 : a5 = b5 := funext fun b => funext fun j => h5 b j
  have e6 : a6 = b6 := funext fun b => funext fun j => h6 b j
  have e7 : a7 = b7 := funext fun b => funext fun j => h7 b j
  subst e1 e2 e3 e4 e5 e6 e7
  rfl
theorem rowI_ext {w v : AW} {a : Nat} {f g : Nat → Int32} (h1 : wz w = wz v) (h2 : wq w = wq v) (h3 : ∀ b, wk w b = wk v b) (h4 : ∀ b, wn w b = wn v b) (h5 : ∀ b j, b ≠ a → wi w b j = wi v b j) (h6 : ∀ b j, wj w b j = wj v b j) (h7 : ∀ b j, wr w b j = wr v b j) (h : ∀ j, f j = g j) : rowI w a f = rowI v a g :=
  aw_ext h1 h2 h3 h4 (fun b j => by rw [wi_rowI, wi_rowI]; split; (exact h j); (rename_i hb; exact h5 b j hb)) h6 h7
theorem rowJ_ext {w v : AW} {a : Nat} {f g : Nat → Int64} (h1 : wz w = wz v) (h2 : wq w = wq v) (h3 : ∀ b, wk w b = wk v b) (h4 : ∀ b, wn w b = wn v b) (h5 : ∀ b j, wi w b j = wi v b j) (h6 : ∀ b j, b ≠ a → wj w b j = wj v b j) (h7 : ∀ b j, wr w b j = wr v b j) (h : ∀ j, f j = g j) : rowJ w a f = rowJ v a g :=
  aw_ext h1 h2 h3 h4 h5 (fun b j => by rw [wj_rowJ, wj_rowJ]; split; (exact h j); (rename_i hb; exact h6 b j hb)) h7
theorem rowI_rowI (w : AW) (a : Nat) (f g : Nat → Int32) : rowI (rowI w a f) a g = rowI w a g :=
  rowI_ext rfl rfl (fun _ => rfl) (fun _ => rfl) (fun b j hb => by rw [wi_rowI, if_neg hb]) (fun _ _ => rfl) (fun _ _ => rfl) (fun _ => rfl)
theorem rowJ_rowJ (w : AW) (a : Nat) (f g : Nat → Int64) : rowJ (rowJ w a f) a g = rowJ w a g :=
  rowJ_ext rfl rfl (fun _ => rfl) (fun _ => rfl) (fun _ _ => rfl) (fun b j hb => by rw [wj_rowJ, if_neg hb]) (fun _ _ => rfl) (fun _ => rfl)
theorem rowI_upI (w : AW) (a i : Nat) (x : Int32) (g : Nat → Int32) : rowI (upI w a i x) a g = rowI w a g :=
  rowI_ext rfl rfl (fun _ => rfl) (fun _ => rfl) (fun b j hb => by rw [wi_upI, if_neg (fun h => hb h.1)]) (fun _ _ => rfl) (fun _ _ => rfl) (fun _ => rfl)
theorem rowJ_upJ (w : AW) (a i : Nat) (x : Int64) (g : Nat → Int64) : rowJ (upJ w a i x) a g = rowJ w a g :=
  rowJ_ext rfl rfl (fun _ => rfl) (fun _ => rfl) (fun _ _ => rfl) (fun b j hb => by rw [wj_upJ, if_neg (fun h => hb h.1)]) (fun _ _ => rfl) (fun _ => rfl)
theorem rowI_self (w : AW) (a : Nat) {f : Nat → Int32} (h : ∀ j, f j = wi w a j) : rowI w a f = w :=
  aw_ext rfl rfl (fun _ => rfl) (fun _ => rfl) (fun b j => by rw [wi_rowI]; split; (rename_i hb; rw [h, hb]); (rfl)) (fun _ _ => rfl) (fun _ _ => rfl)
theorem rowJ_self (w : AW) (a : Nat) {f : Nat → Int64} (h : ∀ j, f j = wj w a j) : rowJ w a f = w :=
  aw_ext rfl rfl (fun _ => rfl) (fun _ => rfl) (fun _ _ => rfl) (fun b j => by rw [wj_rowJ]; split; (rename_i hb; rw [h, hb]); (rfl)) (fun _ _ => rfl)
theorem upI_row (w : AW) (a i : Nat) (x : Int32) : upI w a i x = rowI w a (fun j => if j = i then x else wi w a j) :=
  aw_ext rfl rfl (fun _ => rfl) (fun _ => rfl) (fun b j => by rw [wi_rowI, wi_upI]; by_cases hb : b = a <;> by_cases hj : j = i <;> simp [hb, hj]) (fun _ _ => rfl) (fun _ _ => rfl)
theorem upJ_row (w : AW) (a i : Nat) (x : Int64) : upJ w a i x = rowJ w a (fun j => if j = i then x else wj w a j) :=
  aw_ext rfl rfl (fun _ => rfl) (fun _ => rfl) (fun _ _ => rfl) (fun b j => by rw [wj_rowJ, wj_upJ]; by_cases hb : b = a <;> by_cases hj : j = i <;> simp [hb, hj]) (fun _ _ => rfl)
/-- no rfl: the kernel would open what stands behind it -/
theorem gd_true {α : Type} (x : Option α) : gd true x = x := if_pos (Eq.refl true)
theorem bd_s {α β : Type} (a : α) (f : α → Option β) : (some a).bind f = f a := by rw [Option.bind_some]
theorem gd_t {α : Type} {b : Bool} {x : Option α} (h : b = true) : gd b x = x := by rw [h]; rfl
theorem FUEL_s (k : Nat) (h : k < 1000000) : ∃ m, FUEL = m + 1 ∧ k < m + 1 := ⟨999999, rfl, by omega⟩
/-! small ints -/
theorem q_lit (n : Nat) : (OfNat.ofNat n : Int32) = nI n := rfl
theorem q_le {a b : Nat} (ha : a < 2147483648) (hb : b < 2147483648) : (nI a ≤ nI b) = (a ≤ b) := propext (nI_leI ha hb)
theorem q_lt {a b : Nat} (ha : a < 2147483648) (hb : b < 2147483648) : (nI a < nI b) = (a < b) := propext (nI_ltI ha hb)
theorem q_eq {a b : Nat} (ha : a < 2147483648) (hb : b < 2147483648) : (nI a = nI b) = (a = b) := propext (nI_eq ha hb)
theorem q_nat {a : Nat} (ha : a < 2147483648) : (nI a).toNatClampNeg = a := nI_clamp ha
theorem q_int {a : Nat} (ha : a < 2147483648) : (nI a).toInt = (a : Int) := nI_toInt ha
theorem q_sub {a b : Nat} (h : b ≤ a) : nI a - nI b = nI (a - b) := pk_sub h
theorem q_inb {k n : Nat} (h : k < n) (hn : n ≤ 2147483648) : inb (nI k) n = true := by
  unfold inb
  rw [nI_clamp (by omega)]
  have h1 : ¬ nI k < 0 := nI_pos (by omega)
  rw [decide_eq_false h1]
  simpa [Nat.blt_eq] using h
theorem q_rem {a d : Nat} (ha : a < 2147483648) (h0 : 0 < d) (hd : d < 2147483648) : irem (nI a) (nI d) = nI (a % d) := pk_rem ha h0 hd
theorem q_div {a d : Nat} (ha : a < 2147483648) (h0 : 0 < d) (hd : d < 2147483648) : nI a / nI d = nI (a / d) := pk_div ha h0 hd
theorem q_m1 (n : Nat) : nI (n + 1) + (-1) = nI n := pk_m1 n
theorem q_nm1 {n : Nat} (h : n < 2147483648) : (nI n = (-1 : Int32)) = False := by
  apply propext
  constructor
  · intro e
    have e2 := congrArg Int32.toInt e
    rw [nI_toInt h] at e2
    have : (-1 : Int32).toInt = -1 := by decide
    omega
  · exact False.elim
theorem q_ofI {x : Int32} (h : 0 ≤ x.toInt) : x = nI x.toInt.toNat := by
  apply Int32.toInt.inj
  have h2 : x.toInt < 2 ^ 31 := Int32.toInt_lt x
  rw [nI_toInt (by omega)]
  omega
/-- an int between two small bounds -/
theorem q_of {x : Int32} {n : Nat} (h : 0 ≤ x.toInt) (h2 : x.toInt ≤ n) (hn : n < 2147483648) : ∃ k : Nat, x = nI k ∧ k ≤ n := ⟨x.toInt.toNat, q_ofI h, by omega⟩
theorem A_within_iff (x a b : Int32) : F_A_within x a b = if a.toInt ≤ x.toInt ∧ x.toInt ≤ b.toInt then 1 else 0 := by
  unfold F_A_within
  simp only [Int32.lt_iff_toInt_lt]
  split
  · rw [if_neg (by omega)]
  · split
    · rw [if_neg (by omega)]
    · rw [if_pos (by omega)]
theorem M_in_iff (x : Int32) (a b : Int64) : F_M_in (Int32.toInt64 x) a b = if a.toInt ≤ x.toInt ∧ x.toInt ≤ b.toInt then 1 else 0 := by
  unfold F_M_in
  simp only [lg_cmp_lt, lg_cmp_gt, Int64.lt_iff_toInt_lt, Int32.toInt_toInt64]
  split
  · rw [if_neg (by omega)]
  · split
    · rw [if_neg (by omega)]
    · rw [if_pos (by omega)]
def mI (n : Nat) : Int32 := -nI n
theorem qL : ((0 : Int32) = nI 0) ∧ ((1 : Int32) = nI 1) ∧ ((2 : Int32) = nI 2) ∧ ((3 : Int32) = nI 3) ∧ ((4 : Int32) = nI 4) ∧ ((5 : Int32) = nI 5) ∧ ((6 : Int32) = nI 6) ∧ ((7 : Int32) = nI 7) ∧ ((8 : Int32) = nI 8) ∧ ((9 : Int32) = nI 9) ∧ ((10 : Int32) = nI 10) ∧ ((11 : Int32) = nI 11) ∧ ((12 : Int32) = nI 12) ∧ ((13 : Int32) = nI 13) ∧ ((14 : Int32) = nI 14) ∧ ((15 : Int32) = nI 15) ∧ ((16 : Int32) = nI 16) ∧ ((17 : Int32) = nI 17) ∧ ((18 : Int32) = nI 18) ∧ ((19 : Int32) = nI 19) ∧ ((20 : Int32) = nI 20) ∧ ((21 : Int32) = nI 21) ∧ ((22 : Int32) = nI 22) ∧ ((23 : Int32) = nI 23) ∧ ((24 : Int32) = nI 24) ∧ ((25 : Int32) = nI 25) ∧ ((26 : Int32) = nI 26) ∧ ((27 : Int32) = nI 27) ∧ ((28 : Int32) = nI 28) ∧ ((29 : Int32) = nI 29) ∧ ((30 : Int32) = nI 30) ∧ ((31 : Int32) = nI 31) ∧ ((32 : Int32) = nI 32) ∧ ((33 : Int32) = nI 33) ∧ ((34 : Int32) = nI 34) ∧ ((35 : Int32) = nI 35) ∧ ((36 : Int32) = nI 36) ∧ ((37 : Int32) = nI 37) ∧ ((38 : Int32) = nI 38) ∧ ((40 : Int32) = nI 40) ∧ ((41 : Int32) = nI 41) ∧ ((45 : Int32) = nI 45) ∧ ((48 : Int32) = nI 48) ∧ ((57 : Int32) = nI 57) ∧ ((58 : Int32) = nI 58) ∧ ((60 : Int32) = nI 60) ∧ ((61 : Int32) = nI 61) ∧ ((62 : Int32) = nI 62) ∧ ((63 : Int32) = nI 63) ∧ ((64 : Int32) = nI 64) ∧ ((71 : Int32) = nI 71) ∧ ((79 : Int32) = nI 79) ∧ ((80 : Int32) = nI 80) ∧ ((82 : Int32) = nI 82) ∧ ((83 : Int32) = nI 83) ∧ ((84 : Int32) = nI 84) ∧ ((87 : Int32) = nI 87) ∧ ((94 : Int32) = nI 94) ∧ ((99 : Int32) = nI 99) ∧ ((100 : Int32) = nI 100) ∧ ((124 : Int32) = nI 124) ∧ ((126 : Int32) = nI 126) ∧ ((127 : Int32) = nI 127) ∧ ((255 : Int32) = nI 255) ∧ ((256 : Int32) = nI 256) ∧ ((365 : Int32) = nI 365) ∧ ((366 : Int32) = nI 366) ∧ ((400 : Int32) = nI 400) ∧ ((1000 : Int32) = nI 1000) ∧ ((1460 : Int32) = nI 1460) ∧ ((1461 : Int32) = nI 1461) ∧ ((2048 : Int32) = nI 2048) ∧ ((8766 : Int32) = nI 8766) ∧ ((9999 : Int32) = nI 9999) ∧ ((12345 : Int32) = nI 12345) ∧ ((17532 : Int32) = nI 17532) ∧ ((65536 : Int32) = nI 65536) := by
  refine ⟨rfl, rfl, rfl, rfl, rfl, rfl, rfl, rfl, rfl, rfl, rfl, rfl, rfl, rfl, rfl, rfl, rfl, rfl, rfl, rfl, rfl, rfl, rfl, rfl, rfl, rfl, rfl, rfl, rfl, rfl, rfl, rfl, rfl, rfl, rfl, rfl, rfl, rfl, rfl, rfl, rfl, rfl, rfl, rfl, rfl, rfl, rfl, rfl, rfl, rfl, rfl, rfl, rfl, rfl, rfl, rfl, rfl, rfl, rfl, rfl, rfl, rfl, rfl, rfl, rfl, rfl, rfl, rfl, rfl, rfl, rfl, rfl, rfl, rfl, rfl, rfl, rfl⟩
theorem qM : ((-1 : Int32) = mI 1) ∧ ((-30 : Int32) = mI 30) ∧ ((-101 : Int32) = mI 101) ∧ ((-102 : Int32) = mI 102) ∧ ((-103 : Int32) = mI 103) ∧ ((-104 : Int32) = mI 104) ∧ ((-1000 : Int32) = mI 1000) ∧ ((-10101 : Int32) = mI 10101) ∧ ((-100000001 : Int32) = mI 100000001) := by
  refine ⟨rfl, rfl, rfl, rfl, rfl, rfl, rfl, rfl, rfl⟩
theorem l_0 : (0 : Int32) = nI 0 := rfl
theorem l_1 : (1 : Int32) = nI 1 := rfl
theorem l_2 : (2 : Int32) = nI 2 := rfl
theorem l_3 : (3 : Int32) = nI 3 := rfl
theorem l_4 : (4 : Int32) = nI 4 := rfl
theorem l_5 : (5 : Int32) = nI 5 := rfl
theorem l_6 : (6 : Int32) = nI 6 := rfl
theorem l_7 : (7 : Int32) = nI 7 := rfl
theorem l_8 : (8 : Int32) = nI 8 := rfl
theorem l_9 : (9 : Int32) = nI 9 := rfl
theorem l_10 : (10 : Int32) = nI 10 := rfl
theorem l_11 : (11 : Int32) = nI 11 := rfl
theorem l_12 : (12 : Int32) = nI 12 := rfl
theorem l_13 : (13 : Int32) = nI 13 := rfl
theorem l_14 : (14 : Int32) = nI 14 := rfl
theorem l_15 : (15 : Int32) = nI 15 := rfl
theorem l_16 : (16 : Int32) = nI 16 := rfl
theorem l_17 : (17 : Int32) = nI 17 := rfl
theorem l_18 : (18 : Int32) = nI 18 := rfl
theorem l_19 : (19 : Int32) = nI 19 := rfl
theorem l_20 : (20 : Int32) = nI 20 := rfl
theorem l_21 : (21 : Int32) = nI 21 := rfl
theorem l_22 : (22 : Int32) = nI 22 := rfl
theorem l_23 : (23 : Int32) = nI 23 := rfl
theorem l_24 : (24 : Int32) = nI 24 := rfl
theorem l_25 : (25 : Int32) = nI 25 := rfl
theorem l_26 : (26 : Int32) = nI 26 := rfl
theorem l_27 : (27 : Int32) = nI 27 := rfl
theorem l_28 : (28 : Int32) = nI 28 := rfl
theorem l_29 : (29 : Int32) = nI 29 := rfl
theorem l_30 : (30 : Int32) = nI 30 := rfl
theorem l_31 : (31 : Int32) = nI 31 := rfl
theorem l_32 : (32 : Int32) = nI 32 := rfl
theorem l_33 : (33 : Int32) = nI 33 := rfl
theorem l_34 : (34 : Int32) = nI 34 := rfl
theorem l_35 : (35 : Int32) = nI 35 := rfl
theorem l_36 : (36 : Int32) = nI 36 := rfl
theorem l_37 : (37 : Int32) = nI 37 := rfl
theorem l_38 : (38 : Int32) = nI 38 := rfl
theorem l_40 : (40 : Int32) = nI 40 := rfl
theorem l_41 : (41 : Int32) = nI 41 := rfl
theorem l_45 : (45 : Int32) = nI 45 := rfl
theorem l_48 : (48 : Int32) = nI 48 := rfl
theorem l_57 : (57 : Int32) = nI 57 := rfl
theorem l_58 : (58 : Int32) = nI 58 := rfl
theorem l_60 : (60 : Int32) = nI 60 := rfl
theorem l_61 : (61 : Int32) = nI 61 := rfl
theorem l_62 : (62 : Int32) = nI 62 := rfl
theorem l_63 : (63 : Int32) = nI 63 := rfl
theorem l_64 : (64 : Int32) = nI 64 := rfl
theorem l_71 : (71 : Int32) = nI 71 := rfl
theorem l_79 : (79 : Int32) = nI 79 := rfl
theorem l_80 : (80 : Int32) = nI 80 := rfl
theorem l_82 : (82 : Int32) = nI 82 := rfl
theorem l_83 : (83 : Int32) = nI 83 := rfl
theorem l_84 : (84 : Int32) = nI 84 := rfl
theorem l_87 : (87 : Int32) = nI 87 := rfl
theorem l_94 : (94 : Int32) = nI 94 := rfl
theorem l_99 : (99 : Int32) = nI 99 := rfl
theorem l_100 : (100 : Int32) = nI 100 := rfl
theorem l_124 : (124 : Int32) = nI 124 := rfl
theorem l_126 : (126 : Int32) = nI 126 := rfl
theorem l_127 : (127 : Int32) = nI 127 := rfl
theorem l_255 : (255 : Int32) = nI 255 := rfl
theorem l_256 : (256 : Int32) = nI 256 := rfl
theorem l_365 : (365 : Int32) = nI 365 := rfl
theorem l_366 : (366 : Int32) = nI 366 := rfl
theorem l_400 : (400 : Int32) = nI 400 := rfl
theorem l_1000 : (1000 : Int32) = nI 1000 := rfl
theorem l_1460 : (1460 : Int32) = nI 1460 := rfl
theorem l_1461 : (1461 : Int32) = nI 1461 := rfl
theorem l_2048 : (2048 : Int32) = nI 2048 := rfl
theorem l_8766 : (8766 : Int32) = nI 8766 := rfl
theorem l_9999 : (9999 : Int32) = nI 9999 := rfl
theorem l_12345 : (12345 : Int32) = nI 12345 := rfl
theorem l_17532 : (17532 : Int32) = nI 17532 := rfl
theorem l_65536 : (65536 : Int32) = nI 65536 := rfl
theorem mI_toInt {n : Nat} (h : n < 2147483648) : (mI n).toInt = -(n : Int) := by
  unfold mI
  rw [Int32.toInt_neg, nI_toInt h]
  exact Int.bmod_eq_of_le (by omega) (by omega)
theorem q_nm {a b : Nat} (ha : a < 2147483648) (hb : b < 2147483648) (h0 : 0 < b) : (nI a = mI b) = False := by
  apply propext
  constructor
  · intro e
    have e2 := congrArg Int32.toInt e
    rw [nI_toInt ha, mI_toInt hb] at e2
    omega
  · exact False.elim
theorem q_mn {a b : Nat} (ha : a < 2147483648) (hb : b < 2147483648) (h0 : 0 < b) : (mI b = nI a) = False := by
  apply propext
  constructor
  · intro e
    have e2 := congrArg Int32.toInt e
    rw [nI_toInt ha, mI_toInt hb] at e2
    omega
  · exact False.elim
theorem q_m {a b : Nat} (ha : a < 2147483648) (hb : b < 2147483648) : (mI a = mI b) = (a = b) := by
  apply propext
  constructor
  · intro e
    have e2 := congrArg Int32.toInt e
    rw [mI_toInt ha, mI_toInt hb] at e2
    omega
  · intro e; rw [e]
theorem q_am {a b : Nat} (h : b ≤ a) : nI a + mI b = nI (a - b) := by
  unfold mI
  rw [← Int32.sub_eq_add_neg]
  exact pk_sub h
theorem q_min {a b : Nat} (ha : a < 2147483648) (hb : b < 2147483648) : F_Jmath_min (nI a) (nI b) = nI (min a b) := by
  unfold F_Jmath_min
  simp only [q_lt hb ha]
  split
  · rw [Nat.min_eq_right (by omega)]
  · rw [Nat.min_eq_left (by omega)]
theorem q_max {a b : Nat} (ha : a < 2147483648) (hb : b < 2147483648) : F_Jmath_max (nI a) (nI b) = nI (max a b) := by
  unfold F_Jmath_max
  simp only [q_lt ha hb]
  split
  · rw [Nat.max_eq_right (by omega)]
  · rw [Nat.max_eq_left (by omega)]
/-- how many numbers below n have it -/
def cnt (P : Nat → Bool) : Nat → Nat
  | 0 => 0
  | n + 1 => cnt P n + (if P n = true then 1 else 0)
theorem cnt_congr {P Q : Nat → Bool} : ∀ (n : Nat), (∀ i, i < n → P i = Q i) → cnt P n = cnt Q n
  | 0, _ => rfl
  | n + 1, h => by
    show cnt P n + _ = cnt Q n + _
    rw [cnt_congr n (fun i hi => h i (by omega)), h n (by omega)]
theorem cnt_le (P : Nat → Bool) : ∀ (n : Nat), cnt P n ≤ n
  | 0 => Nat.le_refl 0
  | n + 1 => by
    show cnt P n + _ ≤ n + 1
    have := cnt_le P n
    split <;> omega
