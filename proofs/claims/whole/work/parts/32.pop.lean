/-! PURE: Long.bitCount counts the bits -/
def dg (B : Nat) (f : Nat → Nat) : Nat → Nat
  | 0 => 0
  | n + 1 => f 0 + B * dg B (fun i => f (i + 1)) n
theorem dg_s (B : Nat) (f : Nat → Nat) (n : Nat) : dg B f (n + 1) = f 0 + B * dg B (fun i => f (i + 1)) n := rfl
theorem dg_congr (B : Nat) : ∀ (n : Nat) (f g : Nat → Nat), (∀ i, f i = g i) → dg B f n = dg B g n := fun n f g h => by rw [show f = g from funext h]
theorem dg_add (B : Nat) : ∀ (n : Nat) (f g : Nat → Nat), dg B f n + dg B g n = dg B (fun i => f i + g i) n
  | 0, _, _ => rfl
  | n + 1, f, g => by
    rw [dg_s, dg_s, dg_s, ← dg_add B n, Nat.mul_add]; omega
theorem dg_sub (B n : Nat) (f g : Nat → Nat) (h : ∀ i, g i ≤ f i) : dg B f n - dg B g n = dg B (fun i => f i - g i) n := by
  have := dg_add B n g (fun i => f i - g i)
  rw [dg_congr B n (fun i => g i + (f i - g i)) f (fun i => by have := h i; omega)] at this
  omega
theorem dg_pair (B : Nat) : ∀ (n : Nat) (f : Nat → Nat), dg B f (2 * n) = dg (B * B) (fun i => f (2 * i) + B * f (2 * i + 1)) n
  | 0, _ => rfl
  | n + 1, f => by
    rw [show 2 * (n + 1) = 2 * n + 1 + 1 by omega, dg_s, dg_s, dg_s, dg_pair B n]
    rw [Nat.mul_add, ← Nat.mul_assoc, ← Nat.add_assoc]
    rfl
theorem dg_zero (B m : Nat) : ∀ (n : Nat) (f : Nat → Nat), (∀ i, n ≤ i → f i = 0) → dg B f (n + m) = dg B f n
  | 0, f, h => by
    have h0 : ∀ (m : Nat) (f : Nat → Nat), (∀ i, f i = 0) → dg B f m = 0 := by
      intro m
      induction m with
      | zero => intro f _; rfl
      | succ m ih => intro f hf; rw [dg_s, hf 0, ih _ (fun i => hf (i + 1))]; omega
    rw [Nat.zero_add, h0 m f (fun i => h i (by omega))]; rfl
  | n + 1, f, h => by
    rw [show n + 1 + m = n + m + 1 by omega, dg_s, dg_s, dg_zero B m n _ (fun i hi => h (i + 1) (by omega))]
theorem dg_div {B : Nat} (f : Nat → Nat) (n : Nat) (h : f 0 < B) : dg B f (n + 1) / B = dg B (fun i => f (i + 1)) n := by
  rw [dg_s, Nat.add_mul_div_left _ _ (by omega), Nat.div_eq_of_lt h, Nat.zero_add]
theorem and_split {s a c A C : Nat} (ha : a < 2 ^ s) (hc : c < 2 ^ s) : (a + 2 ^ s * A) &&& (c + 2 ^ s * C) = (a &&& c) + 2 ^ s * (A &&& C) := by
  apply Nat.eq_of_testBit_eq
  intro j
  rw [Nat.add_comm a, Nat.add_comm c, Nat.add_comm (a &&& c), Nat.testBit_and, Nat.testBit_two_pow_mul_add _ ha, Nat.testBit_two_pow_mul_add _ hc, Nat.testBit_two_pow_mul_add _ (Nat.and_lt_two_pow _ hc)]
  split
  · rw [Nat.testBit_and]
  · rw [Nat.testBit_and]
theorem dg_mask (s : Nat) : ∀ (n : Nat) (f : Nat → Nat), (∀ i, f i < 2 ^ s) → dg (2 ^ s) f (2 * n) &&& dg (2 ^ s * 2 ^ s) (fun _ => 2 ^ s - 1) n = dg (2 ^ s * 2 ^ s) (fun i => f (2 * i)) n
  | 0, _, _ => by show 0 &&& 0 = 0; rfl
  | n + 1, f, h => by
    have hp : 0 < 2 ^ s := Nat.two_pow_pos s
    have h0 := h 0
    rw [show 2 * (n + 1) = 2 * n + 1 + 1 by omega, dg_s (2 ^ s) f, dg_s (2 ^ s * 2 ^ s), dg_s (2 ^ s * 2 ^ s), Nat.mul_assoc, Nat.mul_assoc, and_split (by omega) (by omega), dg_s]
    rw [Nat.and_two_pow_sub_one_eq_mod, Nat.mod_eq_of_lt h0]
    have e : (f (0 + 1) + 2 ^ s * dg (2 ^ s) (fun i => f (i + 1 + 1)) (2 * n)) &&& (2 ^ s * dg (2 ^ s * 2 ^ s) (fun _ => 2 ^ s - 1) n) = 2 ^ s * dg (2 ^ s * 2 ^ s) (fun i => f (2 * (i + 1))) n := by
      have e2 := and_split (s := s) (a := f (0 + 1)) (c := 0) (A := dg (2 ^ s) (fun i => f (i + 1 + 1)) (2 * n)) (C := dg (2 ^ s * 2 ^ s) (fun _ => 2 ^ s - 1) n) (h _) hp
      rw [Nat.zero_add, Nat.and_zero, dg_mask s n _ (fun i => h _)] at e2
      simp only [Nat.zero_add] at e2 ⊢
      exact e2
    rw [e]
theorem dg_bits : ∀ (n X : Nat), X < 2 ^ n → X = dg 2 (fun j => (X.testBit j).toNat) n
  | 0, X, h => by show X = 0; have : X < 1 := h; omega
  | n + 1, X, h => by
    rw [dg_s]
    have e : dg 2 (fun i => (X.testBit (i + 1)).toNat) n = X / 2 := by
      rw [dg_congr 2 n _ (fun j => ((X / 2).testBit j).toNat) (fun i => by rw [Nat.testBit_succ])]
      exact (dg_bits n (X / 2) (by rw [Nat.pow_succ] at h; omega)).symm
    rw [e, Nat.testBit_zero]
    have := Nat.mod_two_eq_zero_or_one X
    rcases this with h1 | h1 <;> simp [h1] <;> omega
def U6 (x : Int64) : Nat := x.toBitVec.toNat
theorem U6_lt (x : Int64) : U6 x < 2 ^ 64 := x.toBitVec.isLt
theorem U6_and (x y : Int64) : U6 (x &&& y) = U6 x &&& U6 y := by unfold U6; rw [Int64.toBitVec_and, BitVec.toNat_and]
theorem U6_shr (x : Int64) {k : Nat} (hk : k < 64) : U6 (lshr6 x (nI k)) = U6 x / 2 ^ k := by
  have h1 : ∀ k, k < 64 → (((nI k).toInt64.toUInt64 &&& Int64.toUInt64 63).toBitVec % 64).toNat = k := by decide +kernel
  unfold U6 lshr6
  show ((x.toUInt64 >>> ((nI k).toInt64.toUInt64 &&& Int64.toUInt64 63)).toBitVec).toNat = x.toUInt64.toBitVec.toNat / 2 ^ k
  rw [UInt64.toBitVec_shiftRight, BitVec.ushiftRight_eq', h1 k hk, BitVec.toNat_ushiftRight, Nat.shiftRight_eq_div_pow]
theorem U6_add {x y : Int64} (h : U6 x + U6 y < 2 ^ 64) : U6 (x + y) = U6 x + U6 y := by
  unfold U6 at *
  rw [Int64.toBitVec_add, BitVec.toNat_add_of_lt h]
theorem U6_sub {x y : Int64} (h : U6 y ≤ U6 x) : U6 (x - y) = U6 x - U6 y := by
  unfold U6 at *
  rw [Int64.toBitVec_sub, BitVec.toNat_sub_of_le h]
theorem dg_le (B : Nat) : ∀ (n : Nat) (f g : Nat → Nat), (∀ i, f i ≤ g i) → dg B f n ≤ dg B g n
  | 0, _, _, _ => Nat.le_refl _
  | n + 1, f, g, h => by
    rw [dg_s, dg_s]
    exact Nat.add_le_add (h 0) (Nat.mul_le_mul_left _ (dg_le B n _ _ (fun i => h _)))
theorem pop_low (v : Int64) : (Int64.toInt32 v &&& 127) = nI (U6 v % 128) := by
  apply Int32.toBitVec_inj.mp
  apply BitVec.eq_of_getLsbD_eq
  intro j hj
  rw [Int32.toBitVec_and, BitVec.getLsbD_and, Int64.toBitVec_toInt32, BitVec.getLsbD_signExtend]
  show (_ && (BitVec.ofNat 32 (2 ^ 7 - 1)).getLsbD j) = (BitVec.ofNat 32 (U6 v % 2 ^ 7)).getLsbD j
  rw [BitVec.getLsbD_ofNat, BitVec.getLsbD_ofNat, Nat.testBit_two_pow_sub_one, Nat.testBit_mod_two_pow, if_pos (by omega)]
  unfold U6
  rw [BitVec.testBit_toNat]
  by_cases h : j < 7 <;> simp [h, hj]
theorem pop (x : Int64) : F_Jlong_bitCount x = nI (cnt (bt x) 64) := by
  unfold F_Jlong_bitCount F_Jlong_bitCount_10 F_Jlong_bitCount_24 F_Jlong_bitCount_34 F_Jlong_bitCount_41 F_Jlong_bitCount_48 F_Jlong_bitCount_55
  simp only [qL]
  generalize hb : (fun j => ((U6 x).testBit j).toNat) = b
  have hb1 : ∀ i, b i ≤ 1 := fun i => by rw [← hb]; exact Bool.toNat_le _
  have hb0 : ∀ i, 64 ≤ i → b i = 0 := fun i hi => by
    rw [← hb]
    show (Nat.testBit (U6 x) i).toNat = 0
    rw [Nat.testBit_lt_two_pow (Nat.lt_of_lt_of_le (U6_lt x) (Nat.pow_le_pow_right (by omega) hi))]; rfl
  have X64 : U6 x = dg 2 b 64 := by rw [← hb]; exact dg_bits 64 _ (U6_lt x)
  have X65 : U6 x = dg 2 b 65 := by rw [X64]; exact (dg_zero 2 1 64 b hb0).symm
  have M1 : U6 6148914691236517205 = dg (2 ^ 1 * 2 ^ 1) (fun _ => 2 ^ 1 - 1) 32 := by decide +kernel
  have M2 : U6 3689348814741910323 = dg (2 ^ 2 * 2 ^ 2) (fun _ => 2 ^ 2 - 1) 16 := by decide +kernel
  have M4 : U6 1085102592571150095 = dg (2 ^ 4 * 2 ^ 4) (fun _ => 2 ^ 4 - 1) 8 := by decide +kernel
  have e1 : U6 (lshr6 x (nI 1) &&& 6148914691236517205) = dg 4 (fun i => b (2 * i + 1)) 32 := by
    rw [U6_and, U6_shr x (by omega), X65, show (2 : Nat) ^ 1 = 2 from rfl, dg_div b 64 (by have := hb1 0; omega), M1]
    exact dg_mask 1 32 (fun i => b (i + 1)) (fun i => by have := hb1 (i + 1); omega)
  have X4 : U6 x = dg 4 (fun i => b (2 * i) + 2 * b (2 * i + 1)) 32 := by rw [X64]; exact dg_pair 2 32 b
  generalize hd : (fun i => b (2 * i) + b (2 * i + 1)) = d
  have hd2 : ∀ i, d i ≤ 2 := fun i => by rw [← hd]; have h1 := hb1 (2 * i); have h2 := hb1 (2 * i + 1); show b (2 * i) + b (2 * i + 1) ≤ 2; omega
  have hd0 : ∀ i, 32 ≤ i → d i = 0 := fun i hi => by rw [← hd]; show b (2 * i) + b (2 * i + 1) = 0; rw [hb0 _ (by omega), hb0 _ (by omega)]
  have eY : U6 (x - (lshr6 x (nI 1) &&& 6148914691236517205)) = dg 4 d 32 := by
    have hle : dg 4 (fun i => b (2 * i + 1)) 32 ≤ dg 4 (fun i => b (2 * i) + 2 * b (2 * i + 1)) 32 := dg_le 4 32 _ _ (fun i => by omega)
    rw [U6_sub (by rw [e1, X4]; exact hle), e1, X4, dg_sub 4 32 _ _ (fun i => by omega)]
    exact dg_congr 4 32 _ _ (fun i => by rw [← hd]; show b (2 * i) + 2 * b (2 * i + 1) - b (2 * i + 1) = b (2 * i) + b (2 * i + 1); omega)
  generalize (x - (lshr6 x (nI 1) &&& 6148914691236517205)) = Y at eY ⊢
  have Y33 : U6 Y = dg 4 d 33 := by rw [eY]; exact (dg_zero 4 1 32 d hd0).symm
  have f1 : U6 (Y &&& 3689348814741910323) = dg 16 (fun i => d (2 * i)) 16 := by
    rw [U6_and, eY, M2]
    exact dg_mask 2 16 d (fun i => by have := hd2 i; omega)
  have f2 : U6 (lshr6 Y (nI 2) &&& 3689348814741910323) = dg 16 (fun i => d (2 * i + 1)) 16 := by
    rw [U6_and, U6_shr Y (by omega), Y33, show (2 : Nat) ^ 2 = 4 from rfl, dg_div d 32 (by have := hd2 0; omega), M2]
    exact dg_mask 2 16 (fun i => d (i + 1)) (fun i => by have := hd2 (i + 1); omega)
  generalize he : (fun i => d (2 * i) + d (2 * i + 1)) = e
  have he4 : ∀ i, e i ≤ 4 := fun i => by rw [← he]; have h1 := hd2 (2 * i); have h2 := hd2 (2 * i + 1); show d (2 * i) + d (2 * i + 1) ≤ 4; omega
  have he0 : ∀ i, 16 ≤ i → e i = 0 := fun i hi => by rw [← he]; show d (2 * i) + d (2 * i + 1) = 0; rw [hd0 _ (by omega), hd0 _ (by omega)]
  have bnd : ∀ (f : Nat → Nat), (∀ i, f i ≤ 15) → dg 16 f 16 < 2 ^ 64 := fun f hf =>
    Nat.lt_of_le_of_lt (dg_le 16 16 f (fun _ => 15) hf) (by decide +kernel)
  have bnd8 : ∀ (f : Nat → Nat), (∀ i, f i ≤ 255) → dg 256 f 8 < 2 ^ 64 := fun f hf =>
    Nat.lt_of_le_of_lt (dg_le 256 8 f (fun _ => 255) hf) (by decide +kernel)
  have eZ : U6 ((Y &&& 3689348814741910323) + (lshr6 Y (nI 2) &&& 3689348814741910323)) = dg 16 e 16 := by
    have es : dg 16 (fun i => d (2 * i)) 16 + dg 16 (fun i => d (2 * i + 1)) 16 = dg 16 e 16 := by rw [dg_add, ← he]
    rw [U6_add (by rw [f1, f2, es]; exact bnd e (fun i => by have := he4 i; omega)), f1, f2, es]
  generalize ((Y &&& 3689348814741910323) + (lshr6 Y (nI 2) &&& 3689348814741910323)) = Z at eZ ⊢
  have g1 : U6 (lshr6 Z (nI 4)) = dg 16 (fun i => e (i + 1)) 16 := by
    rw [U6_shr Z (by omega), show U6 Z = dg 16 e 17 from by rw [eZ]; exact (dg_zero 16 1 16 e he0).symm]
    exact dg_div e 16 (by have := he4 0; omega)
  have eV : U6 ((Z + lshr6 Z (nI 4)) &&& 1085102592571150095) = dg 256 (fun i => e (2 * i) + e (2 * i + 1)) 8 := by
    have es : dg 16 e 16 + dg 16 (fun i => e (i + 1)) 16 = dg 16 (fun i => e i + e (i + 1)) 16 := dg_add _ _ _ _
    rw [U6_and, U6_add (by rw [eZ, g1, es]; exact bnd _ (fun i => by have := he4 i; have := he4 (i + 1); omega)), eZ, g1, es, M4]
    exact dg_mask 4 8 (fun i => e i + e (i + 1)) (fun i => by have := he4 i; have := he4 (i + 1); omega)
  generalize ((Z + lshr6 Z (nI 4)) &&& 1085102592571150095) = V at eV ⊢
  generalize hg : (fun i => e (2 * i) + e (2 * i + 1)) = g at eV
  have hg8 : ∀ i, g i ≤ 8 := fun i => by rw [← hg]; have h1 := he4 (2 * i); have h2 := he4 (2 * i + 1); show e (2 * i) + e (2 * i + 1) ≤ 8; omega
  have hg0 : ∀ i, 8 ≤ i → g i = 0 := fun i hi => by rw [← hg]; show e (2 * i) + e (2 * i + 1) = 0; rw [he0 _ (by omega), he0 _ (by omega)]
  have sh : ∀ (m : Nat) (f : Nat → Nat), (∀ i, f i ≤ 255) → (∀ i, 8 ≤ i → f i = 0) → m ≤ 8 → dg 256 f 8 / 256 ^ m = dg 256 (fun i => f (i + m)) 8 := by
    intro m
    induction m with
    | zero => intro f _ _ _; simp
    | succ m ih =>
      intro f hf h0 hm
      rw [Nat.pow_succ, Nat.mul_comm, ← Nat.div_div_eq_div_mul, show dg 256 f 8 = dg 256 f 9 from (dg_zero 256 1 8 f h0).symm, dg_div f 8 (by have := hf 0; omega), ih (fun i => f (i + 1)) (fun i => hf _) (fun i hi => h0 _ (by omega)) (by omega)]
      exact dg_congr 256 8 _ _ (fun i => by show f (i + m + 1) = f (i + (m + 1)); rfl)
  have a1 : U6 (V + lshr6 V (nI 8)) = dg 256 (fun i => g i + g (i + 1)) 8 := by
    have es : U6 (lshr6 V (nI 8)) = dg 256 (fun i => g (i + 1)) 8 := by
      rw [U6_shr V (by omega), eV]; exact sh 1 g (fun i => by have := hg8 i; omega) hg0 (by omega)
    rw [U6_add (by rw [eV, es, dg_add]; exact bnd8 _ (fun i => by have := hg8 i; have := hg8 (i + 1); omega)), eV, es, dg_add]
  generalize (V + lshr6 V (nI 8)) = V1 at a1 ⊢
  generalize hh : (fun i => g i + g (i + 1)) = h at a1
  have hh8 : ∀ i, h i ≤ 16 := fun i => by rw [← hh]; have h1 := hg8 i; have h2 := hg8 (i + 1); show g i + g (i + 1) ≤ 16; omega
  have hh0 : ∀ i, 8 ≤ i → h i = 0 := fun i hi => by rw [← hh]; show g i + g (i + 1) = 0; rw [hg0 _ (by omega), hg0 _ (by omega)]
  have a2 : U6 (V1 + lshr6 V1 (nI 16)) = dg 256 (fun i => h i + h (i + 2)) 8 := by
    have es : U6 (lshr6 V1 (nI 16)) = dg 256 (fun i => h (i + 2)) 8 := by
      rw [U6_shr V1 (by omega), a1]; exact sh 2 h (fun i => by have := hh8 i; omega) hh0 (by omega)
    rw [U6_add (by rw [a1, es, dg_add]; exact bnd8 _ (fun i => by have := hh8 i; have := hh8 (i + 2); omega)), a1, es, dg_add]
  generalize (V1 + lshr6 V1 (nI 16)) = V2 at a2 ⊢
  generalize hk : (fun i => h i + h (i + 2)) = k at a2
  have hk8 : ∀ i, k i ≤ 32 := fun i => by rw [← hk]; have h1 := hh8 i; have h2 := hh8 (i + 2); show h i + h (i + 2) ≤ 32; omega
  have hk0 : ∀ i, 8 ≤ i → k i = 0 := fun i hi => by rw [← hk]; show h i + h (i + 2) = 0; rw [hh0 _ (by omega), hh0 _ (by omega)]
  have a3 : U6 (V2 + lshr6 V2 (nI 32)) = dg 256 (fun i => k i + k (i + 4)) 8 := by
    have es : U6 (lshr6 V2 (nI 32)) = dg 256 (fun i => k (i + 4)) 8 := by
      rw [U6_shr V2 (by omega), a2]; exact sh 4 k (fun i => by have := hk8 i; omega) hk0 (by omega)
    rw [U6_add (by rw [a2, es, dg_add]; exact bnd8 _ (fun i => by have := hk8 i; have := hk8 (i + 4); omega)), a2, es, dg_add]
  rw [← l_127, pop_low, a3, dg_s]
  refine congrArg nI ?_
  have k04 : k 0 + k (0 + 4) = cnt (bt x) 64 := by
    have eb : ∀ j, b j = if bt x j = true then 1 else 0 := fun j => by
      rw [← hb]
      show (Nat.testBit (U6 x) j).toNat = _
      unfold U6 bt
      rw [BitVec.testBit_toNat]
      cases x.toBitVec.getLsbD j <;> rfl
    simp only [← hk, ← hh, ← hg, ← he, ← hd, cnt, ← eb, Nat.zero_add, Nat.reduceMul, Nat.reduceAdd, Nat.mul_zero]
    omega
  have hc := cnt_le (bt x) 64
  show (k 0 + k (0 + 4) + 256 * _) % 128 = _
  rw [k04]
  omega
