/-! PURE: the reference learns: what comes, what it tells -/
def FS (S S' : Nat → Nat → Int32) : Prop := ∀ r, r ≠ 23 → r ≠ 24 → S' r = S r
theorem FS.refl (S : Nat → Nat → Int32) : FS S S := fun _ _ _ => rfl
theorem FS.up {S S' : Nat → Nat → Int32} (h : FS S S') (r i : Nat) (x : Int32) (hr : r = 23 ∨ r = 24) : FS S (uS S' r i x) := fun q h1 h2 => by rw [uS_ne (by omega)]; exact h q h1 h2
def cm (S : Nat → Nat → Int32) (v n : Nat) : Nat → Nat
  | 0 => 0
  | k + 1 => cm S v n k + (if tel S v k n = true then 2 ^ k else 0)
theorem cm_lt (S : Nat → Nat → Int32) (v n : Nat) : ∀ k, cm S v n k < 2 ^ k
  | 0 => by show 0 < 1; omega
  | k + 1 => by
    have := cm_lt S v n k
    unfold cm
    split <;> (rw [Nat.pow_succ]; omega)
theorem cm_tb (S : Nat → Nat → Int32) (v n : Nat) : ∀ k j, j < k → (cm S v n k).testBit j = tel S v j n
  | 0, j, h => by omega
  | k + 1, j, h => by
    have hl := cm_lt S v n k
    unfold cm
    by_cases e : j = k
    · subst e
      cases ht : tel S v j n
      · rw [if_neg (by simp), Nat.add_zero, Nat.testBit_lt_two_pow hl]
      · rw [if_pos rfl, Nat.add_comm, Nat.testBit_two_pow_add_eq, Nat.testBit_lt_two_pow hl]; rfl
    · rw [← cm_tb S v n k j (by omega)]
      split
      · rw [Nat.add_comm, Nat.testBit_two_pow_add_gt (by omega)]
      · rw [Nat.add_zero]
theorem q_shl : ∀ k, k < 8 → nI 1 <<< (nI k &&& nI 31) = nI (2 ^ k) := by decide +kernel
theorem q_or {a b : Nat} : nI a ||| nI b = nI (a ||| b) := by
  apply Int32.toBitVec_inj.mp
  rw [Int32.toBitVec_or]
  apply BitVec.eq_of_toNat_eq
  unfold nI
  simp only [Int32.toBitVec_ofNat', BitVec.toNat_or, BitVec.toNat_ofNat]
  exact (Nat.or_mod_two_pow).symm
theorem cm_or {c k : Nat} (hk : k < 8) (hc : c < 2 ^ k) : nI c ||| (nI 1 <<< (nI k &&& nI 31)) = nI (c + 2 ^ k) := by
  rw [q_shl k hk, q_or]
  have := Nat.two_pow_add_eq_or_of_lt hc 1
  rw [Nat.mul_one] at this
  rw [Nat.or_comm, ← this, Nat.add_comm]
theorem cm_s (S : Nat → Nat → Int32) (v n k : Nat) : cm S v n (k + 1) = cm S v n k + (if tel S v k n = true then 2 ^ k else 0) := rfl
section
variable {L : Nat} {xs : Nat → Int32} {S : Nat → Nat → Int32}
theorem fI_1t (S : Nat → Nat → Int32) (k v n : Nat) : (fI S k v n = nI 1) = ((hld S k 0 v n && !opS S k 0 v n) = true) := by
  unfold fI
  cases opS S k 0 v n <;> cases hld S k 0 v n <;> decide +kernel
theorem M_fill1 {v s n : Nat} (If : IMf S) (Ic : IMs S) (Is : IMsy S) (hv : v < 3) (hn : n < 1461) (X2 X3 X4 : Int32) (rec71 : Nat → Int32 → Int32 → Int32 → Int32 → Int32 → AW → Option (Int32 × AW)) : ∀ j fu k (u : AW) (S' : Nat → Nat → Int32), Top L xs u → FS S S' → RA S' u → (∀ i, i < n + 1 → S' 24 i = sI S s v i) → (∀ i, i < n → S' 23 i = nI (cm S v i (nS S))) → S' 23 n = nI (cm S v n k) → k + j = nS S → j < fu → ∃ u' S'', F_M_learn_105 rec71 fu 271 (nI v) X2 X3 X4 (nI n) (nI k) u = rec71 271 (nI v) X2 X3 X4 (nI (n + 1)) u' ∧ AF u u' ∧ FS S S'' ∧ RA S'' u' ∧ (∀ i, i < n + 1 → S'' 24 i = sI S s v i) ∧ (∀ i, i < n + 1 → S'' 23 i = nI (cm S v i (nS S))) := by
  intro j
  induction j with
  | zero =>
    intro fu k u S' T hF R h24 h23 hk0 hk hf
    obtain ⟨fu, rfl⟩ : ∃ m, fu = m + 1 := ⟨fu - 1, by omega⟩
    obtain rfl : k = nS S := by omega
    have h8 := Is.2.1
    have e0 := hF 0 (by omega) (by omega)
    refine ⟨u, S', ?_, AF.refl u, hF, R, h24, fun i hi => ?_⟩
    · show F_M_learn_105_B rec71 (F_M_learn_105 rec71 fu) _ _ _ _ _ _ _ u = _
      unfold F_M_learn_105_B
      simp (disch := omega) only [qL, ↓qM, mK T, rf29 R, e0, Is.1, q_le, nI_add, gd_true, beq_self_eq_true, bd_s, if_true, if_false, ↓reduceIte, ite_true, ite_false, Bool.and_self, Bool.and_true, Bool.true_and, Nat.reduceBEq, Bool.or_true, Bool.true_or, Bool.or_self]
      rw [if_pos (Nat.le_refl _)]
    · by_cases e : i = n
      · rw [e]; exact hk0
      · exact h23 i (by omega)
  | succ j ih =>
    intro fu k u S' T hF R h24 h23 hk0 hk hf
    obtain ⟨fu, rfl⟩ : ∃ m, fu = m + 1 := ⟨fu - 1, by omega⟩
    have h8 := Is.2.1
    have e0 := hF 0 (by omega) (by omega)
    have er : ∀ r, 1 ≤ r → r ≤ 16 → S' r = S r := fun r h1 h2 => hF r (by omega) (by omega)
    have hk8 : k < 8 := by omega
    have Ik : IMk S' k := IMk_S (er 13 (by omega) (by omega)) (er 14 (by omega) (by omega)) (er 15 (by omega) (by omega)) (er 16 (by omega) (by omega)) (Is.2.2 k (by omega))
    have If' : IMf S' := IMf_S (by rw [e0]) If
    have Ic' : IMs S' := IMs_S (er 1 (by omega) (by omega)) (er 2 (by omega) (by omega)) (er 3 (by omega) (by omega)) (er 4 (by omega) (by omega)) Ic
    obtain ⟨u1, p1, q1⟩ := M_firstOf T R hk8 hv hn Ik
    have T1 := T.sh q1.1.sh
    have p2 := M_isInSeason T1 q1.2 If' Ic' hk8 hn Ik
    have htel : tel S v k n = (seS S' k n && (hld S' k 0 v n && !opS S' k 0 v n)) := by
      rw [← same_tel (S := S) (S' := S') (by rw [e0]) er]; rfl
    have hlt := cm_lt S v n k
    have key : ∃ u2, F_M_learn_105 rec71 (fu + 1) 271 (nI v) X2 X3 X4 (nI n) (nI k) u = F_M_learn_105 rec71 fu 271 (nI v) X2 X3 X4 (nI n) (nI (k + 1)) u2 ∧ AF u u2 ∧ RA (uS S' 23 n (nI (cm S v n (k + 1)))) u2 := by
      have R2 := q1.2.up 23 n (nI (cm S v n (k + 1))) (by decide)
      refine ⟨_, ?_, q1.1.trans (AF.upI u1 _ _ (by omega)), R2⟩
      show F_M_learn_105_B rec71 (F_M_learn_105 rec71 fu) _ _ _ _ _ _ _ u = _
      unfold F_M_learn_105_B F_M_learn_153
      simp (disch := omega) only [qL, ↓qM, mK T, mLrn T, rf29 R, e0, Is.1, q_le, q_inb, q_nat, p1, fI_1t, mK T1, p2, q_b0, mLrn T1, ra23 R, hk0, nI_add, gd_true, beq_self_eq_true, bd_s, if_true, if_false, ↓reduceIte, ite_true, ite_false, Bool.and_self, Bool.and_true, Bool.true_and, Nat.reduceBEq, Bool.or_true, Bool.true_or, Bool.or_self]
      rw [if_neg (by omega)]
      by_cases h1 : (hld S' k 0 v n && !opS S' k 0 v n) = true
      · rw [if_pos h1]
        by_cases h2 : seS S' k n = false
        · rw [if_pos h2]
          have hq : tel S v k n = false := by rw [htel, h2]; rfl
          have ht : cm S v n (k + 1) = cm S v n k := by rw [cm_s, hq]; rfl
          rw [ht, q_or, Nat.or_zero]
        · rw [if_neg h2]
          have hq : tel S v k n = true := by rw [htel, h1]; simp at h2; rw [h2]; rfl
          have ht : cm S v n (k + 1) = cm S v n k + 2 ^ k := by rw [cm_s, hq]; rfl
          rw [cm_or hk8 hlt, ht]
      · rw [if_neg h1]
        have hq : tel S v k n = false := by rw [htel, Bool.eq_false_iff.mpr h1, Bool.and_false]
        have ht : cm S v n (k + 1) = cm S v n k := by rw [cm_s, hq]; rfl
        rw [ht, q_or, Nat.or_zero]
    obtain ⟨u2, k1, k2, k3⟩ := key
    obtain ⟨u', S'', o1, o2, o3⟩ := ih fu (k + 1) u2 _ (T.sh k2.sh) (hF.up 23 n _ (.inl rfl)) k3 (fun i hi => by rw [uS_ne (by omega)]; exact h24 i hi) (fun i hi => by rw [uS_nei (.inr (by omega))]; exact h23 i hi) uS_eq (by omega) (by omega)
    exact ⟨u', S'', k1.trans o1, k2.trans o2, o3⟩
end
