/-! PURE: what doesn't hang on the learner's fields -/
section
variable {S S' : Nat → Nat → Int32}
theorem same_gp (h5 : S' 5 = S 5) : gp S' = gp S := by funext v n f; unfold gp; rw [h5]
theorem same_opn (h5 : S' 5 = S 5) : ∀ f, (fun v k n => opn S' v k n f) = (fun v k n => opn S v k n f)
  | 0 => rfl
  | f + 1 => by
    funext v k n
    have := congrFun (congrFun (congrFun (same_opn h5 f) v) k) n
    show (opn S' v k n f || (k.testBit f && gp S' v n f)) = (opn S v k n f || (k.testBit f && gp S v n f))
    rw [same_gp h5, this]
theorem same_opS (h5 : S' 5 = S 5) (h13 : S' 13 = S 13) : opS S' = opS S := by
  funext k p v n
  have := congrFun (congrFun (congrFun (same_opn h5 4) v) (mkS S k p)) n
  have e : mkS S' k p = mkS S k p := by unfold mkS; rw [h13]
  unfold opS
  rw [e]; exact this
theorem same_hld (h5 : S' 5 = S 5) (h14 : S' 14 = S 14) (h15 : S' 15 = S 15) (h16 : S' 16 = S 16) : hld S' = hld S := by
  funext k p v n
  have e1 : prog S' k p = prog S k p := by unfold prog; rw [h14, h15, h16]
  have e2 : cR S' v n = cR S v n := by funext m z; unfold cR cmS; rw [h5]
  unfold hld
  rw [e1, e2]
theorem same_sea (h0 : S' 0 0 = S 0 0) (h1 : S' 1 = S 1) (h2 : S' 2 = S 2) (h3 : S' 3 = S 3) (h4 : S' 4 = S 4) : sea S' = sea S := by
  have e : sF S' = sF S := by unfold sF; rw [h0]
  have ef : feS S' = feS S := by funext s y; unfold feS; simp only [h1, h2, h3, h4, e]
  have e4 : ∀ s n k, fst4 S' s n k = fst4 S s n k := by
    intro s n k
    induction k with
    | zero => rfl
    | succ k ih => unfold fst4; rw [ih, ef]
  funext a b c n
  unfold sea
  rw [e, e4]
theorem same_tel (h0 : S' 0 0 = S 0 0) (hr : ∀ r, 1 ≤ r → r ≤ 16 → S' r = S r) : tel S' = tel S := by
  funext v k n
  have e : seS S' k n = seS S k n := by unfold seS; rw [hr 13 (by omega) (by omega), same_sea h0 (hr 1 (by omega) (by omega)) (hr 2 (by omega) (by omega)) (hr 3 (by omega) (by omega)) (hr 4 (by omega) (by omega))]
  unfold tel
  rw [e, same_hld (hr 5 (by omega) (by omega)) (hr 14 (by omega) (by omega)) (hr 15 (by omega) (by omega)) (hr 16 (by omega) (by omega)), same_opS (hr 5 (by omega) (by omega)) (hr 13 (by omega) (by omega))]
theorem same_sk (hr : ∀ r, 1 ≤ r → r ≤ 16 → S' r = S r) : sk S' = sk S ∧ sw S' = sw S := by
  have e1 := same_hld (hr 5 (by omega) (by omega)) (hr 14 (by omega) (by omega)) (hr 15 (by omega) (by omega)) (hr 16 (by omega) (by omega))
  have e2 := same_opS (hr 5 (by omega) (by omega)) (hr 13 (by omega) (by omega))
  have e3 : spA S' = spA S := by funext k; unfold spA; rw [hr 13 (by omega) (by omega)]
  have e4 : spB S' = spB S := by funext k; unfold spB; rw [hr 13 (by omega) (by omega)]
  have e5 : isAl S' = isAl S := by funext k; unfold isAl; rw [hr 13 (by omega) (by omega)]
  constructor
  · funext k v n; unfold sk; rw [e2, e3, e4]
  · funext k v n; unfold sw; rw [e1, e3, e4, e5]
theorem same_tru (hr : ∀ r, 1 ≤ r → r ≤ 16 → S' r = S r) : tru S' = tru S := by
  funext v s n; unfold tru; rw [(same_sk hr).1, (same_sk hr).2]
theorem same_lrn (h0 : S' 0 0 = S 0 0) (hr : ∀ r, 1 ≤ r → r ≤ 16 → S' r = S r) : lrn S' = lrn S := by
  have e : sF S' = sF S := by unfold sF; rw [h0]
  funext v s a n; unfold lrn; rw [(same_sk hr).1, e]
end
