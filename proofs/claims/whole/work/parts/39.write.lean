/-! PURE: writing a year into a diary -/
theorem RA.up {S : Nat → Nat → Int32} {w : AW} (h : RA S w) (r i : Nat) (x : Int32) (hr : 1 ≤ r ∧ KRow r = true) : RA (uS S r i x) (upI w (271 + r) i x) := by
  rw [← show RS w = S from h]
  show RS _ = uS (RS w) r i x
  unfold RS uS
  funext q j
  simp only [wi_upI]
  by_cases h0 : q = 0
  · rw [if_pos h0, if_neg (fun e : q = r ∧ j = i => by omega), if_pos h0, if_neg (fun e : 271 = 271 + r ∧ j = i => by omega)]
  · rw [if_neg h0]
    by_cases h1 : q = r ∧ j = i
    · rw [if_pos h1, h1.1, if_pos hr.2, if_pos ⟨rfl, h1.2⟩]
    · rw [if_neg h1, if_neg h0, if_neg (fun e : 271 + q = 271 + r ∧ j = i => h1 ⟨by omega, e.2⟩)]
theorem RA.upK {S : Nat → Nat → Int32} {w : AW} (h : RA S w) (i : Nat) (x : Int32) (hi : KFld i = true) : RA (uS S 0 i x) (upI w 271 i x) := by
  rw [← show RS w = S from h]
  show RS _ = uS (RS w) 0 i x
  unfold RS uS
  funext q j
  simp only [wi_upI]
  by_cases h0 : q = 0
  · subst h0
    rw [if_pos rfl]
    by_cases h1 : j = i
    · subst h1; simp [hi]
    · simp [h1]
  · rw [if_neg h0, if_neg (by omega : ¬ (q = 0 ∧ j = i)), if_neg h0, if_neg (by omega : ¬ (271 + q = 271 ∧ j = i))]
theorem wgap_cond {g : Nat} (x : Int32) (hg : g ≤ 1000) : (irem (x / nI 256) (nI g) = nI 0) = (decide (irem (x / nI 256) (nI g) = nI 0) = true) := by simp
theorem A_write_step {L : Nat} {xs : Nat → Int32} {w : AW} (T : Top L xs w) (rec6 : Nat → Int32 → Int32 → Int32 → Int32 → AW → Option AW) (rec15 : Nat → Int32 → Int32 → Int32 → Int32 → Int32 → AW → Option AW) {v n f g t : Nat} (x : Int32) (X2 : Int32) (hv : v < 3) (hf : f < 4) (hg : g ≤ 1000) (ht : t % 4 = f) : F_Di_writeDays_15_B rec6 rec15 (179 + 2 * v) X2 (nI g) (sd x t) (nI n) (nI f) w = (F_Di_putField (179 + 2 * v) (nI n) (nI f) (wnv g x t) w).bind (fun r => rec15 (179 + 2 * v) X2 (nI g) (sd x (t + 1)) (nI n) (nI (f + 1)) r) := by
  unfold F_Di_writeDays_15_B F_Di_writeDays_50 F_Di_writeDays_78
  rw [show F_A_nextSeed (sd x t) = sd x (t + 1) from rfl]
  unfold wnv wgap
  rw [ht]
  simp (disch := omega) only [qL, ↓qM, q_le, q_eq, nI_add, tV T hv, A_written _ g hf, gd_true, beq_self_eq_true, bd_s, if_true, if_false, ↓reduceIte, ite_true, ite_false, Bool.and_self, Bool.and_true, Bool.true_and, Nat.reduceBEq, Bool.or_true, Bool.true_or, Bool.or_self]
  rw [if_neg (by omega)]
  by_cases h0 : g = 0
  · subst h0
    rw [if_pos (by omega)]
    simp
  · rw [if_neg (by omega), decide_eq_true (by omega : 0 < g)]
    simp only [h0, not_false_eq_true, decide_true, gd_true, Bool.true_and, decide_eq_true_eq]
    by_cases hz : irem (sd x (t + 1) / nI 256) (nI g) = nI 0
    · simp (disch := omega) only [hz, q_eq, gd_true, beq_self_eq_true, bd_s, if_true, if_false, ↓reduceIte, ite_true, ite_false, Bool.and_self, Bool.and_true, Bool.true_and, Nat.reduceBEq, Bool.or_true, Bool.true_or, Bool.or_self]
      simp
    · simp (disch := omega) only [hz, q_eq, gd_true, beq_self_eq_true, bd_s, if_true, if_false, ↓reduceIte, ite_true, ite_false, Bool.and_self, Bool.and_true, Bool.true_and, Nat.reduceBEq, Bool.or_true, Bool.true_or, Bool.or_self]
theorem A_writeDays {L : Nat} {xs : Nat → Int32} {w : AW} (T : Top L xs w) {S : Nat → Nat → Int32} (D : DiaA S w) {v from' till g : Nat} (x : Int32) (hv : v < 3) (h1 : from' ≤ till) (h2 : till ≤ 1461) (hg : g ≤ 1000) : ∃ gg, F_Di_writeDays (179 + 2 * v) (nI from') (nI till) x (nI g) w = some (rowI w (180 + 2 * v) gg) ∧ DiaA (wS S (fx v from' 0) g x (4 * (till - from'))) (rowI w (180 + 2 * v) gg) := by
  have hv2 : 16 ≤ 180 + 2 * v := by omega
  have inner : ∀ (rec6 : Nat → Int32 → Int32 → Int32 → Int32 → AW → Option AW) (n : Nat), from' ≤ n → n < till → ∀ k fu f (w : AW), Top L xs w → f + k = 4 → k < fu → DiaA (wS S (fx v from' 0) g x (4 * (n - from') + f)) w → ∃ gg, F_Di_writeDays_15 rec6 fu (179 + 2 * v) (nI till) (nI g) (sd x (4 * (n - from') + f)) (nI n) (nI f) w = rec6 (179 + 2 * v) (nI till) (nI g) (sd x (4 * (n + 1 - from'))) (nI (n + 1)) (rowI w (180 + 2 * v) gg) ∧ DiaA (wS S (fx v from' 0) g x (4 * (n + 1 - from'))) (rowI w (180 + 2 * v) gg) := by
    intro rec6 n hn1 hn2 k
    induction k with
    | zero =>
      intro fu f w T hf hfu D
      obtain ⟨fu, rfl⟩ : ∃ m, fu = m + 1 := ⟨fu - 1, by omega⟩
      refine ⟨wi w (180 + 2 * v), ?_, ?_⟩
      · show F_Di_writeDays_15_B rec6 (F_Di_writeDays_15 rec6 fu) _ _ _ _ _ _ w = _
        unfold F_Di_writeDays_15_B
        simp (disch := omega) only [qL, ↓qM, q_le, nI_add]
        rw [if_pos (by omega), show 4 * (n + 1 - from') = 4 * (n - from') + f by omega, rowI_self _ _ (fun _ => rfl)]
      · rw [rowI_self _ _ (fun _ => rfl), show 4 * (n + 1 - from') = 4 * (n - from') + f by omega]; exact D
    | succ k ih =>
      intro fu f w T hf hfu D
      obtain ⟨fu, rfl⟩ : ∃ m, fu = m + 1 := ⟨fu - 1, by omega⟩
      have e : fx v from' 0 + (4 * (n - from') + f) = fx v n f := by unfold fx; omega
      have hvf := wnv_vf g x (4 * (n - from') + f)
      rw [show (4 * (n - from') + f) % 4 = f by omega] at hvf
      obtain ⟨g1, p1, p2⟩ := A_putField T D hv (by omega : n < 1461) (by omega : f < 4) hvf
      rw [← e, ← wS_s] at p2
      obtain ⟨g2, q1, q2⟩ := ih fu (f + 1) (rowI w (180 + 2 * v) g1) (T.sh (Sh.rowI w g1 hv2)) (by omega) (by omega) p2
      refine ⟨g2, ?_, ?_⟩
      · show F_Di_writeDays_15_B rec6 (F_Di_writeDays_15 rec6 fu) _ _ _ _ _ _ w = _
        rw [A_write_step T rec6 _ x _ hv (by omega) hg (by omega), p1, Option.bind_some, show 4 * (n - from') + f + 1 = 4 * (n - from') + (f + 1) by omega, q1, rowI_rowI]
      · rw [rowI_rowI] at q2; exact q2
  have outer : ∀ k fu n (w : AW), Top L xs w → from' ≤ n → n + k = till → k < fu → DiaA (wS S (fx v from' 0) g x (4 * (n - from'))) w → ∃ gg, F_Di_writeDays_6 fu (179 + 2 * v) (nI till) (nI g) (sd x (4 * (n - from'))) (nI n) w = some (rowI w (180 + 2 * v) gg) ∧ DiaA (wS S (fx v from' 0) g x (4 * (till - from'))) (rowI w (180 + 2 * v) gg) := by
    intro k
    induction k with
    | zero =>
      intro fu n w T hn hk hf D
      obtain ⟨fu, rfl⟩ : ∃ m, fu = m + 1 := ⟨fu - 1, by omega⟩
      obtain rfl : n = till := by omega
      refine ⟨wi w (180 + 2 * v), ?_, ?_⟩
      · show F_Di_writeDays_6_B (F_Di_writeDays_6 fu) _ _ _ _ _ w = _
        unfold F_Di_writeDays_6_B
        simp (disch := omega) only [q_le]
        rw [if_pos (Nat.le_refl _), rowI_self _ _ (fun _ => rfl)]
      · rw [rowI_self _ _ (fun _ => rfl)]; exact D
    | succ k ih =>
      intro fu n w T hn hk hf D
      obtain ⟨fu, rfl⟩ : ∃ m, fu = m + 1 := ⟨fu - 1, by omega⟩
      obtain ⟨g1, p1, p2⟩ := inner (F_Di_writeDays_6 fu) n hn (by omega) 4 FUEL 0 w T (by omega) (by decide) D
      obtain ⟨g2, q1, q2⟩ := ih fu (n + 1) (rowI w (180 + 2 * v) g1) (T.sh (Sh.rowI w g1 hv2)) (by omega) (by omega) (by omega) p2
      refine ⟨g2, ?_, ?_⟩
      · show F_Di_writeDays_6_B (F_Di_writeDays_6 fu) _ _ _ _ _ w = _
        unfold F_Di_writeDays_6_B
        simp (disch := omega) only [q_le]
        rw [if_neg (by omega), l_0]
        refine Eq.trans p1 ?_
        rw [q1, rowI_rowI]
      · rw [rowI_rowI] at q2; exact q2
  have := outer (till - from') FUEL from' w T (Nat.le_refl _) (by omega) (Nat.lt_of_le_of_lt (by omega : till - from' ≤ 1461) (by decide)) (by rw [Nat.sub_self, Nat.mul_zero, wS_0]; exact D)
  rw [Nat.sub_self] at this
  exact this
theorem M_write_148 {L : Nat} {xs : Nat → Int32} {w : AW} (T : Top L xs w) (rec56 : Nat → Int32 → Int32 → Int32 → Int32 → Int32 → Int32 → AW → Option (Int32 × AW)) (rec69 : Nat → Int32 → Int32 → Int32 → Int32 → Int32 → Int32 → Int32 → AW → Option (Int32 × AW)) {v n f g c : Nat} (x : Int32) (Y z : Int32) (hv : v < 3) (hn : n < 1461) (hf : f < 4) (hg : g ≤ 1000) : F_M_write_148 rec56 rec69 271 (nI v) Y (nI g) (nI c) x (nI n) (nI f) z w = rec69 271 (nI v) Y (nI g) (nI (c + (if wgap g x = true then 1 else 0))) x (nI n) (nI (f + 1)) (upI w 276 (fx v n f) (if wgap g x = true then mI 1000 else z)) := by
  have hx := fx_lt hv hn hf
  unfold F_M_write_148
  simp (disch := omega) only [qL, ↓qM, q_le, q_eq]
  have h172 : ∀ b : Bool, F_M_write_172 rec56 rec69 271 (nI v) Y (nI g) (nI c) x (nI n) (nI f) z (nI b.toNat) w = rec69 271 (nI v) Y (nI g) (nI (c + (if b = true then 1 else 0))) x (nI n) (nI (f + 1)) (upI w 276 (fx v n f) (if b = true then mI 1000 else z)) := by
    intro b
    unfold F_M_write_172 F_M_write_199
    simp (disch := omega) only [qL, ↓qM, q_b0, nI_add, M_at_n, mK T, mFld T, q_inb, q_nat, gd_true, beq_self_eq_true, bd_s, if_true, if_false, ↓reduceIte, ite_true, ite_false, Bool.and_self, Bool.and_true, Bool.true_and, Nat.reduceBEq, Bool.or_true, Bool.true_or, Bool.or_self]
    cases b <;> simp
  by_cases h0 : g ≤ 0
  · rw [if_pos h0]
    have hw : wgap g x = false := by unfold wgap; rw [decide_eq_false (by omega)]; rfl
    rw [hw]
    exact h172 false
  · rw [if_neg h0, gd_t (by simp; omega)]
    by_cases hc : irem (x / nI 256) (nI g) = nI 0
    · rw [if_pos hc]
      have hw : wgap g x = true := by unfold wgap; rw [decide_eq_true (by omega), decide_eq_true hc]; rfl
      rw [hw]
      exact h172 true
    · rw [if_neg hc]
      have hw : wgap g x = false := by unfold wgap; rw [decide_eq_false hc]; simp
      rw [hw]
      exact h172 false
theorem M_write_step {L : Nat} {xs : Nat → Int32} {w : AW} (T : Top L xs w) (rec56 : Nat → Int32 → Int32 → Int32 → Int32 → Int32 → Int32 → AW → Option (Int32 × AW)) (rec69 : Nat → Int32 → Int32 → Int32 → Int32 → Int32 → Int32 → Int32 → AW → Option (Int32 × AW)) {v n f g t c : Nat} (x : Int32) (Y : Int32) (hv : v < 3) (hn : n < 1461) (hf : f < 4) (hg : g ≤ 1000) (ht : t % 4 = f) : F_M_write_69_B rec56 rec69 271 (nI v) Y (nI g) (nI c) (sd x t) (nI n) (nI f) w = rec69 271 (nI v) Y (nI g) (nI (c + (if wgap g (sd x (t + 1)) = true then 1 else 0))) (sd x (t + 1)) (nI n) (nI (f + 1)) (upI w 276 (fx v n f) (wnv g x t)) := by
  have hx := fx_lt hv hn hf
  unfold F_M_write_69_B
  rw [show F_M_next (sd x t) = sd x (t + 1) from rfl]
  unfold wnv wv
  rw [ht]
  simp (disch := omega) only [qL, ↓qM, q_le, q_eq, M_write_148 T rec56 rec69 _ _ _ hv hn hf hg]
  rw [if_neg (by omega)]
  have : f = 0 ∨ f = 1 ∨ f = 2 ∨ f = 3 := by omega
  rcases this with e | e | e | e <;> subst e <;> simp
  split <;> rfl
theorem M_write_in {L : Nat} {xs : Nat → Int32} {w : AW} (T : Top L xs w) {S : Nat → Nat → Int32} (R : RA S w) (I : IMf S) {v y g : Nat} (x : Int32) (hv : v < 3) (hy : y < 4) (hg : g ≤ 1000) (hx : 0 ≤ x.toInt) : ∃ w', F_M_write 271 (nI v) (nI y) x (nI g) w = some (nI (cnt (fun t => wgap g (sd x (t + 1))) (4 * (yst (sF S) (y + 1) - yst (sF S) y))), w') ∧ AF w w' ∧ RA (wS S (fx v (yst (sF S) y) 0) g x (4 * (yst (sF S) (y + 1) - yst (sF S) y))) w' := by
  have hm := yst_mono (sF S) (show y ≤ y + 1 by omega)
  have hm2 := yst_mono (sF S) (show y + 1 ≤ 4 by omega)
  have hm3 := yst_4 _ I.2
  generalize hfrom : yst (sF S) y = from' at *
  generalize htill : yst (sF S) (y + 1) = till at *
  have inner : ∀ (rec56 : Nat → Int32 → Int32 → Int32 → Int32 → Int32 → Int32 → AW → Option (Int32 × AW)) (n : Nat), from' ≤ n → n < till → ∀ k fu f (w : AW), Top L xs w → f + k = 4 → k < fu → RA (wS S (fx v from' 0) g x (4 * (n - from') + f)) w → ∃ w', F_M_write_69 rec56 fu 271 (nI v) (nI y) (nI g) (nI (cnt (fun t => wgap g (sd x (t + 1))) (4 * (n - from') + f))) (sd x (4 * (n - from') + f)) (nI n) (nI f) w = rec56 271 (nI v) (nI y) (nI g) (nI (cnt (fun t => wgap g (sd x (t + 1))) (4 * (n + 1 - from')))) (sd x (4 * (n + 1 - from'))) (nI (n + 1)) w' ∧ AF w w' ∧ RA (wS S (fx v from' 0) g x (4 * (n + 1 - from'))) w' := by
    intro rec56 n hn1 hn2 k
    induction k with
    | zero =>
      intro fu f w T hf hfu R
      obtain ⟨fu, rfl⟩ : ∃ m, fu = m + 1 := ⟨fu - 1, by omega⟩
      have e4 : 4 * (n + 1 - from') = 4 * (n - from') + f := by omega
      refine ⟨w, ?_, AF.refl w, by rw [e4]; exact R⟩
      show F_M_write_69_B rec56 (F_M_write_69 rec56 fu) _ _ _ _ _ _ _ _ w = _
      unfold F_M_write_69_B
      simp (disch := omega) only [qL, ↓qM, q_le, nI_add]
      rw [if_pos (by omega), e4]
    | succ k ih =>
      intro fu f w T hf hfu R
      obtain ⟨fu, rfl⟩ : ∃ m, fu = m + 1 := ⟨fu - 1, by omega⟩
      have e : fx v from' 0 + (4 * (n - from') + f) = fx v n f := by unfold fx; omega
      have R2 := R.up 5 (fx v n f) (wnv g x (4 * (n - from') + f)) (by decide)
      rw [← e, ← wS_s] at R2
      rw [e] at R2
      have A1 : AF w (upI w (271 + 5) (fx v n f) (wnv g x (4 * (n - from') + f))) := AF.upI w _ _ (by omega)
      obtain ⟨w', q1, q2, q3⟩ := ih fu (f + 1) _ (T.sh A1.sh) (by omega) (by omega) R2
      refine ⟨w', ?_, A1.trans q2, q3⟩
      show F_M_write_69_B rec56 (F_M_write_69 rec56 fu) _ _ _ _ _ _ _ _ w = _
      rw [M_write_step T rec56 _ x _ hv (by omega) (by omega) hg (by omega)]
      exact q1
  have outer : ∀ k fu n (w : AW), Top L xs w → from' ≤ n → n + k = till → k < fu → RA (wS S (fx v from' 0) g x (4 * (n - from'))) w → ∃ w', F_M_write_56 fu 271 (nI v) (nI y) (nI g) (nI (cnt (fun t => wgap g (sd x (t + 1))) (4 * (n - from')))) (sd x (4 * (n - from'))) (nI n) w = some (nI (cnt (fun t => wgap g (sd x (t + 1))) (4 * (till - from'))), w') ∧ AF w w' ∧ RA (wS S (fx v from' 0) g x (4 * (till - from'))) w' := by
    intro k
    induction k with
    | zero =>
      intro fu n w T hn hk hf R
      obtain ⟨fu, rfl⟩ : ∃ m, fu = m + 1 := ⟨fu - 1, by omega⟩
      obtain rfl : n = till := by omega
      refine ⟨w, ?_, AF.refl w, R⟩
      show F_M_write_56_B (F_M_write_56 fu) _ _ _ _ _ _ _ w = _
      unfold F_M_write_56_B
      have I' : IMf (wS S (fx v from' 0) g x (4 * (n - from'))) := by
        have e0 : wS S (fx v from' 0) g x (4 * (n - from')) 0 0 = S 0 0 := by unfold wS; rw [if_neg (by omega)]
        unfold IMf sF; rw [e0]; exact I
      have es : sF (wS S (fx v from' 0) g x (4 * (n - from'))) = sF S := by
        have e0 : wS S (fx v from' 0) g x (4 * (n - from')) 0 0 = S 0 0 := by unfold wS; rw [if_neg (by omega)]
        unfold sF; rw [e0]
      rw [M_yearEnd T R I' hy, es, htill]
      simp (disch := omega) only [mK T, q_le, gd_true, beq_self_eq_true, bd_s, if_true, if_false, ↓reduceIte, ite_true, ite_false, Bool.and_self, Bool.and_true, Bool.true_and, Nat.reduceBEq, Bool.or_true, Bool.true_or, Bool.or_self]
      rw [if_pos (Nat.le_refl _)]
    | succ k ih =>
      intro fu n w T hn hk hf R
      obtain ⟨fu, rfl⟩ : ∃ m, fu = m + 1 := ⟨fu - 1, by omega⟩
      obtain ⟨w1, p1, p2, p3⟩ := inner (F_M_write_56 fu) n hn (by omega) 4 FUEL 0 w T (by omega) (by decide) R
      obtain ⟨w2, q1, q2, q3⟩ := ih fu (n + 1) w1 (T.sh p2.sh) (by omega) (by omega) (by omega) p3
      refine ⟨w2, ?_, p2.trans q2, q3⟩
      show F_M_write_56_B (F_M_write_56 fu) _ _ _ _ _ _ _ w = _
      unfold F_M_write_56_B
      have e0 : wS S (fx v from' 0) g x (4 * (n - from')) 0 0 = S 0 0 := by unfold wS; rw [if_neg (by omega)]
      have I' : IMf (wS S (fx v from' 0) g x (4 * (n - from'))) := by
        unfold IMf sF; rw [e0]; exact I
      have es : sF (wS S (fx v from' 0) g x (4 * (n - from'))) = sF S := by
        unfold sF; rw [e0]
      rw [M_yearEnd T R I' hy, es, htill]
      simp (disch := omega) only [mK T, q_le, gd_true, beq_self_eq_true, bd_s, if_true, if_false, ↓reduceIte, ite_true, ite_false, Bool.and_self, Bool.and_true, Bool.true_and, Nat.reduceBEq, Bool.or_true, Bool.true_or, Bool.or_self]
      rw [if_neg (by omega), l_0]
      refine Eq.trans p1 ?_
      exact q1
  obtain ⟨w', o1, o2, o3⟩ := outer (till - from') FUEL from' w T (Nat.le_refl _) (by omega) (Nat.lt_of_le_of_lt (by omega : till - from' ≤ 1461) (by decide)) (by rw [Nat.sub_self, Nat.mul_zero, wS_0]; exact R)
  refine ⟨w', ?_, o2, o3⟩
  unfold F_M_write F_M_isValley
  have hx0 : ¬ x < nI 0 := by rw [Int32.lt_iff_toInt_lt]; show ¬ x.toInt < 0; omega
  simp (disch := omega) only [qL, ↓qM, M_in_b, qLJ, q_int, q_b0, mK T, M_begin T R I, bg_1, hfrom, hx0, gd_true, beq_self_eq_true, bd_s, if_true, if_false, ↓reduceIte, ite_true, ite_false, Bool.and_self, Bool.and_true, Bool.true_and, Nat.reduceBEq, Bool.or_true, Bool.true_or, Bool.or_self]
  rw [if_neg (by simp; omega), if_neg (by simp; omega), if_neg (by simp; omega)]
  rw [Nat.sub_self] at o1
  exact o1
theorem cnt_not (P : Nat → Bool) : ∀ n, cnt P n + cnt (fun i => !P i) n = n
  | 0 => rfl
  | n + 1 => by
    show cnt P n + (if P n = true then 1 else 0) + (cnt (fun i => !P i) n + (if (!P n) = true then 1 else 0)) = n + 1
    have := cnt_not P n
    cases P n <;> simp <;> omega
