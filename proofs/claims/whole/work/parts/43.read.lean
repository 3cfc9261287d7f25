/-! PURE: a saying held against a diary -/
/-- a condition of the reference's sayings -/
def prog (S : Nat → Nat → Int32) (k p : Nat) : List (Nat × Int) := (List.range (nat (S 16 (2 * k + p)))).map (fun i => (nat (S 14 (80 * (2 * k + p) + i)), (S 15 (80 * (2 * k + p) + i)).toInt))
def cR (S : Nat → Nat → Int32) (v n : Nat) (m : Nat) (z : Int) : Bool := cmS S v n (m / 3) (m % 3) z
def mkS (S : Nat → Nat → Int32) (k p : Nat) : Nat := nat (S 13 (12 * k + p))
def hld (S : Nat → Nat → Int32) (k p v n : Nat) : Bool := (run (cR S v n) (prog S k p) []).getD 0 false
def opS (S : Nat → Nat → Int32) (k p v n : Nat) : Bool := opn S v (mkS S k p) n 4
def spA (S : Nat → Nat → Int32) (k : Nat) : Nat := nat (S 13 (12 * k + 2))
def spB (S : Nat → Nat → Int32) (k : Nat) : Nat := nat (S 13 (12 * k + 3))
def isAl (S : Nat → Nat → Int32) (k : Nat) : Bool := decide (S 13 (12 * k + 4) = nI 1)
def seS (S : Nat → Nat → Int32) (k n : Nat) : Bool := sea S (S 13 (12 * k + 5)) (S 13 (12 * k + 6)) (S 13 (12 * k + 7)) n
def allF (P : Nat → Bool) (a : Nat) : Nat → Bool
  | 0 => true
  | c + 1 => allF P a c && P (a + c)
def anyF (P : Nat → Bool) (a : Nat) : Nat → Bool
  | 0 => false
  | c + 1 => anyF P a c || P (a + c)
/-- the second part known on a day, and true -/
def sk (S : Nat → Nat → Int32) (k v n : Nat) : Bool := allF (fun d => decide (n + d < 1461) && !opS S k 1 v (n + d)) (spA S k) (spB S k + 1 - spA S k)
def sw (S : Nat → Nat → Int32) (k v n : Nat) : Bool := if isAl S k = true then allF (fun d => hld S k 1 v (n + d)) (spA S k) (spB S k + 1 - spA S k) else anyF (fun d => hld S k 1 v (n + d)) (spA S k) (spB S k + 1 - spA S k)
/-- what a saying of the reference is -/
def IMp (S : Nat → Nat → Int32) (k p : Nat) : Prop := S 16 (2 * k + p) = nI (nat (S 16 (2 * k + p))) ∧ nat (S 16 (2 * k + p)) ≤ 80 ∧ okh 81 (prog S k p) 0 ∧ (∀ i, i < nat (S 16 (2 * k + p)) → S 14 (80 * (2 * k + p) + i) = nI (nat (S 14 (80 * (2 * k + p) + i))) ∧ nat (S 14 (80 * (2 * k + p) + i)) ≤ 14) ∧ S 13 (12 * k + p) = nI (mkS S k p) ∧ mkS S k p < 16
def IMk (S : Nat → Nat → Int32) (k : Nat) : Prop := IMp S k 0 ∧ IMp S k 1 ∧ (S 13 (12 * k + 2) = nI (spA S k) ∧ S 13 (12 * k + 3) = nI (spB S k) ∧ spA S k ≤ spB S k ∧ spB S k ≤ 9) ∧ (S 13 (12 * k + 4) = nI 0 ∨ S 13 (12 * k + 4) = nI 1) ∧ okSea (S 13 (12 * k + 5)) (S 13 (12 * k + 6)) (S 13 (12 * k + 7))
/-- a condition of the class does what one of the reference does -/
def CQ (S : Nat → Nat → Int32) (w : AW) (k p c : Nat) : Prop := ∃ P, CP w c P ∧ okh 24 P 0 ∧ (∀ m z, (m, z) ∈ P → m < 12 → (mkS S k p).testBit (m / 3) = true) ∧ ∀ g, run g P [] = run g (prog S k p) []
/-- the class's saying at s is the reference's k -/
def SyK (S : Nat → Nat → Int32) (w : AW) (k s : Nat) : Prop := CQ S w k 0 (s + 1) ∧ CQ S w k 1 (s + 4) ∧ wi w (s + 1) 3 = S 13 (12 * k) ∧ wi w (s + 4) 3 = S 13 (12 * k + 1) ∧ wi w s 2 = S 13 (12 * k + 2) ∧ wi w s 3 = S 13 (12 * k + 3) ∧ wi w s 4 = S 13 (12 * k + 4) ∧ wi w s 5 = S 13 (12 * k + 5) ∧ wi w s 6 = S 13 (12 * k + 6) ∧ wi w s 7 = S 13 (12 * k + 7) ∧ wi w (s + 1) 4 = S 13 (12 * k + 8) ∧ wi w (s + 4) 4 = S 13 (12 * k + 9) ∧ wi w (s + 1) 5 = S 13 (12 * k + 10) ∧ wi w (s + 4) 5 = S 13 (12 * k + 11)
theorem stp_congr {c d : Nat → Int → Bool} {m : Nat × Int} {st : List Bool} (h : m.1 < 12 → c m.1 m.2 = d m.1 m.2) : stp c m st = stp d m st := by
  unfold stp
  by_cases h12 : m.1 < 12
  · rw [if_pos h12, if_pos h12, h h12]
  · rw [if_neg h12, if_neg h12]
theorem run_congr {c d : Nat → Int → Bool} : ∀ (P : List (Nat × Int)) (st : List Bool), (∀ m z, (m, z) ∈ P → m < 12 → c m z = d m z) → run c P st = run d P st
  | [], _, _ => rfl
  | m :: P, st, h => by
    show run c P (stp c m st) = run d P (stp d m st)
    rw [stp_congr (d := d) (fun h12 => h m.1 m.2 List.mem_cons_self h12)]
    exact run_congr P _ (fun m' z hm => h m' z (List.mem_cons_of_mem _ hm))
theorem opn_gp {S : Nat → Nat → Int32} {v k n f : Nat} (hf : f < 4) (h : opn S v k n 4 = false) (hb : k.testBit f = true) : gp S v n f = false := by
  unfold opn opn opn opn at h
  have hf' : f = 0 ∨ f = 1 ∨ f = 2 ∨ f = 3 := by omega
  rcases hf' with e | e | e | e <;> subst e <;> simp only [hb, Bool.true_and, Bool.or_eq_false_iff] at h
  · exact h.1.1.1.2
  · exact h.1.1.2
  · exact h.1.2
  · exact h.2
/-- on a day that isn't open the class's program answers as the reference's -/
theorem CQ_run {S : Nat → Nat → Int32} {k p v n : Nat} {P : List (Nat × Int)} (h1 : ∀ m z, (m, z) ∈ P → m < 12 → (mkS S k p).testBit (m / 3) = true) (h2 : ∀ g, run g P [] = run g (prog S k p) []) (ho : opS S k p v n = false) : (run (cA S v n) P []).getD 0 false = hld S k p v n := by
  unfold hld
  rw [← h2 (cR S v n), run_congr (c := cA S v n) (d := cR S v n) P [] (fun m z hm h12 => by
    rw [cA_def, opn_gp (by omega) ho (h1 m z hm h12)]; rfl)]
theorem CP_DF {A : Nat → Prop} {w v : AW} {c : Nat} {P : List (Nat × Int)} (h : DF A w v) (hP : CP w c P) : CP v c P := by
  unfold CP at *; simp only [h.wi]; exact hP
theorem CQ_DF {A : Nat → Prop} {w v : AW} {S : Nat → Nat → Int32} {k p c : Nat} (h : DF A w v) (hP : CQ S w k p c) : CQ S v k p c := by
  obtain ⟨P, p1, p2⟩ := hP
  exact ⟨P, CP_DF h p1, p2⟩
theorem SyK_DF {A : Nat → Prop} {w v : AW} {S : Nat → Nat → Int32} {k s : Nat} (h : DF A w v) (K : SyK S w k s) : SyK S v k s := by
  obtain ⟨k1, k2, k3⟩ := K
  exact ⟨CQ_DF h k1, CQ_DF h k2, by simp only [h.wi]; exact k3⟩
/-- a reading at r -/
def TR (w : AW) (r : Nat) : Prop := wk w r = 9 ∧ wr w r 0 = r + 1 ∧ wr w r 1 = r + 3 ∧ wr w r 2 = r + 5 ∧ wr w r 3 = r + 7 ∧ wr w r 4 = r + 9 ∧ wr w r 5 = r + 11 ∧ wr w r 6 = r + 13 ∧ wr w r 7 = r + 15 ∧ wr w r 8 = r + 17 ∧ wr w r 9 = r + 19 ∧ wr w r 10 = r + 21
def RTabs : List Nat := [88, 111]
theorem tR {L : Nat} {xs : Nat → Int32} {w : AW} (T : Top L xs w) {r : Nat} (h : r ∈ RTabs) : TR w r := by
  have : r = 88 ∨ r = 111 := by simpa [RTabs] using h
  rcases this with e | e <;> subst e
  · unfold TR; simp only [t88 T, and_self]
  · unfold TR; simp only [t111 T, and_self]
theorem RT_in : ∀ r ∈ RTabs, r + 1 ∈ DTab ∧ r + 3 ∈ DTab ∧ r + 5 ∈ DTab ∧ r + 7 ∈ DTab ∧ r + 9 ∈ DTab ∧ r + 11 ∈ DTab ∧ r + 13 ∈ DTab ∧ r + 15 ∈ DTab ∧ r + 17 ∈ DTab ∧ r + 19 ∈ DTab ∧ r + 21 ∈ DTab := by decide +kernel
theorem RT_big : ∀ r ∈ RTabs, 88 ≤ r ∧ r ≤ 111 := by decide +kernel
/-- the days' sets of a reading, and the rows of Scales -/
def rdA (r a : Nat) : Prop := scA a ∨ (r + 1 ≤ a ∧ a ≤ r + 21)
theorem allF_congr {P Q : Nat → Bool} (a : Nat) : ∀ c, (∀ i, i < c → P (a + i) = Q (a + i)) → allF P a c = allF Q a c
  | 0, _ => rfl
  | c + 1, h => by
    show (allF P a c && P (a + c)) = (allF Q a c && Q (a + c))
    rw [allF_congr a c (fun i hi => h i (by omega)), h c (by omega)]
theorem anyF_congr {P Q : Nat → Bool} (a : Nat) : ∀ c, (∀ i, i < c → P (a + i) = Q (a + i)) → anyF P a c = anyF Q a c
  | 0, _ => rfl
  | c + 1, h => by
    show (anyF P a c || P (a + c)) = (anyF Q a c || Q (a + c))
    rw [anyF_congr a c (fun i hi => h i (by omega)), h c (by omega)]
theorem allF_i {P : Nat → Bool} {a : Nat} : ∀ {c : Nat}, allF P a c = true → ∀ i, i < c → P (a + i) = true
  | 0, _, i, hi => by omega
  | c + 1, h, i, hi => by
    have h' : (allF P a c && P (a + c)) = true := h
    rw [Bool.and_eq_true] at h'
    by_cases e : i = c
    · rw [e]; exact h'.2
    · exact allF_i h'.1 i (by omega)
theorem A_spread {L : Nat} {xs : Nat → Int32} {w : AW} (T : Top L xs w) (W : WFs w) {r s a b : Nat} {al : Bool} (hr : r ∈ RTabs) (hs : wk w s = 5) (ha : wi w s 2 = nI a) (hb : wi w s 3 = nI b) (hab : a ≤ b) (hb9 : b ≤ 9) (hal : wi w s 4 = nI al.toNat) : ∃ w', F_Rd_spread r s w = some w' ∧ DF (fun x => x = r + 7 ∨ x = r + 9) w w' ∧ (∀ n, n < 1461 → gD w' (r + 7) n = allF (fun d => gD w (r + 19) (n + d)) a (b + 1 - a)) ∧ (∀ n, n < 1461 → gD w' (r + 9) n = ((if al = true then allF (fun d => gD w (r + 21) (n + d)) a (b + 1 - a) else anyF (fun d => gD w (r + 21) (n + d)) a (b + 1 - a)) && allF (fun d => gD w (r + 19) (n + d)) a (b + 1 - a))) := by
  obtain ⟨i1, i3, i5, i7, i9, i11, i13, i15, i17, i19, i21⟩ := RT_in r hr
  have loop : ∀ k fu c (u : AW), c + k = b + 1 - a → k < fu → DF (fun x => x = r + 7 ∨ x = r + 9) w u → (∀ n, n < 1461 → gD u (r + 7) n = allF (fun d => gD w (r + 19) (n + d)) a c) → (∀ n, n < 1461 → gD u (r + 9) n = if al = true then allF (fun d => gD w (r + 21) (n + d)) a c else anyF (fun d => gD w (r + 21) (n + d)) a c) → ∃ w', F_Rd_spread_33 fu r s (nI (a + c)) u = some w' ∧ DF (fun x => x = r + 7 ∨ x = r + 9) w w' ∧ (∀ n, n < 1461 → gD w' (r + 7) n = allF (fun d => gD w (r + 19) (n + d)) a (b + 1 - a)) ∧ (∀ n, n < 1461 → gD w' (r + 9) n = ((if al = true then allF (fun d => gD w (r + 21) (n + d)) a (b + 1 - a) else anyF (fun d => gD w (r + 21) (n + d)) a (b + 1 - a)) && allF (fun d => gD w (r + 19) (n + d)) a (b + 1 - a))) := by
    intro k
    induction k with
    | zero =>
      intro fu c u hk hf hu h7 h9
      obtain ⟨fu, rfl⟩ : ∃ m, fu = m + 1 := ⟨fu - 1, by omega⟩
      obtain rfl : c = b + 1 - a := by omega
      have T1 := T.sh hu.sh
      have tr := tR T1 hr
      have d7 := tD T1 i7
      have d9 := tD T1 i9
      refine ⟨setD u (r + 9) (fun n => gD u (r + 9) n && gD u (r + 7) n), ?_, hu.trans (DF.set _ _ (.inr rfl)), ?_, ?_⟩
      · show F_Rd_spread_33_B (F_Rd_spread_33 fu) _ _ _ _ = _
        unfold F_Rd_spread_33_B
        have hs1 : wk u s = 5 := by rw [hu.2.2.1]; exact hs
        simp (disch := omega) only [hs1, hu.wi, hb, q_lt, tr.1, tr.2.2.2.2.1, tr.2.2.2.2.2.1, d9.1, D_meet d9 d7 (hu.wf (W _ i9)) (hu.wf (W _ i7)), gd_true, beq_self_eq_true, bd_s, if_true, if_false, ↓reduceIte, ite_true, ite_false, Bool.and_self, Bool.and_true, Bool.true_and, Nat.reduceBEq, Bool.or_true, Bool.true_or, Bool.or_self]
        rw [if_pos (by omega)]
      · intro n hn; rw [gD_ne _ _ _ (by omega), h7 n hn]
      · intro n hn; rw [gD_eq _ _ _ hn, h9 n hn, h7 n hn]
    | succ k ih =>
      intro fu c u hk hf hu h7 h9
      obtain ⟨fu, rfl⟩ : ∃ m, fu = m + 1 := ⟨fu - 1, by omega⟩
      have T1 := T.sh hu.sh
      have tr := tR T1 hr
      have d7 := tD T1 i7
      have d9 := tD T1 i9
      have d19 := tD T1 i19
      have d21 := tD T1 i21
      have hs1 : wk u s = 5 := by rw [hu.2.2.1]; exact hs
      have m7 := D_meetAhead (k := a + c) d7 d19 (hu.wf (W _ i7)) (hu.wf (W _ i19)) (by omega) (by omega)
      have g19 : ∀ n, gD u (r + 19) n = gD w (r + 19) n := hu.g (by omega)
      have g21 : ∀ n, gD u (r + 21) n = gD w (r + 21) n := hu.g (by omega)
      have goal : ∀ (Q : Nat → Bool), (∀ n, n < 1461 → Q n = if al = true then allF (fun d => gD w (r + 21) (n + d)) a (c + 1) else anyF (fun d => gD w (r + 21) (n + d)) a (c + 1)) → ∃ w', F_Rd_spread_33 fu r s (nI (a + c + 1)) (setD (setD u (r + 7) (fun n => gD u (r + 7) n && gD u (r + 19) (n + (a + c)))) (r + 9) Q) = some w' ∧ DF (fun x => x = r + 7 ∨ x = r + 9) w w' ∧ (∀ n, n < 1461 → gD w' (r + 7) n = allF (fun d => gD w (r + 19) (n + d)) a (b + 1 - a)) ∧ (∀ n, n < 1461 → gD w' (r + 9) n = ((if al = true then allF (fun d => gD w (r + 21) (n + d)) a (b + 1 - a) else anyF (fun d => gD w (r + 21) (n + d)) a (b + 1 - a)) && allF (fun d => gD w (r + 19) (n + d)) a (b + 1 - a))) := by
        intro Q hQ
        refine ih fu (c + 1) _ (by omega) (by omega) ((hu.trans (DF.set _ _ (.inl rfl))).trans (DF.set _ _ (.inr rfl))) ?_ ?_
        · intro n hn
          rw [gD_ne _ _ _ (by omega), gD_eq _ _ _ hn, h7 n hn, g19]
          rfl
        · intro n hn
          rw [gD_eq _ _ _ hn, hQ n hn]
      have step : ∀ x, F_Rd_spread_33 (fu + 1) r s x u = F_Rd_spread_33_B (F_Rd_spread_33 fu) r s x u := fun x => rfl
      rw [step]
      unfold F_Rd_spread_33_B
      simp (disch := omega) only [qL, ↓qM, hs1, hu.wi, hb, q_lt, tr.1, tr.2.2.2.2.1, tr.2.2.2.2.2.1, tr.2.2.2.2.2.2.2.2.2.2.1, tr.2.2.2.2.2.2.2.2.2.2.2, d7.1, d9.1, m7, wk_setD, wi_setD, wr_setD, hal, q_b0, nI_add, gd_true, beq_self_eq_true, bd_s, if_true, if_false, ↓reduceIte, ite_true, ite_false, Bool.and_self, Bool.and_true, Bool.true_and, Nat.reduceBEq, Bool.or_true, Bool.true_or, Bool.or_self]
      rw [if_neg (by omega)]
      by_cases h : al = true
      · subst h
        rw [if_neg (by simp), D_meetAhead (TD_setD _ _ d9) (TD_setD _ _ d21) (WF_setD _ _ (.inr (hu.wf (W _ i9)))) (WF_setD _ _ (.inr (hu.wf (W _ i21)))) (by omega) (by omega), bd_s]
        exact goal _ (fun n hn => by
          rw [gD_ne _ _ _ (by omega), gD_ne _ _ _ (by omega), h9 n hn, g21, if_pos rfl, if_pos rfl]; rfl)
      · have h' : al = false := by simpa using h
        subst h'
        rw [if_pos rfl, D_joinAhead (TD_setD _ _ d9) (TD_setD _ _ d21) (WF_setD _ _ (.inr (hu.wf (W _ i9)))) (WF_setD _ _ (.inr (hu.wf (W _ i21)))) (by omega) (by omega), bd_s]
        exact goal _ (fun n hn => by
          rw [gD_ne _ _ _ (by omega), gD_ne _ _ _ (by omega), h9 n hn, g21, if_neg (by simp), if_neg (by simp)]; rfl)
  have tr := tR T hr
  have d7 := tD T i7
  have d9 := tD T i9
  unfold F_Rd_spread
  simp (disch := omega) only [qL, ↓qM, hs, ha, tr.1, tr.2.2.2.2.1, tr.2.2.2.2.2.1, d7.1, d9.1, D_fill d7, D_clear (TD_setD _ _ d9), wk_setD, wi_setD, wr_setD, hal, q_b0, gd_true, beq_self_eq_true, bd_s, if_true, if_false, ↓reduceIte, ite_true, ite_false, Bool.and_self, Bool.and_true, Bool.true_and, Nat.reduceBEq, Bool.or_true, Bool.true_or, Bool.or_self]
  by_cases h : al = true
  · subst h
    rw [if_neg (by simp), D_fill (TD_setD _ _ (TD_setD _ _ d9)), bd_s]
    simp only [wk_setD, wi_setD, hs, ha, setD_setD, gd_true, beq_self_eq_true, bd_s, if_true, if_false, ↓reduceIte, ite_true, ite_false, Bool.and_self, Bool.and_true, Bool.true_and, Nat.reduceBEq, Bool.or_true, Bool.true_or, Bool.or_self]
    exact loop (b + 1 - a) FUEL 0 _ (by omega) (Nat.lt_of_le_of_lt (by omega : b + 1 - a ≤ 10) (by decide)) ((DF.set _ _ (.inl rfl)).trans (DF.set _ _ (.inr rfl))) (fun n hn => by rw [gD_ne _ _ _ (by omega), gD_eq _ _ _ hn]; rfl) (fun n hn => by rw [gD_eq _ _ _ hn]; rfl)
  · have h' : al = false := by simpa using h
    subst h'
    rw [if_pos rfl]
    exact loop (b + 1 - a) FUEL 0 _ (by omega) (Nat.lt_of_le_of_lt (by omega : b + 1 - a ≤ 10) (by decide)) ((DF.set _ _ (.inl rfl)).trans (DF.set _ _ (.inr rfl))) (fun n hn => by rw [gD_ne _ _ _ (by omega), gD_eq _ _ _ hn]; rfl) (fun n hn => by rw [gD_eq _ _ _ hn]; rfl)
/-! the sets' calls as steps of a world -/
theorem X_take {u : AW} {a b : Nat} (ta : TD u a) (tb : TD u b) (wb : WF u b) : ∃ u', F_Dy_take a b u = some u' ∧ DF (fun x => x = a) u u' ∧ (∀ n, n < 1461 → gD u' a n = gD u b n) :=
  ⟨_, D_take ta tb wb, DF.set _ _ rfl, fun n hn => gD_eq _ _ _ hn⟩
theorem X_meet {u : AW} {a b : Nat} (ta : TD u a) (tb : TD u b) (wa : WF u a) (wb : WF u b) : ∃ u', F_Dy_meet a b u = some u' ∧ DF (fun x => x = a) u u' ∧ (∀ n, n < 1461 → gD u' a n = (gD u a n && gD u b n)) :=
  ⟨_, D_meet ta tb wa wb, DF.set _ _ rfl, fun n hn => gD_eq _ _ _ hn⟩
theorem X_join {u : AW} {a b : Nat} (ta : TD u a) (tb : TD u b) (wa : WF u a) (wb : WF u b) : ∃ u', F_Dy_join a b u = some u' ∧ DF (fun x => x = a) u u' ∧ (∀ n, n < 1461 → gD u' a n = (gD u a n || gD u b n)) :=
  ⟨_, D_join ta tb wa wb, DF.set _ _ rfl, fun n hn => gD_eq _ _ _ hn⟩
theorem X_leave {u : AW} {a b : Nat} (ta : TD u a) (tb : TD u b) (wa : WF u a) (wb : WF u b) : ∃ u', F_Dy_leave a b u = some u' ∧ DF (fun x => x = a) u u' ∧ (∀ n, n < 1461 → gD u' a n = (gD u a n && !gD u b n)) :=
  ⟨_, D_leave ta tb wa wb, DF.set _ _ rfl, fun n hn => gD_eq _ _ _ hn⟩
theorem X_differ {u : AW} {a b : Nat} (ta : TD u a) (tb : TD u b) (wa : WF u a) (wb : WF u b) : ∃ u', F_Dy_differ a b u = some u' ∧ DF (fun x => x = a) u u' ∧ (∀ n, n < 1461 → gD u' a n = (gD u a n ^^ gD u b n)) :=
  ⟨_, D_differ ta tb wa wb, DF.set _ _ rfl, fun n hn => gD_eq _ _ _ hn⟩
/-- the counts' sets out of the parts' -/
theorem A_tally {L : Nat} {xs : Nat → Int32} {w : AW} (T : Top L xs w) (W : WFs w) {r p q : Nat} (hr : r ∈ RTabs) (hp : p ∈ DTab) (hq : q ∈ DTab) (hp2 : p ≤ r + 10 ∨ r + 18 ≤ p) (hq2 : q ≤ r + 10 ∨ r + 18 ≤ q) : ∃ w', F_Rd_tally r p q w = some w' ∧ DF (fun x => r + 11 ≤ x ∧ x ≤ r + 17) w w' ∧ (∀ n, n < 1461 → gD w' (r + 11) n = (gD w (r + 1) n && gD w (r + 3) n && gD w p n)) ∧ (∀ n, n < 1461 → gD w' (r + 13) n = (gD w (r + 1) n && gD w (r + 3) n && gD w p n && gD w (r + 5) n)) ∧ (∀ n, n < 1461 → gD w' (r + 15) n = (gD w (r + 1) n && gD w (r + 3) n && gD w p n && gD w (r + 5) n && gD w q n)) ∧ (∀ n, n < 1461 → gD w' (r + 17) n = (gD w (r + 1) n && gD w (r + 3) n && gD w p n && gD w q n)) := by
  obtain ⟨i1, i3, i5, i7, i9, i11, i13, i15, i17, i19, i21⟩ := RT_in r hr
  have hA : ∀ (a : Nat), (r + 11 ≤ a ∧ a ≤ r + 17) → ∀ x, x = a → (r + 11 ≤ x ∧ x ≤ r + 17) := fun a h x e => by rw [e]; exact h
  obtain ⟨u1, e1, f1, g1⟩ := X_take (tD T i11) (tD T i1) (W _ i1)
  have F1 := f1.mono (hA _ (by omega))
  have T1 := T.sh F1.sh
  have W1 := F1.wfs W
  obtain ⟨u2, e2, f2, g2⟩ := X_meet (tD T1 i11) (tD T1 i3) (W1 _ i11) (W1 _ i3)
  have F2 := F1.trans (f2.mono (hA _ (by omega)))
  have T2 := T.sh F2.sh
  have W2 := F2.wfs W
  obtain ⟨u3, e3, f3, g3⟩ := X_meet (tD T2 i11) (tD T2 hp) (W2 _ i11) (W2 _ hp)
  have F3 := F2.trans (f3.mono (hA _ (by omega)))
  have T3 := T.sh F3.sh
  have W3 := F3.wfs W
  obtain ⟨u4, e4, f4, g4⟩ := X_take (tD T3 i13) (tD T3 i11) (W3 _ i11)
  have F4 := F3.trans (f4.mono (hA _ (by omega)))
  have T4 := T.sh F4.sh
  have W4 := F4.wfs W
  obtain ⟨u5, e5, f5, g5⟩ := X_meet (tD T4 i13) (tD T4 i5) (W4 _ i13) (W4 _ i5)
  have F5 := F4.trans (f5.mono (hA _ (by omega)))
  have T5 := T.sh F5.sh
  have W5 := F5.wfs W
  obtain ⟨u6, e6, f6, g6⟩ := X_take (tD T5 i15) (tD T5 i13) (W5 _ i13)
  have F6 := F5.trans (f6.mono (hA _ (by omega)))
  have T6 := T.sh F6.sh
  have W6 := F6.wfs W
  obtain ⟨u7, e7, f7, g7⟩ := X_meet (tD T6 i15) (tD T6 hq) (W6 _ i15) (W6 _ hq)
  have F7 := F6.trans (f7.mono (hA _ (by omega)))
  have T7 := T.sh F7.sh
  have W7 := F7.wfs W
  obtain ⟨u8, e8, f8, g8⟩ := X_take (tD T7 i17) (tD T7 i11) (W7 _ i11)
  have F8 := F7.trans (f8.mono (hA _ (by omega)))
  have T8 := T.sh F8.sh
  have W8 := F8.wfs W
  obtain ⟨u9, e9, f9, g9⟩ := X_meet (tD T8 i17) (tD T8 hq) (W8 _ i17) (W8 _ hq)
  have F9 := F8.trans (f9.mono (hA _ (by omega)))
  have T9 := T.sh F9.sh
  have W9 := F9.wfs W
  have k11 : ∀ n, n < 1461 → gD u3 (r + 11) n = (gD w (r + 1) n && gD w (r + 3) n && gD w p n) := fun n hn => by
    rw [g3 n hn, g2 n hn, g1 n hn, F1.g (by omega), F2.g (by omega)]
  have k13 : ∀ n, n < 1461 → gD u5 (r + 13) n = (gD w (r + 1) n && gD w (r + 3) n && gD w p n && gD w (r + 5) n) := fun n hn => by
    rw [g5 n hn, g4 n hn, k11 n hn, F4.g (by omega)]
  have k15 : ∀ n, n < 1461 → gD u7 (r + 15) n = (gD w (r + 1) n && gD w (r + 3) n && gD w p n && gD w (r + 5) n && gD w q n) := fun n hn => by
    rw [g7 n hn, g6 n hn, k13 n hn, F6.g (by omega)]
  have k11' : ∀ n, n < 1461 → gD u7 (r + 11) n = (gD w (r + 1) n && gD w (r + 3) n && gD w p n) := fun n hn => by
    rw [f7.g (by omega), f6.g (by omega), f5.g (by omega), f4.g (by omega), k11 n hn]
  have k17 : ∀ n, n < 1461 → gD u9 (r + 17) n = (gD w (r + 1) n && gD w (r + 3) n && gD w p n && gD w q n) := fun n hn => by
    rw [g9 n hn, g8 n hn, k11' n hn, F8.g (by omega)]
  refine ⟨u9, ?_, F9, fun n hn => ?_, fun n hn => ?_, fun n hn => ?_, k17⟩
  · have tr := tR T hr
    have tr1 := tR T1 hr
    have tr2 := tR T2 hr
    have tr3 := tR T3 hr
    have tr4 := tR T4 hr
    have tr5 := tR T5 hr
    have tr6 := tR T6 hr
    have tr7 := tR T7 hr
    have tr8 := tR T8 hr
    unfold F_Rd_tally
    simp only [tr.1, tr.2.1, tr.2.2.1, tr.2.2.2.1, tr.2.2.2.2.2.2.1, tr.2.2.2.2.2.2.2.1, tr.2.2.2.2.2.2.2.2.1, tr.2.2.2.2.2.2.2.2.2.1, (tD T i11).1, e1, gd_true, beq_self_eq_true, bd_s, if_true, if_false, ↓reduceIte, ite_true, ite_false, Bool.and_self, Bool.and_true, Bool.true_and, Nat.reduceBEq, Bool.or_true, Bool.true_or, Bool.or_self]
    simp only [tr1.1, tr1.2.1, tr1.2.2.1, tr1.2.2.2.1, tr1.2.2.2.2.2.2.1, tr1.2.2.2.2.2.2.2.1, tr1.2.2.2.2.2.2.2.2.1, tr1.2.2.2.2.2.2.2.2.2.1, (tD T1 i11).1, e2, gd_true, beq_self_eq_true, bd_s, if_true, if_false, ↓reduceIte, ite_true, ite_false, Bool.and_self, Bool.and_true, Bool.true_and, Nat.reduceBEq, Bool.or_true, Bool.true_or, Bool.or_self]
    simp only [tr2.1, tr2.2.1, tr2.2.2.1, tr2.2.2.2.1, tr2.2.2.2.2.2.2.1, tr2.2.2.2.2.2.2.2.1, tr2.2.2.2.2.2.2.2.2.1, tr2.2.2.2.2.2.2.2.2.2.1, (tD T2 i11).1, e3, gd_true, beq_self_eq_true, bd_s, if_true, if_false, ↓reduceIte, ite_true, ite_false, Bool.and_self, Bool.and_true, Bool.true_and, Nat.reduceBEq, Bool.or_true, Bool.true_or, Bool.or_self]
    simp only [tr3.1, tr3.2.1, tr3.2.2.1, tr3.2.2.2.1, tr3.2.2.2.2.2.2.1, tr3.2.2.2.2.2.2.2.1, tr3.2.2.2.2.2.2.2.2.1, tr3.2.2.2.2.2.2.2.2.2.1, (tD T3 i13).1, e4, gd_true, beq_self_eq_true, bd_s, if_true, if_false, ↓reduceIte, ite_true, ite_false, Bool.and_self, Bool.and_true, Bool.true_and, Nat.reduceBEq, Bool.or_true, Bool.true_or, Bool.or_self]
    simp only [tr4.1, tr4.2.1, tr4.2.2.1, tr4.2.2.2.1, tr4.2.2.2.2.2.2.1, tr4.2.2.2.2.2.2.2.1, tr4.2.2.2.2.2.2.2.2.1, tr4.2.2.2.2.2.2.2.2.2.1, (tD T4 i13).1, e5, gd_true, beq_self_eq_true, bd_s, if_true, if_false, ↓reduceIte, ite_true, ite_false, Bool.and_self, Bool.and_true, Bool.true_and, Nat.reduceBEq, Bool.or_true, Bool.true_or, Bool.or_self]
    simp only [tr5.1, tr5.2.1, tr5.2.2.1, tr5.2.2.2.1, tr5.2.2.2.2.2.2.1, tr5.2.2.2.2.2.2.2.1, tr5.2.2.2.2.2.2.2.2.1, tr5.2.2.2.2.2.2.2.2.2.1, (tD T5 i15).1, e6, gd_true, beq_self_eq_true, bd_s, if_true, if_false, ↓reduceIte, ite_true, ite_false, Bool.and_self, Bool.and_true, Bool.true_and, Nat.reduceBEq, Bool.or_true, Bool.true_or, Bool.or_self]
    simp only [tr6.1, tr6.2.1, tr6.2.2.1, tr6.2.2.2.1, tr6.2.2.2.2.2.2.1, tr6.2.2.2.2.2.2.2.1, tr6.2.2.2.2.2.2.2.2.1, tr6.2.2.2.2.2.2.2.2.2.1, (tD T6 i15).1, e7, gd_true, beq_self_eq_true, bd_s, if_true, if_false, ↓reduceIte, ite_true, ite_false, Bool.and_self, Bool.and_true, Bool.true_and, Nat.reduceBEq, Bool.or_true, Bool.true_or, Bool.or_self]
    simp only [tr7.1, tr7.2.1, tr7.2.2.1, tr7.2.2.2.1, tr7.2.2.2.2.2.2.1, tr7.2.2.2.2.2.2.2.1, tr7.2.2.2.2.2.2.2.2.1, tr7.2.2.2.2.2.2.2.2.2.1, (tD T7 i17).1, e8, gd_true, beq_self_eq_true, bd_s, if_true, if_false, ↓reduceIte, ite_true, ite_false, Bool.and_self, Bool.and_true, Bool.true_and, Nat.reduceBEq, Bool.or_true, Bool.true_or, Bool.or_self]
    simp only [tr8.1, tr8.2.1, tr8.2.2.1, tr8.2.2.2.1, tr8.2.2.2.2.2.2.1, tr8.2.2.2.2.2.2.2.1, tr8.2.2.2.2.2.2.2.2.1, tr8.2.2.2.2.2.2.2.2.2.1, (tD T8 i17).1, e9, gd_true, beq_self_eq_true, bd_s, if_true, if_false, ↓reduceIte, ite_true, ite_false, Bool.and_self, Bool.and_true, Bool.true_and, Nat.reduceBEq, Bool.or_true, Bool.true_or, Bool.or_self]
  · rw [f9.g (by omega), f8.g (by omega), k11' n hn]
  · rw [f9.g (by omega), f8.g (by omega), f7.g (by omega), f6.g (by omega), k13 n hn]
  · rw [f9.g (by omega), f8.g (by omega), k15 n hn]
