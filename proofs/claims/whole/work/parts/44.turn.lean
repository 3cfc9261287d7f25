/-! PURE: a reading whole; turned years -/
/-- what a reading holds of a saying and a valley -/
def RD0 (S : Nat → Nat → Int32) (w : AW) (r k v : Nat) : Prop := ∀ n, n < 1461 → gD w (r + 1) n = seS S k n ∧ gD w (r + 3) n = (!opS S k 0 v n) ∧ gD w (r + 5) n = (hld S k 0 v n && !opS S k 0 v n)
def RD1 (S : Nat → Nat → Int32) (w : AW) (r k v : Nat) : Prop := ∀ n, n < 1461 → gD w (r + 7) n = sk S k v n ∧ gD w (r + 9) n = (sw S k v n && sk S k v n)
def cn (S : Nat → Nat → Int32) (k v n : Nat) : Bool := seS S k n && !opS S k 0 v n && sk S k v n
def RD2 (S : Nat → Nat → Int32) (w : AW) (r k v : Nat) : Prop := ∀ n, n < 1461 → gD w (r + 11) n = cn S k v n ∧ gD w (r + 13) n = (cn S k v n && hld S k 0 v n) ∧ gD w (r + 15) n = (cn S k v n && hld S k 0 v n && sw S k v n) ∧ gD w (r + 17) n = (cn S k v n && sw S k v n)
theorem SyK.sea {S : Nat → Nat → Int32} {w : AW} {k s : Nat} (K : SyK S w k s) : wi w s 5 = S 13 (12 * k + 5) ∧ wi w s 6 = S 13 (12 * k + 6) ∧ wi w s 7 = S 13 (12 * k + 7) := ⟨K.2.2.2.2.2.2.2.1, K.2.2.2.2.2.2.2.2.1, K.2.2.2.2.2.2.2.2.2.1⟩
theorem A_readFirst {L : Nat} {xs : Nat → Int32} {w : AW} (T : Top L xs w) (W : WFs w) {S : Nat → Nat → Int32} (C : CalA S w) (D : DiaA S w) (If : IMf S) (Is : IMs S) (Id : IMd S) {v k s r : Nat} (Ik : IMk S k) (K : SyK S w k s) (hs : s ∈ STab) (hv : v < 3) (hr : r ∈ RTabs) : ∃ w', F_Rd_readFirst r s (179 + 2 * v) 17 38 w = some w' ∧ DF (fun x => scA x ∨ x = r + 1 ∨ x = r + 3 ∨ x = r + 5) w w' ∧ RD0 S w' r k v := by
  obtain ⟨i1, i3, i5, i7, i9, i11, i13, i15, i17, i19, i21⟩ := RT_in r hr
  have hrb := RT_big r hr
  have ty := tY T hs
  have ks := K.sea
  have e1 := A_findSeason T C If Is (y := s) (o := r + 1) ty.1 (by rw [ks.1, ks.2.1, ks.2.2]; exact Ik.2.2.2.2) (tD T i1)
  have f1 : DF (fun x => scA x ∨ x = r + 1 ∨ x = r + 3 ∨ x = r + 5) w (setD w (r + 1) (sea S (wi w s 5) (wi w s 6) (wi w s 7))) := DF.set w _ (.inr (.inl rfl))
  have T1 := T.sh f1.sh
  obtain ⟨q1, q2, q3⟩ := K
  obtain ⟨P0, p1, p2, p3, p4⟩ := q1
  obtain ⟨u2, e2, f2, g3, g5⟩ := A_weigh T1 (f1.wfs W) (f1.dia D) Id hv (Cs_ok s hs).1 (CP_DF f1 p1) (by rw [f1.wi, q3.1]; exact Ik.1.2.2.2.2.1) Ik.1.2.2.2.2.2 p2 i3 i5 (by omega) (by unfold scA; omega) (by unfold scA; omega)
  have F2 := f1.trans (f2.mono (fun x hx => by rcases hx with h | h | h; (exact .inl h); (exact .inr (.inr (.inl h))); (exact .inr (.inr (.inr h)))))
  refine ⟨u2, ?_, F2, fun n hn => ⟨?_, g3 n hn, ?_⟩⟩
  · have tr := tR T hr
    have tr1 := tR T1 hr
    have ty1 := tY T1 hs
    unfold F_Rd_readFirst
    simp only [tr.1, tr.2.1, t17 T, e1, gd_true, beq_self_eq_true, bd_s, if_true, if_false, ↓reduceIte, ite_true, ite_false, Bool.and_self, Bool.and_true, Bool.true_and, Nat.reduceBEq, Bool.or_true, Bool.true_or, Bool.or_self]
    simp only [tr1.1, tr1.2.2.1, tr1.2.2.2.1, t38 T1, ty1.1, ty1.2.1, e2, gd_true, beq_self_eq_true, bd_s, if_true, if_false, ↓reduceIte, ite_true, ite_false, Bool.and_self, Bool.and_true, Bool.true_and, Nat.reduceBEq, Bool.or_true, Bool.true_or, Bool.or_self]
  · rw [f2.g (by unfold scA; omega), gD_eq _ _ _ hn, ks.1, ks.2.1, ks.2.2]; rfl
  · rw [g5 n hn]
    have e : opn S v (mkS S k 0) n 4 = opS S k 0 v n := rfl
    rw [e]
    by_cases ho : opS S k 0 v n = false
    · rw [CQ_run p3 p4 ho]
    · rw [show opS S k 0 v n = true by simpa using ho]; simp
theorem A_read {L : Nat} {xs : Nat → Int32} {w : AW} (T : Top L xs w) (W : WFs w) {S : Nat → Nat → Int32} (C : CalA S w) (D : DiaA S w) (If : IMf S) (Is : IMs S) (Id : IMd S) {v k s r : Nat} (Ik : IMk S k) (K : SyK S w k s) (hs : s ∈ STab) (hv : v < 3) (hr : r ∈ RTabs) : ∃ w', F_Rd_read r s (179 + 2 * v) 17 38 w = some w' ∧ DF (rdA r) w w' ∧ RD0 S w' r k v ∧ RD1 S w' r k v ∧ RD2 S w' r k v := by
  obtain ⟨i1, i3, i5, i7, i9, i11, i13, i15, i17, i19, i21⟩ := RT_in r hr
  have hrb := RT_big r hr
  obtain ⟨u1, e1, f1, R0⟩ := A_readFirst T W C D If Is Id Ik K hs hv hr
  have F1 : DF (rdA r) w u1 := f1.mono (fun x hx => by unfold rdA; rcases hx with h | h | h | h; (exact .inl h); (exact .inr (by omega)); (exact .inr (by omega)); (exact .inr (by omega)))
  have T1 := T.sh F1.sh
  have K1 := SyK_DF F1 K
  obtain ⟨q1, q2, q3⟩ := K1
  obtain ⟨P1, p1, p2, p3, p4⟩ := q2
  obtain ⟨u2, e2, f2, g19, g21⟩ := A_weigh T1 (F1.wfs W) (F1.dia D) Id hv (Cs_ok s hs).2 p1 (by rw [q3.2.1]; exact Ik.2.1.2.2.2.2.1) Ik.2.1.2.2.2.2.2 p2 i19 i21 (by omega) (by unfold scA; omega) (by unfold scA; omega)
  have F2 : DF (rdA r) w u2 := F1.trans (f2.mono (fun x hx => by unfold rdA; rcases hx with h | h | h; (exact .inl h); (exact .inr (by omega)); (exact .inr (by omega))))
  have T2 := T.sh F2.sh
  have ty2 := tY T2 hs
  have ea : isAl S k = true ∧ S 13 (12 * k + 4) = nI 1 ∨ isAl S k = false ∧ S 13 (12 * k + 4) = nI 0 := by
    rcases Ik.2.2.2.1 with h | h
    · right; refine ⟨?_, h⟩; unfold isAl; rw [h]; rfl
    · left; refine ⟨?_, h⟩; unfold isAl; rw [h]; rfl
  have hal : wi u2 s 4 = nI (isAl S k).toNat := by
    rw [f2.wi, q3.2.2.2.2.1]
    rcases ea with h | h <;> rw [h.1, h.2] <;> rfl
  obtain ⟨u3, e3, f3, g7, g9⟩ := A_spread T2 (F2.wfs W) hr ty2.1 (by rw [f2.wi, q3.2.2.1]; exact Ik.2.2.1.1) (by rw [f2.wi, q3.2.2.2.1]; exact Ik.2.2.1.2.1) Ik.2.2.1.2.2.1 Ik.2.2.1.2.2.2 hal
  have F3 : DF (rdA r) w u3 := F2.trans (f3.mono (fun x hx => by unfold rdA; rcases hx with h | h; (exact .inr (by omega)); (exact .inr (by omega))))
  have T3 := T.sh F3.sh
  have hk19 : ∀ n, gD u2 (r + 19) n = (decide (n < 1461) && !opS S k 1 v n) := fun n => by
    by_cases h : n < 1461
    · rw [g19 n h, decide_eq_true h]; rfl
    · rw [gD_ge _ _ (by omega), decide_eq_false h]; rfl
  have K7 : ∀ n, n < 1461 → gD u3 (r + 7) n = sk S k v n := fun n hn => by
    rw [g7 n hn]
    exact allF_congr _ _ (fun i hi => by rw [hk19])
  have K9 : ∀ n, n < 1461 → gD u3 (r + 9) n = (sw S k v n && sk S k v n) := fun n hn => by
    rw [g9 n hn]
    have e7 : allF (fun d => gD u2 (r + 19) (n + d)) (spA S k) (spB S k + 1 - spA S k) = sk S k v n := allF_congr _ _ (fun i hi => by rw [hk19])
    rw [e7]
    by_cases hsk : sk S k v n = true
    · rw [hsk, Bool.and_true, Bool.and_true]
      have hh : ∀ i, i < spB S k + 1 - spA S k → gD u2 (r + 21) (n + (spA S k + i)) = hld S k 1 v (n + (spA S k + i)) := fun i hi => by
        have h1 := allF_i hsk i hi
        rw [Bool.and_eq_true] at h1
        have h2 := of_decide_eq_true h1.1
        have h3 : opS S k 1 v (n + (spA S k + i)) = false := by simpa using h1.2
        rw [g21 _ h2, CQ_run p3 p4 h3]
        rw [show opn S v (mkS S k 1) (n + (spA S k + i)) 4 = opS S k 1 v (n + (spA S k + i)) from rfl, h3]; simp
      unfold sw
      split
      · exact allF_congr _ _ hh
      · exact anyF_congr _ _ hh
    · rw [show sk S k v n = false by simpa using hsk]; simp
  obtain ⟨u4, e4, f4, h11, h13, h15, h17⟩ := A_tally T3 (F3.wfs W) hr i7 i9 (by omega) (by omega)
  have F4 : DF (rdA r) w u4 := F3.trans (f4.mono (fun x hx => .inr (by omega)))
  have z0 : ∀ n, n < 1461 → gD u3 (r + 1) n = seS S k n ∧ gD u3 (r + 3) n = (!opS S k 0 v n) ∧ gD u3 (r + 5) n = (hld S k 0 v n && !opS S k 0 v n) := fun n hn => by
    have := R0 n hn
    refine ⟨?_, ?_, ?_⟩
    · rw [f3.g (by omega), f2.g (by unfold scA; omega)]; exact this.1
    · rw [f3.g (by omega), f2.g (by unfold scA; omega)]; exact this.2.1
    · rw [f3.g (by omega), f2.g (by unfold scA; omega)]; exact this.2.2
  refine ⟨u4, ?_, F4, fun n hn => ?_, fun n hn => ?_, fun n hn => ?_⟩
  · have tr := tR T hr
    have tr1 := tR T1 hr
    have tr2 := tR T2 hr
    have tr3 := tR T3 hr
    have ty1 := tY T1 hs
    unfold F_Rd_readFirst at e1
    simp only [tr.1, tr.2.1, t17 T, gd_true, beq_self_eq_true, bd_s, if_true, if_false, ↓reduceIte, ite_true, ite_false, Bool.and_self, Bool.and_true, Bool.true_and, Nat.reduceBEq, Bool.or_true, Bool.true_or, Bool.or_self] at e1
    unfold F_Rd_read
    simp only [tr.1, tr.2.1, t17 T, gd_true, beq_self_eq_true, bd_s, if_true, if_false, ↓reduceIte, ite_true, ite_false, Bool.and_self, Bool.and_true, Bool.true_and, Nat.reduceBEq, Bool.or_true, Bool.true_or, Bool.or_self]
    have ty := tY T hs
    have ks := K.sea
    rw [A_findSeason T C If Is (y := s) (o := r + 1) ty.1 (by rw [ks.1, ks.2.1, ks.2.2]; exact Ik.2.2.2.2) (tD T i1)] at e1 ⊢
    rw [bd_s] at e1 ⊢
    have f0 : DF (rdA r) w (setD w (r + 1) (sea S (wi w s 5) (wi w s 6) (wi w s 7))) := DF.set w _ (.inr (by omega))
    have T0 := T.sh f0.sh
    have tr0 := tR T0 hr
    have ty0 := tY T0 hs
    simp only [tr0.1, tr0.2.2.1, tr0.2.2.2.1, t38 T0, ty0.1, ty0.2.1, gd_true, beq_self_eq_true, bd_s, if_true, if_false, ↓reduceIte, ite_true, ite_false, Bool.and_self, Bool.and_true, Bool.true_and, Nat.reduceBEq, Bool.or_true, Bool.true_or, Bool.or_self] at e1 ⊢
    obtain ⟨y, hy1, hy2⟩ := bd_e e1
    obtain rfl : y = u1 := by simpa using hy2
    rw [hy1]
    simp only [tr1.1, tr1.2.2.2.2.2.2.2.2.2.2.1, tr1.2.2.2.2.2.2.2.2.2.2.2, t38 T1, ty1.1, ty1.2.2.1, e2, tr2.1, e3, tr3.1, tr3.2.2.2.2.1, tr3.2.2.2.2.2.1, e4, gd_true, beq_self_eq_true, bd_s, if_true, if_false, ↓reduceIte, ite_true, ite_false, Bool.and_self, Bool.and_true, Bool.true_and, Nat.reduceBEq, Bool.or_true, Bool.true_or, Bool.or_self]
  · rw [f4.g (by omega), f4.g (by omega), f4.g (by omega)]; exact z0 n hn
  · rw [f4.g (by omega), f4.g (by omega)]; exact ⟨K7 n hn, K9 n hn⟩
  · obtain ⟨z1, z3, z5⟩ := z0 n hn
    rw [h11 n hn, h13 n hn, h15 n hn, h17 n hn, z1, z3, z5, K7 n hn, K9 n hn]
    unfold cn
    cases seS S k n <;> cases opS S k 0 v n <;> cases sk S k v n <;> cases hld S k 0 v n <;> cases sw S k v n <;> exact ⟨rfl, rfl, rfl, rfl⟩
/-! turned years -/
/-- the day of the same month and date, t years on -/
def tdy (f t n : Nat) : Nat := bg f ((yr f n + t) % 4) (mo f n) + (n - bg f (yr f n) (mo f n))
def tok (f t n : Nat) : Bool := decide (n - bg f (yr f n) (mo f n) < mln f ((yr f n + t) % 4) (mo f n))
theorem tdy_lt {f t n : Nat} (hf : f < 4) (hn : n < 1461) (h : tok f t n = true) : tdy f t n < 1461 := by
  have h1 := of_decide_eq_true h
  have s := mo_spec hf hn
  have hb := bg_s f ((yr f n + t) % 4) (mo f n) s.2.2.1
  have hb2 := bg_mono f ((yr f n + t) % 4) (show 1 ≤ mo f n + 1 by omega) (show mo f n + 1 ≤ 13 by omega)
  rw [bg_13 hf (by omega)] at hb2
  have hb3 := yst_mono f (show (yr f n + t) % 4 + 1 ≤ 4 by omega)
  rw [yst_4 f hf] at hb3
  unfold tdy
  omega
theorem A_turnMonth {L : Nat} {xs : Nat → Int32} {w : AW} (T : Top L xs w) (W : WFs w) {f r y t m : Nat} (C : CF w f) (hr : r ∈ RTabs) (hy : y < 4) (h1 : 1 ≤ m) (h2 : m ≤ 12) : ∃ w', F_Rd_turnMonth r (nI y) (nI ((y + t) % 4)) (nI m) 17 w = some w' ∧ DF (fun x => x = r + 19 ∨ x = r + 21) w w' ∧ (∀ n, n < 1461 → gD w' (r + 19) n = (gD w (r + 19) n || (decide (yr f n = y) && decide (mo f n = m) && tok f t n && gD w (r + 7) (tdy f t n)))) ∧ (∀ n, n < 1461 → gD w' (r + 21) n = (gD w (r + 21) n || (decide (yr f n = y) && decide (mo f n = m) && tok f t n && gD w (r + 9) (tdy f t n)))) := by
  have hf := C.2
  obtain ⟨i1, i3, i5, i7, i9, i11, i13, i15, i17, i19, i21⟩ := RT_in r hr
  have bound : ∀ z, z < 4 → bg f z m + mln f z m ≤ 1461 := fun z hz => by
    have hb := bg_s f z m h1
    have hb2 := bg_mono f z (show 1 ≤ m + 1 by omega) (show m + 1 ≤ 13 by omega)
    rw [bg_13 hf hz] at hb2
    have hb3 := yst_mono f (show z + 1 ≤ 4 by omega)
    rw [yst_4 f hf] at hb3
    omega
  have b1 := bound y hy
  have b2 := bound ((y + t) % 4) (by omega)
  generalize hH : bg f y m = H at *
  generalize hB : bg f ((y + t) % 4) m = B at *
  generalize hM : min (mln f y m) (mln f ((y + t) % 4) m) = M
  have hM1 : M ≤ mln f y m := by omega
  have hM2 : M ≤ mln f ((y + t) % 4) m := by omega
  have loop : ∀ k fu i (u : AW), i + k = M → k < fu → DF (fun x => x = r + 19 ∨ x = r + 21) w u → (∀ n, n < 1461 → gD u (r + 19) n = (gD w (r + 19) n || (decide (H ≤ n) && decide (n < H + i) && gD w (r + 7) (B + (n - H))))) → (∀ n, n < 1461 → gD u (r + 21) n = (gD w (r + 21) n || (decide (H ≤ n) && decide (n < H + i) && gD w (r + 9) (B + (n - H))))) → ∃ w', F_Rd_turnMonth_42 fu r (nI H) (nI B) (nI M) (nI i) u = some w' ∧ DF (fun x => x = r + 19 ∨ x = r + 21) w w' ∧ (∀ n, n < 1461 → gD w' (r + 19) n = (gD w (r + 19) n || (decide (H ≤ n) && decide (n < H + M) && gD w (r + 7) (B + (n - H))))) ∧ (∀ n, n < 1461 → gD w' (r + 21) n = (gD w (r + 21) n || (decide (H ≤ n) && decide (n < H + M) && gD w (r + 9) (B + (n - H))))) := by
    intro k
    induction k with
    | zero =>
      intro fu i u hk hfu hu g19 g21
      obtain ⟨fu, rfl⟩ : ∃ m, fu = m + 1 := ⟨fu - 1, by omega⟩
      obtain rfl : i = M := by omega
      refine ⟨u, ?_, hu, g19, g21⟩
      show F_Rd_turnMonth_42_B (F_Rd_turnMonth_42 fu) _ _ _ _ _ u = _
      unfold F_Rd_turnMonth_42_B
      simp (disch := omega) only [q_le]
      rw [if_pos (Nat.le_refl _)]
    | succ k ih =>
      intro fu i u hk hfu hu g19 g21
      obtain ⟨fu, rfl⟩ : ∃ m, fu = m + 1 := ⟨fu - 1, by omega⟩
      have T1 := T.sh hu.sh
      have tr := tR T1 hr
      have d7 := tD T1 i7
      have d9 := tD T1 i9
      have d19 := tD T1 i19
      have d21 := tD T1 i21
      have w19 := hu.wf (W _ i19)
      have w21 := hu.wf (W _ i21)
      have hh7 := D_has (w := u) (n := B + i) d7 (by omega)
      have hb7 : (if gD u (r + 7) (B + i) = true then (1 : Int32) else 0) = nI (gD u (r + 7) (B + i)).toNat := by cases gD u (r + 7) (B + i) <;> rfl
      rw [hb7] at hh7
      have e7 : gD u (r + 7) (B + i) = gD w (r + 7) (B + i) := hu.g (by omega) _
      have fin : ∀ (Q : Nat → Bool) (a c : Nat) (n : Nat), n < 1461 → (Q n = (gD w a n || (decide (H ≤ n) && decide (n < H + i) && gD w c (B + (n - H))))) → (gD w c (B + i) = true → (Q n || decide (n = H + i)) = (gD w a n || (decide (H ≤ n) && decide (n < H + (i + 1)) && gD w c (B + (n - H))))) ∧ (gD w c (B + i) = false → Q n = (gD w a n || (decide (H ≤ n) && decide (n < H + (i + 1)) && gD w c (B + (n - H))))) := by
        intro Q a c n hn hQ
        rw [hQ]
        by_cases h : n = H + i
        · have e1 : B + (n - H) = B + i := by omega
          rw [e1, decide_eq_true h, decide_eq_true (by omega : H ≤ n), decide_eq_true (by omega : n < H + (i + 1)), decide_eq_false (by omega : ¬ n < H + i)]
          constructor
          · intro hc; rw [hc]; simp
          · intro hc; rw [hc]; simp
        · rw [decide_eq_false h, show (decide (n < H + i) : Bool) = decide (n < H + (i + 1)) from decide_eq_decide.mpr (by omega)]
          constructor
          · intro hc; rw [Bool.or_false]
          · intro hc; rfl
      have part2 : ∀ (u1 : AW), Sh u u1 → DF (fun x => x = r + 19 ∨ x = r + 21) w u1 → (∀ n, n < 1461 → gD u1 (r + 19) n = (gD w (r + 19) n || (decide (H ≤ n) && decide (n < H + (i + 1)) && gD w (r + 7) (B + (n - H))))) → (∀ n, n < 1461 → gD u1 (r + 21) n = (gD w (r + 21) n || (decide (H ≤ n) && decide (n < H + i) && gD w (r + 9) (B + (n - H))))) → ∃ w', F_Rd_turnMonth_76 (F_Rd_turnMonth_42 fu) r (nI H) (nI B) (nI M) (nI i) u1 = some w' ∧ DF (fun x => x = r + 19 ∨ x = r + 21) w w' ∧ (∀ n, n < 1461 → gD w' (r + 19) n = (gD w (r + 19) n || (decide (H ≤ n) && decide (n < H + M) && gD w (r + 7) (B + (n - H))))) ∧ (∀ n, n < 1461 → gD w' (r + 21) n = (gD w (r + 21) n || (decide (H ≤ n) && decide (n < H + M) && gD w (r + 9) (B + (n - H))))) := by
        intro u1 hsu hu1 k19 k21
        have T2 := T.sh hu1.sh
        have tr2 := tR T2 hr
        have x9 := tD T2 i9
        have x21 := tD T2 i21
        have y21 := hu1.wf (W _ i21)
        have hh9 := D_has (w := u1) (n := B + i) x9 (by omega)
        have hb9 : (if gD u1 (r + 9) (B + i) = true then (1 : Int32) else 0) = nI (gD u1 (r + 9) (B + i)).toNat := by cases gD u1 (r + 9) (B + i) <;> rfl
        rw [hb9] at hh9
        have e9 : gD u1 (r + 9) (B + i) = gD w (r + 9) (B + i) := hu1.g (by omega) _
        unfold F_Rd_turnMonth_76
        simp only [tr2.1, tr2.2.2.2.2.2.1, tr2.2.2.2.2.2.2.2.2.2.2.2, x9.1, x21.1, nI_add, qL, ↓qM, hh9, q_b0, D_add x21 y21 (show H + i < 1461 by omega), gd_true, beq_self_eq_true, bd_s, if_true, if_false, ↓reduceIte, ite_true, ite_false, Bool.and_self, Bool.and_true, Bool.true_and, Nat.reduceBEq, Bool.or_true, Bool.true_or, Bool.or_self]
        by_cases hb : gD w (r + 9) (B + i) = true
        · rw [if_neg (by rw [e9, hb]; simp)]
          refine ih fu (i + 1) _ (by omega) (by omega) (hu1.trans (DF.set _ _ (.inr rfl))) (fun n hn => ?_) (fun n hn => ?_)
          · rw [gD_ne _ _ _ (by omega)]; exact k19 n hn
          · rw [gD_eq _ _ _ hn]
            exact (fin (fun n => gD u1 (r + 21) n) (r + 21) (r + 9) n hn (k21 n hn)).1 hb
        · have hb2 : gD w (r + 9) (B + i) = false := by simpa using hb
          rw [if_pos (by rw [e9, hb2])]
          refine ih fu (i + 1) _ (by omega) (by omega) hu1 k19 (fun n hn => ?_)
          exact (fin (fun n => gD u1 (r + 21) n) (r + 21) (r + 9) n hn (k21 n hn)).2 hb2
      have step : ∀ x y z q, F_Rd_turnMonth_42 (fu + 1) r x y z q u = F_Rd_turnMonth_42_B (F_Rd_turnMonth_42 fu) r x y z q u := fun _ _ _ _ => rfl
      rw [step]
      unfold F_Rd_turnMonth_42_B
      simp (disch := omega) only [q_le, tr.1, tr.2.2.2.2.1, tr.2.2.2.2.2.2.2.2.2.2.1, d7.1, d19.1, nI_add, hh7, q_b0, qL, ↓qM, D_add d19 w19 (show H + i < 1461 by omega), gd_true, beq_self_eq_true, bd_s, if_true, if_false, ↓reduceIte, ite_true, ite_false, Bool.and_self, Bool.and_true, Bool.true_and, Nat.reduceBEq, Bool.or_true, Bool.true_or, Bool.or_self]
      rw [if_neg (by omega)]
      by_cases hb : gD w (r + 7) (B + i) = true
      · rw [if_neg (by rw [e7, hb]; simp)]
        refine part2 _ (Sh.setD _ _ _) (hu.trans (DF.set _ _ (.inl rfl))) (fun n hn => ?_) (fun n hn => ?_)
        · rw [gD_eq _ _ _ hn]
          exact (fin (fun n => gD u (r + 19) n) (r + 19) (r + 7) n hn (g19 n hn)).1 hb
        · rw [gD_ne _ _ _ (by omega)]; exact g21 n hn
      · have hb2 : gD w (r + 7) (B + i) = false := by simpa using hb
        rw [if_pos (by rw [e7, hb2])]
        refine part2 u (Sh.refl u) hu (fun n hn => ?_) g21
        exact (fin (fun n => gD u (r + 19) n) (r + 19) (r + 7) n hn (g19 n hn)).2 hb2
  have z0 : ∀ (n : Nat) (c : Bool), (decide (H ≤ n) && decide (n < H + 0) && c) = false := fun n c => by
    rw [← Bool.decide_and, decide_eq_false (by omega)]; rfl
  have conv : ∀ (g : Nat → Bool) (n : Nat), n < 1461 → (decide (H ≤ n) && decide (n < H + M) && g (B + (n - H))) = (decide (yr f n = y) && decide (mo f n = m) && tok f t n && g (tdy f t n)) := fun g n hn => by
    have hi := mo_iff hf hn hy h1 h2
    rw [hH] at hi
    by_cases h : yr f n = y ∧ mo f n = m
    · have h3 := hi.mpr h
      unfold tok tdy
      rw [h.1, h.2, hH, hB, decide_eq_true h3.1, decide_eq_true (Eq.refl y), decide_eq_true (Eq.refl m)]
      rw [show (decide (n < H + M) : Bool) = decide (n - H < mln f ((y + t) % 4) m) from decide_eq_decide.mpr (by omega)]
      rfl
    · have h4 : (decide (H ≤ n) && decide (n < H + M)) = false := by
        rw [← Bool.decide_and]
        exact decide_eq_false (fun h5 => h (hi.mp (by omega)))
      have h6 : (decide (yr f n = y) && decide (mo f n = m)) = false := by
        rw [← Bool.decide_and]
        exact decide_eq_false h
      rw [h4, h6]; rfl
  obtain ⟨w', r1, r2, r3, r4⟩ := loop M FUEL 0 w (by omega) (Nat.lt_of_le_of_lt (by have := mln_le f y m; omega : M ≤ 31) (by decide)) (DF.refl _ _) (fun n hn => by rw [z0, Bool.or_false]) (fun n hn => by rw [z0, Bool.or_false])
  refine ⟨w', ?_, r2, fun n hn => ?_, fun n hn => ?_⟩
  · have l1 := mln_le f y m
    have l2 := mln_le f ((y + t) % 4) m
    unfold F_Rd_turnMonth
    rw [l_1, A_dayOf1 T C hy h1 h2, A_dayOf1 T C (by omega) h1 h2, A_monthLength T C hy h1 h2, A_monthLength T C (by omega) h1 h2, hH, hB]
    simp (disch := omega) only [t17 T, q_min, hM, l_0, gd_true, beq_self_eq_true, bd_s, if_true, if_false, ↓reduceIte, ite_true, ite_false, Bool.and_self, Bool.and_true, Bool.true_and, Nat.reduceBEq, Bool.or_true, Bool.true_or, Bool.or_self]
    exact r1
  · rw [r3 n hn, conv _ n hn]
  · rw [r4 n hn, conv _ n hn]
theorem A_turn {L : Nat} {xs : Nat → Int32} {w : AW} (T : Top L xs w) (W : WFs w) {S : Nat → Nat → Int32} (C : CalA S w) (If : IMf S) {r t k v : Nat} (hr : r ∈ RTabs) (ht : t < 4) (R0 : RD0 S w r k v) (R1 : RD1 S w r k v) : ∃ w', F_Rd_turn r (nI t) 17 w = some w' ∧ DF (fun x => r + 11 ≤ x ∧ x ≤ r + 21) w w' ∧ (∀ n, n < 1461 → gD w' (r + 13) n = (seS S k n && (!opS S k 0 v n && hld S k 0 v n) && (tok (sF S) t n && sk S k v (tdy (sF S) t n)))) ∧ (∀ n, n < 1461 → gD w' (r + 15) n = (seS S k n && (!opS S k 0 v n && hld S k 0 v n) && (tok (sF S) t n && sk S k v (tdy (sF S) t n)) && sw S k v (tdy (sF S) t n))) := by
  have hf := If.2
  obtain ⟨i1, i3, i5, i7, i9, i11, i13, i15, i17, i19, i21⟩ := RT_in r hr
  have hrb := RT_big r hr
  generalize hF : sF S = f at *
  have inner : ∀ (rec16 : Nat → Int32 → Nat → Int32 → AW → Option AW) (y : Nat), y < 4 → ∀ j fu m (u : AW), 1 ≤ m → m + j = 13 → j < fu → DF (fun x => x = r + 19 ∨ x = r + 21) w u → (∀ n, n < 1461 → gD u (r + 19) n = (decide (yr f n < y ∨ (yr f n = y ∧ mo f n < m)) && (tok f t n && gD w (r + 7) (tdy f t n)))) → (∀ n, n < 1461 → gD u (r + 21) n = (decide (yr f n < y ∨ (yr f n = y ∧ mo f n < m)) && (tok f t n && gD w (r + 9) (tdy f t n)))) → ∃ u', F_Rd_turn_24 rec16 fu r (nI t) 17 (nI y) (nI m) u = rec16 r (nI t) 17 (nI (y + 1)) u' ∧ DF (fun x => x = r + 19 ∨ x = r + 21) w u' ∧ (∀ n, n < 1461 → gD u' (r + 19) n = (decide (yr f n < y + 1) && (tok f t n && gD w (r + 7) (tdy f t n)))) ∧ (∀ n, n < 1461 → gD u' (r + 21) n = (decide (yr f n < y + 1) && (tok f t n && gD w (r + 9) (tdy f t n)))) := by
    intro rec16 y hy j
    induction j with
    | zero =>
      intro fu m u h1 hj hfu hu g19 g21
      obtain ⟨fu, rfl⟩ : ∃ m, fu = m + 1 := ⟨fu - 1, by omega⟩
      have e : ∀ n, n < 1461 → decide (yr f n < y ∨ (yr f n = y ∧ mo f n < m)) = decide (yr f n < y + 1) := fun n hn => by
        have := mo_spec hf hn
        exact decide_eq_decide.mpr (by omega)
      refine ⟨u, ?_, hu, fun n hn => by rw [g19 n hn, e n hn], fun n hn => by rw [g21 n hn, e n hn]⟩
      show F_Rd_turn_24_B rec16 (F_Rd_turn_24 rec16 fu) _ _ _ _ _ u = _
      unfold F_Rd_turn_24_B
      simp (disch := omega) only [qL, ↓qM, q_lt, nI_add]
      rw [if_pos (by omega)]
    | succ j ih =>
      intro fu m u h1 hj hfu hu g19 g21
      obtain ⟨fu, rfl⟩ : ∃ m, fu = m + 1 := ⟨fu - 1, by omega⟩
      have T1 := T.sh hu.sh
      have tr := tR T1 hr
      have Cf : CF u f := by rw [← hF]; exact (hu.cal C).cf If
      obtain ⟨u1, e1, f1, k19, k21⟩ := A_turnMonth (t := t) T1 (hu.wfs W) Cf hr hy h1 (by omega : m ≤ 12)
      have U1 := hu.trans f1
      have ex : ∀ (n : Nat) (b : Bool), (decide (yr f n < y ∨ (yr f n = y ∧ mo f n < m)) && b || (decide (yr f n = y) && decide (mo f n = m) && b)) = (decide (yr f n < y ∨ (yr f n = y ∧ mo f n < m + 1)) && b) := fun n b => by
        cases b
        · simp
        · rw [Bool.and_true, Bool.and_true, Bool.and_true, ← Bool.decide_and, ← Bool.decide_or]
          exact decide_eq_decide.mpr (by omega)
      obtain ⟨u', r1, r2⟩ := ih fu (m + 1) u1 (by omega) (by omega) (by omega) U1 (fun n hn => by
        rw [k19 n hn, g19 n hn, hu.g (by omega), Bool.and_assoc (decide (yr f n = y) && decide (mo f n = m))]
        exact ex n _) (fun n hn => by
        rw [k21 n hn, g21 n hn, hu.g (by omega), Bool.and_assoc (decide (yr f n = y) && decide (mo f n = m))]
        exact ex n _)
      refine ⟨u', ?_, r2⟩
      show F_Rd_turn_24_B rec16 (F_Rd_turn_24 rec16 fu) _ _ _ _ _ u = _
      unfold F_Rd_turn_24_B
      simp (disch := omega) only [qL, ↓qM, q_lt, nI_add, q_rem, tr.1, e1, gd_true, beq_self_eq_true, bd_s, if_true, if_false, ↓reduceIte, ite_true, ite_false, Bool.and_self, Bool.and_true, Bool.true_and, Nat.reduceBEq, Bool.or_true, Bool.true_or, Bool.or_self]
      rw [if_neg (by omega)]
      exact r1
  have outer : ∀ j fu y (u : AW), y + j = 4 → j < fu → DF (fun x => x = r + 19 ∨ x = r + 21) w u → (∀ n, n < 1461 → gD u (r + 19) n = (decide (yr f n < y) && (tok f t n && gD w (r + 7) (tdy f t n)))) → (∀ n, n < 1461 → gD u (r + 21) n = (decide (yr f n < y) && (tok f t n && gD w (r + 9) (tdy f t n)))) → ∃ w', F_Rd_turn_16 fu r (nI t) 17 (nI y) u = some w' ∧ DF (fun x => r + 11 ≤ x ∧ x ≤ r + 21) w w' ∧ (∀ n, n < 1461 → gD w' (r + 13) n = (gD w (r + 1) n && gD w (r + 3) n && (tok f t n && gD w (r + 7) (tdy f t n)) && gD w (r + 5) n)) ∧ (∀ n, n < 1461 → gD w' (r + 15) n = (gD w (r + 1) n && gD w (r + 3) n && (tok f t n && gD w (r + 7) (tdy f t n)) && gD w (r + 5) n && (tok f t n && gD w (r + 9) (tdy f t n)))) := by
    intro j
    induction j with
    | zero =>
      intro fu y u hj hfu hu g19 g21
      obtain ⟨fu, rfl⟩ : ∃ m, fu = m + 1 := ⟨fu - 1, by omega⟩
      have T1 := T.sh hu.sh
      have tr := tR T1 hr
      obtain ⟨w', e1, f1, h11, h13, h15, h17⟩ := A_tally T1 (hu.wfs W) hr i19 i21 (by omega) (by omega)
      have e : ∀ n, decide (yr f n < y) = true := fun n => by
        have := yr_le f n
        exact decide_eq_true (by omega)
      refine ⟨w', ?_, (hu.mono (fun x hx => by omega)).trans (f1.mono (fun x hx => by omega)), fun n hn => ?_, fun n hn => ?_⟩
      · show F_Rd_turn_16_B (F_Rd_turn_16 fu) _ _ _ _ u = _
        unfold F_Rd_turn_16_B
        simp (disch := omega) only [qL, ↓qM, q_le, tr.1, tr.2.2.2.2.2.2.2.2.2.2.1, tr.2.2.2.2.2.2.2.2.2.2.2, e1, gd_true, beq_self_eq_true, bd_s, if_true, if_false, ↓reduceIte, ite_true, ite_false, Bool.and_self, Bool.and_true, Bool.true_and, Nat.reduceBEq, Bool.or_true, Bool.true_or, Bool.or_self]
        rw [if_pos (by omega)]
      · rw [h13 n hn, g19 n hn, e n, hu.g (by omega), hu.g (by omega), hu.g (by omega), Bool.true_and]
      · rw [h15 n hn, g19 n hn, g21 n hn, e n, hu.g (by omega), hu.g (by omega), hu.g (by omega), Bool.true_and, Bool.true_and]
    | succ j ih =>
      intro fu y u hj hfu hu g19 g21
      obtain ⟨fu, rfl⟩ : ∃ m, fu = m + 1 := ⟨fu - 1, by omega⟩
      have e : ∀ n, n < 1461 → decide (yr f n < y ∨ (yr f n = y ∧ mo f n < 1)) = decide (yr f n < y) := fun n hn => by
        have := mo_spec hf hn
        exact decide_eq_decide.mpr (by omega)
      obtain ⟨u1, e1, f1, k19, k21⟩ := inner (F_Rd_turn_16 fu) y (by omega) 12 FUEL 1 u (by omega) (by omega) (by decide) hu (fun n hn => by rw [g19 n hn, e n hn]) (fun n hn => by rw [g21 n hn, e n hn])
      obtain ⟨w', r1, r2⟩ := ih fu (y + 1) u1 (by omega) (by omega) f1 k19 k21
      refine ⟨w', ?_, r2⟩
      show F_Rd_turn_16_B (F_Rd_turn_16 fu) _ _ _ _ u = _
      unfold F_Rd_turn_16_B
      simp (disch := omega) only [l_4, q_le]
      rw [if_neg (by omega), l_1, e1]
      exact r1
  have tr := tR T hr
  have d19 := tD T i19
  have d21 := tD T i21
  obtain ⟨w', o1, o2, o3, o4⟩ := outer 4 FUEL 0 (setD (setD w (r + 19) (fun _ => false)) (r + 21) (fun _ => false)) (by omega) (by decide) ((DF.set _ _ (.inl rfl)).trans (DF.set _ _ (.inr rfl))) (fun n hn => by rw [gD_ne _ _ _ (by omega), gD_eq _ _ _ hn]; simp) (fun n hn => by rw [gD_eq _ _ _ hn]; simp)
  refine ⟨w', ?_, o2, fun n hn => ?_, fun n hn => ?_⟩
  · unfold F_Rd_turn
    simp only [tr.1, tr.2.2.2.2.2.2.2.2.2.2.1, tr.2.2.2.2.2.2.2.2.2.2.2, d19.1, D_clear d19, wk_setD, wr_setD, d21.1, D_clear (TD_setD _ _ d21), gd_true, beq_self_eq_true, bd_s, if_true, if_false, ↓reduceIte, ite_true, ite_false, Bool.and_self, Bool.and_true, Bool.true_and, Nat.reduceBEq, Bool.or_true, Bool.true_or, Bool.or_self]
    exact o1
  · obtain ⟨z1, z3, z5⟩ := R0 n hn
    rw [o3 n hn, z1, z3, z5]
    by_cases htk : tok f t n = true
    · rw [(R1 _ (tdy_lt hf hn htk)).1]
      cases seS S k n <;> cases opS S k 0 v n <;> cases hld S k 0 v n <;> simp
    · rw [show tok f t n = false by simpa using htk]; simp
  · obtain ⟨z1, z3, z5⟩ := R0 n hn
    rw [o4 n hn, z1, z3, z5]
    by_cases htk : tok f t n = true
    · rw [(R1 _ (tdy_lt hf hn htk)).1, (R1 _ (tdy_lt hf hn htk)).2]
      cases seS S k n <;> cases opS S k 0 v n <;> cases hld S k 0 v n <;> cases sk S k v (tdy f t n) <;> cases sw S k v (tdy f t n) <;> simp
    · rw [show tok f t n = false by simpa using htk]; simp
