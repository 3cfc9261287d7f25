/-! PURE: the learner's sets -/
def tel (S : Nat → Nat → Int32) (v k n : Nat) : Bool := seS S k n && (hld S k 0 v n && !opS S k 0 v n)
def tru (S : Nat → Nat → Int32) (v s n : Nat) : Bool := sw S s v n && sk S s v n
def lrn (S : Nat → Nat → Int32) (v s a n : Nat) : Bool := sk S s v n && a.testBit (yr (sF S) n)
/-- what is left behind the first entries -/
def rst (D : Nat → Bool) (tl : Nat → Nat → Bool) (l : Nat → Nat) : Nat → Nat → Bool
  | 0, n => D n
  | i + 1, n => rst D tl l i n && !tl (l i) n
def tdS (D : Nat → Bool) (tl : Nat → Nat → Bool) (l : Nat → Nat) (i n : Nat) : Bool := rst D tl l i n && tl (l i) n
def mxR (tr P : Nat → Bool) : Nat := if cnt (fun n => P n && tr n) 1461 ≤ cnt P 1461 - cnt (fun n => P n && tr n) 1461 then cnt P 1461 - cnt (fun n => P n && tr n) 1461 else cnt (fun n => P n && tr n) 1461
def smR (tr D : Nat → Bool) (tl : Nat → Nat → Bool) (l : Nat → Nat) : Nat → Nat
  | 0 => 0
  | i + 1 => smR tr D tl l i + mxR tr (tdS D tl l i)
/-- how many days a list is right on -/
def rgR (tr D : Nat → Bool) (tl : Nat → Nat → Bool) (l : Nat → Nat) (z : Nat) : Nat := smR tr D tl l z + mxR tr (rst D tl l z)
theorem mxR_le (tr P : Nat → Bool) : mxR tr P ≤ 1461 := by
  have h1 := cnt_le P 1461
  have h2 := cnt_le (fun n => P n && tr n) 1461
  unfold mxR
  split <;> omega
theorem cnt_and_le (P Q : Nat → Bool) (n : Nat) : cnt (fun i => P i && Q i) n ≤ cnt P n := cnt_mono (fun i h => by simp only [Bool.and_eq_true] at h; exact h.1) n
theorem jmx {a b : Nat} (ha : a < 2147483648) (hb : b < 2147483648) : F_Jmath_max (nI a) (nI b) = nI (if a ≤ b then b else a) := by
  unfold F_Jmath_max
  by_cases h : a < b
  · rw [if_pos (show nI a < nI b by rw [q_lt ha hb]; exact h), if_pos (by omega)]
  · rw [if_neg (show ¬ nI a < nI b by rw [q_lt ha hb]; exact h)]
    by_cases h2 : a ≤ b
    · rw [if_pos h2]; exact congrArg nI (by omega)
    · rw [if_neg h2]
/-- the learner's cells alone may differ -/
def EF (w v : AW) : Prop := Sh w v ∧ (∀ a i, ¬ (a = 136 ∨ (148 ≤ a ∧ a ≤ 150)) → wi v a i = wi w a i) ∧ (∀ a, ¬ (138 ≤ a ∧ a ≤ 166) → ∀ n, gD v a n = gD w a n) ∧ (WFs w → WFs v)
theorem EF.refl (w : AW) : EF w w := ⟨Sh.refl w, fun _ _ _ => rfl, fun _ _ _ => rfl, fun h => h⟩
theorem EF.trans {u v w : AW} (h : EF u v) (g : EF v w) : EF u w := ⟨h.1.trans g.1, fun a i ha => (g.2.1 a i ha).trans (h.2.1 a i ha), fun a ha n => (g.2.2.1 a ha n).trans (h.2.2.1 a ha n), fun W => g.2.2.2 (h.2.2.2 W)⟩
theorem EF.df {A : Nat → Prop} {w v : AW} (h : DF A w v) (hA : ∀ a, A a → 138 ≤ a ∧ a ≤ 166) : EF w v := ⟨h.sh, fun a i _ => h.wi a i, fun a ha n => h.g (fun q => ha (hA a q)) n, fun W => h.wfs W⟩
theorem EF.upI (w : AW) {a : Nat} (i : Nat) (x : Int32) (ha : a = 136 ∨ (148 ≤ a ∧ a ≤ 150)) : EF w (upI w a i x) := ⟨Sh.upI w i x (by omega), fun b j hb => by rw [wi_upI, if_neg (fun e => hb (by rw [e.1]; exact ha))], fun b _ n => gD_j (fun _ _ => rfl) b n, fun W => WFs_j (w := w) (fun _ _ => rfl) W⟩
theorem Ln_in : 138 ∈ DTab ∧ 140 ∈ DTab ∧ 142 ∈ DTab ∧ 144 ∈ DTab ∧ 146 ∈ DTab := by decide +kernel
theorem X_clear {u : AW} {a : Nat} (ta : TD u a) : ∃ u', F_Dy_clear a u = some u' ∧ DF (fun x => x = a) u u' := ⟨_, D_clear ta, DF.set _ _ rfl⟩
theorem A_tellBy {L : Nat} {xs : Nat → Int32} {w : AW} (T : Top L xs w) (W : WFs w) {k : Nat} (hk : k < 8) : ∃ w', F_Le_tellBy 136 (nI k) w = some w' ∧ DF (fun x => x = 144 ∨ x = 146) w w' ∧ (∀ n, n < 1461 → gD w' 146 n = (gD w 144 n && gD w (151 + 2 * k) n)) ∧ (∀ n, n < 1461 → gD w' 144 n = (gD w 144 n && !gD w (151 + 2 * k) n)) := by
  obtain ⟨-, -, -, i144, i146⟩ := Ln_in
  have ik := (Le_ok k hk).2
  obtain ⟨w0, p0, d0⟩ := X_clear (tD T i146)
  have T0 := T.sh d0.sh
  have W0 := d0.wfs W
  obtain ⟨w1, p1, d1, g1⟩ := X_take (tD T0 i146) (tD T0 i144) (W0 _ i144)
  have T1 := T0.sh d1.sh
  have W1 := d1.wfs W0
  obtain ⟨w2, p2, d2, g2⟩ := X_meet (tD T1 i146) (tT T1 hk).2 (W1 _ i146) (W1 _ ik)
  have T2 := T1.sh d2.sh
  have W2 := d2.wfs W1
  obtain ⟨w3, p3, d3, g3⟩ := X_leave (tD T2 i144) (tT T2 hk).2 (W2 _ i144) (W2 _ ik)
  refine ⟨w3, ?_, ((d0.mono (fun x h => .inr h)).trans (d1.mono (fun x h => .inr h))).trans ((d2.mono (fun x h => .inr h)).trans (d3.mono (fun x h => .inl h))), fun n hn => ?_, fun n hn => ?_⟩
  · unfold F_Le_tellBy
    simp (disch := omega) only [qL, ↓qM, t136 T, (tD T i146).1, p0, A_wi, q_int, t136 T0, (tD T0 i146).1, p1, t136 T1, (tD T1 i146).1, q_inb, q_nat, (tT T1 hk).1, p2, t136 T2, (tD T2 i144).1, (tT T2 hk).1, p3, gd_true, beq_self_eq_true, bd_s, if_true, if_false, ↓reduceIte, ite_true, ite_false, Bool.and_self, Bool.and_true, Bool.true_and, Nat.reduceBEq, Bool.or_true, Bool.true_or, Bool.or_self]
    rw [if_neg (by omega)]
  · rw [d3.g (by omega), g2 n hn, g1 n hn, d0.g (by omega), d1.g (by omega), d0.g (by omega)]
  · rw [g3 n hn, d2.g (by omega), d2.g (by omega), d1.g (by omega), d1.g (by omega), d0.g (by omega), d0.g (by omega)]
/-- what the learner was told -/
def LT (S : Nat → Nat → Int32) (v s a : Nat) (w : AW) : Prop := (∀ k, k < nS S → ∀ n, n < 1461 → gD w (151 + 2 * k) n = tel S v k n) ∧ (∀ n, n < 1461 → gD w 142 n = tru S v s n) ∧ (∀ n, n < 1461 → gD w 138 n = lrn S v s a n) ∧ (∀ n, n < 1461 → gD w 140 n = lrn S v s (15 - a) n)
theorem LT.same {S : Nat → Nat → Int32} {v s a : Nat} {w u : AW} (h : LT S v s a w) (hg : ∀ x, x ≠ 144 → x ≠ 146 → ∀ n, gD u x n = gD w x n) : LT S v s a u :=
  ⟨fun k hk n hn => by rw [hg _ (by omega) (by omega)]; exact h.1 k hk n hn, fun n hn => by rw [hg _ (by omega) (by omega)]; exact h.2.1 n hn, fun n hn => by rw [hg _ (by omega) (by omega)]; exact h.2.2.1 n hn, fun n hn => by rw [hg _ (by omega) (by omega)]; exact h.2.2.2 n hn⟩
theorem A_mx {L : Nat} {xs : Nat → Int32} {w : AW} (T : Top L xs w) (W : WFs w) {a : Nat} (ha : a ∈ DTab) {P tr : Nat → Bool} (hP : ∀ n, n < 1461 → gD w a n = P n) (ht : ∀ n, n < 1461 → gD w 142 n = tr n) : F_Dy_sizeWith w a 142 = some (nI (cnt (fun n => P n && tr n) 1461)) ∧ F_Dy_size w a = some (nI (cnt P 1461)) ∧ F_Jmath_max (nI (cnt (fun n => P n && tr n) 1461)) (nI (cnt P 1461) - nI (cnt (fun n => P n && tr n) 1461)) = nI (mxR tr P) := by
  have h1 := cnt_le P 1461
  have h2 := cnt_and_le P tr 1461
  refine ⟨?_, ?_, ?_⟩
  · rw [D_sizeWith (tD T ha) (tD T Ln_in.2.2.1) (W _ ha)]
    exact congrArg (fun z => some (nI z)) (cnt_congr 1461 (fun n hn => by rw [hP n hn, ht n hn]))
  · rw [D_size (tD T ha) (W _ ha)]
    exact congrArg (fun z => some (nI z)) (cnt_congr 1461 (fun n hn => hP n hn))
  · rw [pk_sub h2, jmx (by omega) (by omega)]; rfl
