/-! PURE: the class's page: levels and steps -/
/-- what may have changed lies in X -/
def FR (X : Nat → Nat → Prop) (w v : AW) : Prop := wz v = wz w ∧ wq v = wq w ∧ (∀ a, wk v a = wk w a) ∧ (∀ a, wn v a = wn w a) ∧ (∀ a i, wr v a i = wr w a i) ∧ (∀ a i, wj v a i = wj w a i) ∧ (∀ a i, ¬ X a i → wi v a i = wi w a i)
theorem FR.refl (X : Nat → Nat → Prop) (w : AW) : FR X w w := ⟨rfl, rfl, fun _ => rfl, fun _ => rfl, fun _ _ => rfl, fun _ _ => rfl, fun _ _ _ => rfl⟩
theorem FR.trans {X : Nat → Nat → Prop} {u v w : AW} (h : FR X u v) (g : FR X v w) : FR X u w := ⟨g.1.trans h.1, g.2.1.trans h.2.1, fun a => (g.2.2.1 a).trans (h.2.2.1 a), fun a => (g.2.2.2.1 a).trans (h.2.2.2.1 a), fun a i => (g.2.2.2.2.1 a i).trans (h.2.2.2.2.1 a i), fun a i => (g.2.2.2.2.2.1 a i).trans (h.2.2.2.2.2.1 a i), fun a i hx => (g.2.2.2.2.2.2 a i hx).trans (h.2.2.2.2.2.2 a i hx)⟩
theorem FR.mono {X Y : Nat → Nat → Prop} {w v : AW} (h : FR X w v) (hXY : ∀ a i, X a i → Y a i) : FR Y w v := ⟨h.1, h.2.1, h.2.2.1, h.2.2.2.1, h.2.2.2.2.1, h.2.2.2.2.2.1, fun a i hx => h.2.2.2.2.2.2 a i (fun q => hx (hXY a i q))⟩
theorem FR.s {X : Nat → Nat → Prop} {w v : AW} (h : FR X w v) (a i : Nat) (x : Int32) (hx : X a i) : FR X w (upI v a i x) :=
  h.trans ⟨rfl, rfl, fun _ => rfl, fun _ => rfl, fun _ _ => rfl, fun _ _ => rfl, fun b j hb => by rw [wi_upI, if_neg (fun e => hb (by rw [e.1, e.2]; exact hx))]⟩
theorem FR.i {X : Nat → Nat → Prop} {w v : AW} (h : FR X w v) {a i : Nat} (hx : ¬ X a i) : wi v a i = wi w a i := h.2.2.2.2.2.2 a i hx
theorem FR.r {X : Nat → Nat → Prop} {w v : AW} (h : FR X w v) (a i : Nat) : wr v a i = wr w a i := h.2.2.2.2.1 a i
theorem FR.sh {X : Nat → Nat → Prop} {w v : AW} (h : FR X w v) (hX : ∀ a i, X a i → 16 ≤ a) : Sh w v := ⟨h.1, h.2.1, h.2.2.1, h.2.2.2.1, h.2.2.2.2.1, fun a i ha => h.i (fun q => by have := hX a i q; omega)⟩
theorem wu0 (w : AW) (a i : Nat) (x : Int32) : wi (upI w a i x) a i = x := by rw [wi_upI, if_pos ⟨rfl, rfl⟩]
theorem wu1 {w : AW} {a i : Nat} {x : Int32} {b j : Nat} (h : ¬ (b = a ∧ j = i)) : wi (upI w a i x) b j = wi w b j := by rw [wi_upI, if_neg h]
theorem CTab_rng : ∀ c ∈ CTab, c = 26 ∨ c = 29 ∨ (186 ≤ c ∧ c ≤ 238) := by decide +kernel
def LC (u : AW) (V : Nat → Nat → Int32) (g : Nat) : Prop := ∀ j i, j < 5 → i ≤ g → wi u (32 + j) i = V j i
def XO (g a i : Nat) : Prop := (a = 23 ∧ i = 11) ∨ (32 ≤ a ∧ a ≤ 36 ∧ i = g)
def XF (c g a i : Nat) : Prop := (32 ≤ a ∧ a ≤ 36 ∧ i = g) ∨ (a = c ∧ i = 2) ∨ a = c + 1 ∨ a = c + 2
section
variable {L : Nat} {xs : Nat → Int32} {u : AW} {V : Nat → Nat → Int32}
theorem A_level (T : Top L xs u) {g : Nat} (hg : g ≤ 80) (h : wi u 23 11 = nI g) : F_Pg_level u 23 = some (nI g) := by
  unfold F_Pg_level
  simp (disch := omega) only [qL, ↓qM, q_lt, t23 T, h, gd_true, beq_self_eq_true, bd_s, if_true, if_false, ↓reduceIte, ite_true, ite_false, Bool.and_self, Bool.and_true, Bool.true_and, Nat.reduceBEq, Bool.or_true, Bool.true_or, Bool.or_self]
  rw [if_neg (by omega), if_neg (by omega)]
theorem A_open (T : Top L xs u) {g : Nat} (hg : g ≤ 80) : ∃ v, F_Pg_openLevel 23 (nI g) u = some (nI 1, v) ∧ FR (XO g) u v ∧ wi v 23 11 = nI g ∧ ∀ j, j < 5 → wi v (32 + j) g = nI 0 := by
  refine ⟨_, ?_, ((((((FR.refl (XO g) u).s 23 11 (nI g) ?_).s 32 g (nI 0) ?_).s 33 g (nI 0) ?_).s 34 g (nI 0) ?_).s 35 g (nI 0) ?_).s 36 g (nI 0) ?_, ?_, ?_⟩
  · unfold F_Pg_openLevel
    simp (disch := omega) only [qL, ↓qM, q_lt, q_le, t23 T, q_inb, q_nat, wk_upI, wn_upI, wr_upI, gd_true, beq_self_eq_true, bd_s, if_true, if_false, ↓reduceIte, ite_true, ite_false, Bool.and_self, Bool.and_true, Bool.true_and, Nat.reduceBEq, Bool.or_true, Bool.true_or, Bool.or_self]
    rw [if_neg (by omega), if_pos (by omega)]
  · exact .inl ⟨rfl, rfl⟩
  · exact .inr ⟨by omega, by omega, rfl⟩
  · exact .inr ⟨by omega, by omega, rfl⟩
  · exact .inr ⟨by omega, by omega, rfl⟩
  · exact .inr ⟨by omega, by omega, rfl⟩
  · exact .inr ⟨by omega, by omega, rfl⟩
  · simp (disch := omega) only [wu0, wu1]
  · intro j hj
    have : j = 0 ∨ j = 1 ∨ j = 2 ∨ j = 3 ∨ j = 4 := by omega
    rcases this with e | e | e | e | e <;> subst e <;> simp (disch := omega) only [Nat.reduceAdd, wu0, wu1]
theorem LC.opn {g h : Nat} (lc : LC u V h) (hg : g ≤ h + 1) {v : AW} (fr : FR (XO g) u v) (hz : ∀ j, j < 5 → wi v (32 + j) g = nI 0) : LC v (opL V g) g := by
  intro j i hj hi
  by_cases e : i = g
  · subst e; rw [opL_eq]; exact hz j hj
  · rw [opL_ne e, fr.i (fun q => by rcases q with q | q <;> omega)]
    exact lc j i hj (by omega)
theorem LC.mono {g h : Nat} (lc : LC u V h) (hg : g ≤ h) : LC u V g := fun j i hj hi => lc j i hj (by omega)
theorem A_endF44 (T : Top L xs u) {g : Nat} (hg : g ≤ 80) (lc : LC u V g) (d : Int32) : ∃ v, F_Pg_endFactor_44 23 d (nI g) u = some v ∧ FR (XO g) u v ∧ wi v 23 11 = wi u 23 11 ∧ LC v (adF V g d) g := by
  have l0 : wi u 32 g = V 0 g := lc 0 g (by omega) (by omega)
  have l1 : wi u 33 g = V 1 g := lc 1 g (by omega) (by omega)
  have l2 : wi u 34 g = V 2 g := lc 2 g (by omega) (by omega)
  have l3 : wi u 35 g = V 3 g := lc 3 g (by omega) (by omega)
  have l4 : wi u 36 g = V 4 g := lc 4 g (by omega) (by omega)
  refine ⟨_, ?_, (((FR.refl (XO g) u).s 33 g (V 1 g + nI 1) ?_).s 34 g (imx (V 2 g) (d + V 0 g)) ?_).s 32 g (nI 0) ?_, ?_, ?_⟩
  · unfold F_Pg_endFactor_44
    simp (disch := omega) only [qL, ↓qM, t23 T, q_inb, q_nat, wk_upI, wn_upI, wr_upI, wu0, wu1, l0, l1, l2, gd_true, beq_self_eq_true, bd_s, if_true, if_false, ↓reduceIte, ite_true, ite_false, Bool.and_self, Bool.and_true, Bool.true_and, Nat.reduceBEq, Bool.or_true, Bool.true_or, Bool.or_self]
    rfl
  · exact .inr ⟨by omega, by omega, rfl⟩
  · exact .inr ⟨by omega, by omega, rfl⟩
  · exact .inr ⟨by omega, by omega, rfl⟩
  · simp (disch := omega) only [wu0, wu1]
  · intro j i hj hi
    by_cases e : i = g
    · subst e
      have : j = 0 ∨ j = 1 ∨ j = 2 ∨ j = 3 ∨ j = 4 := by omega
      rcases this with e | e | e | e | e <;> subst e <;> simp (disch := omega) only [Nat.reduceAdd, wu0, wu1, l0, l1, l2, l3, l4, adF_0, adF_1, adF_2, adF_3]
    · rw [adF_ne e, wu1 (by omega), wu1 (by omega), wu1 (by omega)]
      exact lc j i hj hi
theorem stW_fr {c g : Nat} (n m : Nat) : FR (XF c g) u (stW u c n m) := by
  unfold stW
  refine (((FR.refl (XF c g) u).s (c + 1) n _ ?_).s (c + 2) n _ ?_).s c 2 _ ?_
  · exact .inr (.inr (.inl rfl))
  · exact .inr (.inr (.inr rfl))
  · exact .inr (.inl ⟨rfl, rfl⟩)
theorem XF_16 {c g : Nat} (hc : c ∈ CTab) : ∀ a i, XF c g a i → 16 ≤ a := by
  intro a i h
  have := CTab_rng c hc
  unfold XF at h
  omega
theorem LC.xf {c h : Nat} (lc : LC u V h) (hc : c ∈ CTab) (n m : Nat) : LC (stW u c n m) V h := by
  intro j i hj hi
  have := CTab_rng c hc
  rw [stW_ne _ _ _ _ (by omega)]
  exact lc j i hj hi
theorem CP.xo {c g : Nat} {v : AW} {P : List (Nat × Int)} (hP : CP u c P) (hc : c ∈ CTab) (fr : FR (XO g) u v) : CP v c P := by
  have := CTab_rng c hc
  have q : ∀ a i, c ≤ a → a ≤ c + 2 → wi v a i = wi u a i := fun a i h1 h2 => fr.i (fun q => by unfold XO at q; omega)
  unfold CP
  rw [q c 2 (by omega) (by omega)]
  refine ⟨hP.1, hP.2.1, fun i m z h => ?_⟩
  rw [q (c + 1) i (by omega) (by omega), q (c + 2) i (by omega) (by omega)]
  exact hP.2.2 i m z h
theorem XO_XF {c g : Nat} : ∀ a i, XO g a i → (a = 23 ∧ i = 11) ∨ XF c g a i := fun a i h => h.elim .inl (fun q => .inr (.inl q))
def XE (c g a i : Nat) : Prop := (a = 23 ∧ i = 11) ∨ XF c g a i
theorem XE_16 {c g : Nat} (hc : c ∈ CTab) : ∀ a i, XE c g a i → 16 ≤ a := by
  intro a i h
  rcases h with h | h
  · omega
  · exact XF_16 hc a i h
theorem A_endF26 (T : Top L xs u) {g f c : Nat} {P : List (Nat × Int)} (hg : g ≤ 80) (lc : LC u V g) (d : Int32) (hf : V 1 g = nI f) (hf8 : f ≤ 80) (hc : wr u 23 3 = c) (hcT : c ∈ CTab) (hP : CP u c P) (hl : P.length + 1 ≤ 80) : ∃ v, F_Pg_endFactor_26 23 d (nI g) u = some v ∧ FR (XE c g) u v ∧ wi v 23 11 = wi u 23 11 ∧ LC v (adF V g d) g ∧ CP v c (P ++ adl f) := by
  have l1 : wi u 33 g = nI f := (lc 1 g (by omega) (by omega)).trans hf
  have rg := CTab_rng c hcT
  unfold F_Pg_endFactor_26
  simp (disch := omega) only [qL, ↓qM, t23 T, q_inb, q_nat, q_le, l1, hc, gd_true, beq_self_eq_true, bd_s, if_true, if_false, ↓reduceIte, ite_true, ite_false, Bool.and_self, Bool.and_true, Bool.true_and, Nat.reduceBEq, Bool.or_true, Bool.true_or, Bool.or_self]
  by_cases e : f = 0
  · rw [if_pos (by omega)]
    obtain ⟨v, h1, h2, h3, h4⟩ := A_endF44 T hg lc d
    exact ⟨v, h1, h2.mono XO_XF, h3, h4, by unfold adl; rw [if_pos e, List.append_nil]; exact hP.xo hcT h2⟩
  · rw [if_neg (by omega)]
    have tc := tC T hcT
    obtain ⟨a1, a2⟩ := A_addStep tc hP (by omega) (show 13 ≤ 14 by omega)
    have fr : FR (XF c g) u (stW u c P.length 13) := stW_fr _ _
    have T1 := T.sh (fr.sh (XF_16 hcT))
    obtain ⟨v, h1, h2, h3, h4⟩ := A_endF44 T1 hg (lc.xf hcT P.length 13) d
    refine ⟨v, ?_, (fr.mono (fun a i q => .inr q)).trans (h2.mono XO_XF), ?_, h4, by unfold adl; rw [if_neg e]; exact a2.xo hcT h2⟩
    · simp only [tc.1, a1, h1, gd_true, beq_self_eq_true, bd_s, if_true, if_false, ↓reduceIte, ite_true, ite_false, Bool.and_self, Bool.and_true, Bool.true_and, Nat.reduceBEq, Bool.or_true, Bool.true_or, Bool.or_self]
    · rw [h3, stW_ne _ _ _ _ (by omega)]
theorem A_endFactor (T : Top L xs u) {g n f c : Nat} {P : List (Nat × Int)} (hg : g ≤ 80) (ho : wi u 23 11 = nI g) (lc : LC u V g) (d : Int32) (hn : V 0 g = nI n) (hf : V 1 g = nI f) (hn8 : n ≤ 80) (hf8 : f ≤ 80) (hc : wr u 23 3 = c) (hcT : c ∈ CTab) (hP : CP u c P) (hl : P.length + 2 ≤ 80) : ∃ v, F_Pg_endFactor 23 d u = some v ∧ FR (XE c g) u v ∧ wi v 23 11 = nI g ∧ LC v (adF V g d) g ∧ CP v c ((P ++ ntl n) ++ adl f) := by
  have l0 : wi u 32 g = nI n := (lc 0 g (by omega) (by omega)).trans hn
  have rg := CTab_rng c hcT
  unfold F_Pg_endFactor
  simp (disch := omega) only [qL, ↓qM, A_level T hg ho, t23 T, q_inb, q_nat, q_rem, q_eq, l0, hc, gd_true, beq_self_eq_true, bd_s, if_true, if_false, ↓reduceIte, ite_true, ite_false, Bool.and_self, Bool.and_true, Bool.true_and, Nat.reduceBEq, Bool.or_true, Bool.true_or, Bool.or_self]
  by_cases e : n % 2 = 1
  · rw [if_pos e]
    have tc := tC T hcT
    obtain ⟨a1, a2⟩ := A_addStep tc hP (by omega) (show 12 ≤ 14 by omega)
    have fr : FR (XF c g) u (stW u c P.length 12) := stW_fr _ _
    have T1 := T.sh (fr.sh (XF_16 hcT))
    obtain ⟨v, h1, h2, h3, h4, h5⟩ := A_endF26 T1 hg (lc.xf hcT P.length 12) d hf hf8 ((fr.r 23 3).trans hc) hcT a2 (by rw [List.length_append]; show P.length + 1 + 1 ≤ 80; omega)
    refine ⟨v, ?_, (fr.mono (fun a i q => .inr q)).trans h2, ?_, h4, by unfold ntl; rw [if_pos e]; exact h5⟩
    · simp only [tc.1, a1, h1, gd_true, beq_self_eq_true, bd_s, if_true, if_false, ↓reduceIte, ite_true, ite_false, Bool.and_self, Bool.and_true, Bool.true_and, Nat.reduceBEq, Bool.or_true, Bool.true_or, Bool.or_self]
    · rw [h3, stW_ne _ _ _ _ (by omega)]; exact ho
  · rw [if_neg e]
    obtain ⟨v, h1, h2, h3, h4, h5⟩ := A_endF26 T hg lc d hf hf8 hc hcT hP (by omega)
    exact ⟨v, h1, h2, h3.trans ho, h4, by unfold ntl; rw [if_neg e, List.append_nil]; exact h5⟩
theorem A_endT60 (T : Top L xs u) {g : Nat} (hg : g ≤ 80) (lc : LC u V g) : ∃ v, F_Pg_endTerm_23 23 (nI g) u = some v ∧ FR (XO g) u v ∧ wi v 23 11 = wi u 23 11 ∧ LC v (enT V g) g := by
  have l0 : wi u 32 g = V 0 g := lc 0 g (by omega) (by omega)
  have l1 : wi u 33 g = V 1 g := lc 1 g (by omega) (by omega)
  have l2 : wi u 34 g = V 2 g := lc 2 g (by omega) (by omega)
  have l3 : wi u 35 g = V 3 g := lc 3 g (by omega) (by omega)
  have l4 : wi u 36 g = V 4 g := lc 4 g (by omega) (by omega)
  refine ⟨_, ?_, ((((FR.refl (XO g) u).s 35 g (V 3 g + nI 1) ?_).s 36 g (imx (V 4 g) (if V 1 g ≤ nI 1 then V 2 g else V 2 g + nI 1)) ?_).s 33 g (nI 0) ?_).s 34 g (nI 0) ?_, ?_, ?_⟩
  · unfold F_Pg_endTerm_23 F_Pg_endTerm_60
    simp (disch := omega) only [qL, ↓qM, t23 T, q_inb, q_nat, wk_upI, wn_upI, wr_upI, wu0, wu1, l0, l1, l2, l3, l4, gd_true, beq_self_eq_true, bd_s, if_true, if_false, ↓reduceIte, ite_true, ite_false, Bool.and_self, Bool.and_true, Bool.true_and, Nat.reduceBEq, Bool.or_true, Bool.true_or, Bool.or_self]
    by_cases e : V 1 g ≤ nI 1
    · rw [if_pos e, if_pos e]; rfl
    · rw [if_neg e, if_neg e]; rfl
  · exact .inr ⟨by omega, by omega, rfl⟩
  · exact .inr ⟨by omega, by omega, rfl⟩
  · exact .inr ⟨by omega, by omega, rfl⟩
  · exact .inr ⟨by omega, by omega, rfl⟩
  · simp (disch := omega) only [wu0, wu1]
  · intro j i hj hi
    by_cases e : i = g
    · subst e
      have : j = 0 ∨ j = 1 ∨ j = 2 ∨ j = 3 ∨ j = 4 := by omega
      rcases this with e | e | e | e | e <;> subst e
      · simp (disch := omega) only [Nat.reduceAdd, wu0, wu1, l0, enT_0]
      · rw [enT_1 (.inl rfl)]; simp (disch := omega) only [Nat.reduceAdd, wu0, wu1]
      · rw [enT_1 (.inr rfl)]; simp (disch := omega) only [Nat.reduceAdd, wu0, wu1]
      · simp (disch := omega) only [Nat.reduceAdd, wu0, wu1, enT_3]
      · simp (disch := omega) only [Nat.reduceAdd, wu0, wu1, enT_4]
    · rw [enT_ne e, wu1 (by omega), wu1 (by omega), wu1 (by omega), wu1 (by omega)]
      exact lc j i hj hi
theorem A_endTerm (T : Top L xs u) {g t c : Nat} {P : List (Nat × Int)} (hg : g ≤ 80) (ho : wi u 23 11 = nI g) (lc : LC u V g) (ht : V 3 g = nI t) (ht8 : t ≤ 80) (hc : wr u 23 3 = c) (hcT : c ∈ CTab) (hP : CP u c P) (hl : P.length + 1 ≤ 80) : ∃ v, F_Pg_endTerm 23 u = some v ∧ FR (XE c g) u v ∧ wi v 23 11 = nI g ∧ LC v (enT V g) g ∧ CP v c (P ++ orl t) := by
  have l3 : wi u 35 g = nI t := (lc 3 g (by omega) (by omega)).trans ht
  have rg := CTab_rng c hcT
  unfold F_Pg_endTerm
  simp (disch := omega) only [qL, ↓qM, A_level T hg ho, t23 T, q_inb, q_nat, q_le, l3, hc, gd_true, beq_self_eq_true, bd_s, if_true, if_false, ↓reduceIte, ite_true, ite_false, Bool.and_self, Bool.and_true, Bool.true_and, Nat.reduceBEq, Bool.or_true, Bool.true_or, Bool.or_self]
  by_cases e : t = 0
  · rw [if_pos (by omega)]
    obtain ⟨v, h1, h2, h3, h4⟩ := A_endT60 T hg lc
    exact ⟨v, h1, h2.mono XO_XF, h3.trans ho, h4, by unfold orl; rw [if_pos e, List.append_nil]; exact hP.xo hcT h2⟩
  · rw [if_neg (by omega)]
    have tc := tC T hcT
    obtain ⟨a1, a2⟩ := A_addStep tc hP (by omega) (show 14 ≤ 14 by omega)
    have fr : FR (XF c g) u (stW u c P.length 14) := stW_fr _ _
    have T1 := T.sh (fr.sh (XF_16 hcT))
    obtain ⟨v, h1, h2, h3, h4⟩ := A_endT60 T1 hg (lc.xf hcT P.length 14)
    refine ⟨v, ?_, (fr.mono (fun a i q => .inr q)).trans (h2.mono XO_XF), ?_, h4, by unfold orl; rw [if_neg e]; exact a2.xo hcT h2⟩
    · simp only [tc.1, a1, h1, gd_true, beq_self_eq_true, bd_s, if_true, if_false, ↓reduceIte, ite_true, ite_false, Bool.and_self, Bool.and_true, Bool.true_and, Nat.reduceBEq, Bool.or_true, Bool.true_or, Bool.or_self]
    · rw [h3, stW_ne _ _ _ _ (by omega)]; exact ho
theorem A_endLevel (T : Top L xs u) {g t c : Nat} {P : List (Nat × Int)} (hg : g ≤ 80) (ho : wi u 23 11 = nI g) (lc : LC u V g) (ht : V 3 g = nI t) (ht8 : t ≤ 80) (hc : wr u 23 3 = c) (hcT : c ∈ CTab) (hP : CP u c P) (hl : P.length + 1 ≤ 80) : ∃ v, F_Pg_endLevel 23 u = some (dpt (enT V g) g, v) ∧ FR (XE c g) u v ∧ wi v 23 11 = nI g ∧ LC v (enT V g) g ∧ CP v c (P ++ orl t) := by
  obtain ⟨v, h1, h2, h3, h4, h5⟩ := A_endTerm T hg ho lc ht ht8 hc hcT hP hl
  have T1 := T.sh (h2.sh (XE_16 hcT))
  have l3 : wi v 35 g = enT V g 3 g := h4 3 g (by omega) (by omega)
  have l4 : wi v 36 g = enT V g 4 g := h4 4 g (by omega) (by omega)
  refine ⟨v, ?_, h2, h3, h4, h5⟩
  unfold F_Pg_endLevel
  simp (disch := omega) only [qL, ↓qM, t23 T, h1, A_level T1 hg h3, t23 T1, q_inb, q_nat, l3, l4, gd_true, beq_self_eq_true, bd_s, if_true, if_false, ↓reduceIte, ite_true, ite_false, Bool.and_self, Bool.and_true, Bool.true_and, Nat.reduceBEq, Bool.or_true, Bool.true_or, Bool.or_self]
  unfold dpt
  by_cases e : enT V g 3 g ≤ nI 1
  · rw [if_pos e, if_pos e]
  · rw [if_neg e, if_neg e]
end
