/-! PURE: the class's page against the reference's: what they share -/
theorem bdb {X : Option (Int32 × AW)} {b : Nat} {v : AW} (h : X = some (nI b, v)) (hb : b ≤ 1) : (X.bind fun r => gd (r.1 == 0 || r.1 == 1) (some (r.1, r.2))) = some (nI b, v) := by
  have : b = 0 ∨ b = 1 := by omega
  rw [h, bd_s]
  rcases this with e | e <;> subst e <;> rfl
theorem bdc {X : Option (Int32 × AW)} {b : Nat} {v : AW} (h : X = some (nI b, v)) (hb : b ≤ 1) : (X.bind fun r => if r.1 = 0 then some ((0 : Int32), r.2) else some ((1 : Int32), r.2)) = some (nI b, v) := by
  have : b = 0 ∨ b = 1 := by omega
  rw [h, bd_s]
  rcases this with e | e <;> subst e
  · show (if nI 0 = 0 then some ((0 : Int32), v) else some ((1 : Int32), v)) = some (nI 0, v)
    rw [if_pos (show nI 0 = 0 from rfl)]; rfl
  · show (if nI 1 = 0 then some ((0 : Int32), v) else some ((1 : Int32), v)) = some (nI 1, v)
    rw [if_neg (show ¬ nI 1 = 0 by decide +kernel)]; rfl
def mskP (l : List Nat) : Nat := l.foldl (fun b m => b ||| 1 <<< (m / 3)) 0
theorem mskP_app (l : List Nat) (m : Nat) : mskP (l ++ [m]) = mskP l ||| 1 <<< (m / 3) := by unfold mskP; rw [List.foldl_append]; rfl
theorem cms_lt {P : List (Nat × Int)} {m : Nat} (h : m ∈ cms P) : m < 12 := by
  unfold cms at h
  have := (List.mem_filter.mp h).2
  simpa using this
theorem or_lt : ∀ a, a < 16 → ∀ f, f < 4 → (a ||| 1 <<< f) < 16 ∧ nI a ||| (1 : Int32) <<< (nI f &&& 31) = nI (a ||| 1 <<< f) := by decide +kernel
theorem mskP_lt : ∀ (l : List Nat) (b : Nat), b < 16 → (∀ m, m ∈ l → m < 12) → l.foldl (fun b m => b ||| 1 <<< (m / 3)) b < 16
  | [], b, hb, _ => hb
  | m :: l, b, hb, h => mskP_lt l _ (or_lt b hb (m / 3) (by have := h m List.mem_cons_self; omega)).1 (fun x hx => h x (List.mem_cons_of_mem _ hx))
theorem mskP_16 (P : List (Nat × Int)) : mskP (cms P) < 16 := mskP_lt _ _ (by omega) (fun m hm => cms_lt hm)
theorem cms_ntl (P : List (Nat × Int)) (n : Nat) : cms (P ++ ntl n) = cms P := by
  rw [cms_app]; unfold ntl
  split
  · rw [cms_op (by omega), List.append_nil]
  · exact List.append_nil _
theorem cms_adl (P : List (Nat × Int)) (n : Nat) : cms (P ++ adl n) = cms P := by
  rw [cms_app]; unfold adl
  split
  · exact List.append_nil _
  · rw [cms_op (by omega), List.append_nil]
theorem cms_orl (P : List (Nat × Int)) (n : Nat) : cms (P ++ orl n) = cms P := by
  rw [cms_app]; unfold orl
  split
  · exact List.append_nil _
  · rw [cms_op (by omega), List.append_nil]
/-- a condition of the class, its fields and comparisons -/
def CO (u : AW) (c : Nat) (P : List (Nat × Int)) : Prop := CP u c P ∧ wi u c 3 = nI (mskP (cms P)) ∧ wi u c 4 = nI (cms P).length
theorem CO.fr {X : Nat → Nat → Prop} {u u' : AW} {c : Nat} {P : List (Nat × Int)} (h : CO u c P) (f : FR X u u') (hX : ∀ a i, c ≤ a → a ≤ c + 2 → ¬ X a i) : CO u' c P := by
  obtain ⟨⟨h1, h2, h3⟩, h4, h5⟩ := h
  refine ⟨⟨(f.i (hX c 2 (by omega) (by omega))).trans h1, h2, fun i m z hi => ?_⟩, (f.i (hX c 3 (by omega) (by omega))).trans h4, (f.i (hX c 4 (by omega) (by omega))).trans h5⟩
  rw [f.i (hX (c + 1) i (by omega) (by omega)), f.i (hX (c + 2) i (by omega) (by omega))]
  exact h3 i m z hi
theorem CO.steps {u u' : AW} {c g : Nat} {P Q : List (Nat × Int)} (h : CO u c P) (hc : c ∈ CTab) (f : FR (XE c g) u u') (hQ : CP u' c Q) (e : cms Q = cms P) : CO u' c Q := by
  have := CTab_rng c hc
  refine ⟨hQ, ?_, ?_⟩
  · rw [f.i (by unfold XE XF; omega), e]; exact h.2.1
  · rw [f.i (by unfold XE XF; omega), e]; exact h.2.2
/-- as FR, but the condition that is read may be another -/
def FC (X : Nat → Nat → Prop) (w v : AW) : Prop := wz v = wz w ∧ wq v = wq w ∧ (∀ a, wk v a = wk w a) ∧ (∀ a, wn v a = wn w a) ∧ (∀ a i, ¬ (a = 23 ∧ i = 3) → wr v a i = wr w a i) ∧ (∀ a i, wj v a i = wj w a i) ∧ (∀ a i, ¬ X a i → wi v a i = wi w a i)
theorem FR.c {X : Nat → Nat → Prop} {w v : AW} (h : FR X w v) : FC X w v := ⟨h.1, h.2.1, h.2.2.1, h.2.2.2.1, fun a i _ => h.2.2.2.2.1 a i, h.2.2.2.2.2.1, h.2.2.2.2.2.2⟩
theorem FC.trans {X : Nat → Nat → Prop} {u v w : AW} (h : FC X u v) (g : FC X v w) : FC X u w := ⟨g.1.trans h.1, g.2.1.trans h.2.1, fun a => (g.2.2.1 a).trans (h.2.2.1 a), fun a => (g.2.2.2.1 a).trans (h.2.2.2.1 a), fun a i hx => (g.2.2.2.2.1 a i hx).trans (h.2.2.2.2.1 a i hx), fun a i => (g.2.2.2.2.2.1 a i).trans (h.2.2.2.2.2.1 a i), fun a i hx => (g.2.2.2.2.2.2 a i hx).trans (h.2.2.2.2.2.2 a i hx)⟩
theorem FC.mono {X Y : Nat → Nat → Prop} {w v : AW} (h : FC X w v) (hXY : ∀ a i, X a i → Y a i) : FC Y w v := ⟨h.1, h.2.1, h.2.2.1, h.2.2.2.1, h.2.2.2.2.1, h.2.2.2.2.2.1, fun a i hx => h.2.2.2.2.2.2 a i (fun q => hx (hXY a i q))⟩
theorem FC.r3 {X : Nat → Nat → Prop} (w : AW) (x : Nat) : FC X w (upR w 23 3 x) := ⟨rfl, rfl, fun _ => rfl, fun _ => rfl, fun a i h => by rw [wr_upR, if_neg h], fun _ _ => rfl, fun _ _ _ => rfl⟩
theorem RTab_23 : ∀ p, p ∈ RTab → ¬ (p.1 = 23 ∧ p.2.1 = 3) := by decide +kernel
theorem FC.top {X : Nat → Nat → Prop} {L : Nat} {xs : Nat → Int32} {w v : AW} (h : FC X w v) (hX : ∀ a i, X a i → 16 ≤ a) (T : Top L xs w) : Top L xs v := by
  obtain ⟨t1, t2, t3, t4, t5, t6, t7, t8, t9⟩ := T
  have st : ∀ a i, a < 16 → wi v a i = wi w a i := fun a i ha => h.2.2.2.2.2.2 a i (fun q => by have := hX a i q; omega)
  refine ⟨h.1.trans t1, h.2.1.trans t2, fun a ha => (h.2.2.1 a).trans (t3 a ha), fun a ha h1 => (h.2.2.2.1 a).trans (t4 a ha h1), (h.2.2.2.1 1).trans t5, fun p hp => (h.2.2.2.2.1 _ _ (RTab_23 p hp)).trans (t6 p hp), ?_, fun i => (st 1 i (by decide)).trans (t8 i), ?_⟩
  · unfold Perm at *
    rw [h.2.2.2.2.1 23 2 (by omega)]
    have q37 : ∀ i, wr v 37 i = wr w 37 i := fun i => h.2.2.2.2.1 37 i (by omega)
    simp only [q37]
    exact t7
  · unfold SVal at *
    simp only [st 2 _ (by decide), st 3 _ (by decide), st 4 _ (by decide), st 5 _ (by decide), st 6 _ (by decide), st 9 _ (by decide), st 10 _ (by decide)]
    exact t9
def XA (s a i : Nat) : Prop := (a = 23 ∧ 4 ≤ i ∧ i ≤ 11) ∨ (32 ≤ a ∧ a ≤ 36) ∨ (s ≤ a ∧ a ≤ s + 6)
def XB (a i : Nat) : Prop := (a = 271 ∧ ((10 ≤ i ∧ i ≤ 23) ∨ i = 28)) ∨ (280 ≤ a ∧ a ≤ 283)
def XAc (s p a i : Nat) : Prop := (a = 23 ∧ 4 ≤ i ∧ i ≤ 11) ∨ (32 ≤ a ∧ a ≤ 36) ∨ (s + 1 + 3 * p ≤ a ∧ a ≤ s + 3 + 3 * p)
def XBc (p a i : Nat) : Prop := (a = 271 ∧ ((10 ≤ i ∧ i ≤ 17) ∨ i = 28)) ∨ XMk p a i ∨ a = 283
theorem XA_16 {s : Nat} (hs : s ∈ STab) : ∀ a i, XA s a i → 16 ≤ a := by
  intro a i h
  have := STab_rng s hs
  unfold XA at h
  omega
theorem XB_16 : ∀ a i, XB a i → 16 ≤ a := by
  intro a i h
  unfold XB at h
  omega
theorem XAc_XA {s p : Nat} (hp : p ≤ 1) : ∀ a i, XAc s p a i → XA s a i := by
  intro a i h
  unfold XAc at h; unfold XA
  omega
theorem XBc_XB {p : Nat} : ∀ a i, XBc p a i → XB a i := by
  intro a i h
  unfold XBc XMk at h; unfold XB
  omega
/-- both sides take the letter, or both don't -/
def OK1 (R : AW → AW → Prop) (s : Nat) (FA FM : AW → Option (Int32 × AW)) (u v : AW) : Prop := ∃ b u' v', FA u = some (nI b, u') ∧ FM v = some (nI b, v') ∧ b ≤ 1 ∧ FC (XA s) u u' ∧ FR XB v v' ∧ (b = 1 → R u' v')
/-- the class's place in a condition -/
def CB (s p st g : Nat) (u : AW) : Prop := wr u 23 2 = s ∧ wr u 23 3 = s + 1 + 3 * p ∧ wi u 23 4 = nI p ∧ wi u 23 5 = nI st ∧ wi u 23 11 = nI g
def MB (p st g : Nat) (v : AW) : Prop := wi v 271 10 = nI st ∧ wi v 271 11 = nI p ∧ wi v 271 12 = nI g
/-- counts are small -/
def VB (V : Nat → Nat → Int32) (g k : Nat) : Prop := ∀ i, i ≤ g → ∀ j, (j = 0 ∨ j = 1 ∨ j = 3) → V j i = nI (nat (V j i)) ∧ nat (V j i) ≤ k
theorem VB.mono {V : Nat → Nat → Int32} {g h k m : Nat} (b : VB V g k) (hg : h ≤ g) (hk : k ≤ m) : VB V h m := fun i hi j hj => ⟨(b i (by omega) j hj).1, by have := (b i (by omega) j hj).2; omega⟩
theorem nat_add1 {x : Int32} {k : Nat} (h : x = nI (nat x)) (hk : nat x ≤ k) (hb : k < 1000) : nat (x + nI 1) = nat x + 1 := by
  have e : x + nI 1 = nI (nat x + 1) := by rw [h, nat_nI (by omega), nI_add]
  rw [e, nat_nI (by omega)]
theorem VB.up {V K : Nat → Nat → Int32} {g k : Nat} (b : VB V g k) (hk : k < 1000) (h : ∀ i, i ≤ g → ∀ j, (j = 0 ∨ j = 1 ∨ j = 3) → K j i = V j i ∨ K j i = nI 0 ∨ K j i = V j i + nI 1) : VB K g (k + 1) := by
  intro i hi j hj
  obtain ⟨b1, b2⟩ := b i hi j hj
  rcases h i hi j hj with e | e | e
  · rw [e]; exact ⟨b1, by omega⟩
  · rw [e, nat_nI (by omega)]; exact ⟨rfl, by omega⟩
  · rw [e, nat_add1 b1 b2 hk]
    exact ⟨by rw [b1, nat_nI (by omega), nI_add], by omega⟩
theorem VB.nu {V : Nat → Nat → Int32} {g k : Nat} (b : VB V g k) (hk : k < 1000) : VB (nuL V g) g (k + 1) := b.up hk (fun i _ j _ => by
  by_cases e : i = g ∧ j = 0
  · rw [e.1, e.2, nuL_eq]; exact .inr (.inr rfl)
  · exact .inl (nuL_ne (by omega)))
theorem VB.ad {V : Nat → Nat → Int32} {g k : Nat} {d : Int32} (b : VB V g k) (hk : k < 1000) : VB (adF V g d) g (k + 1) := b.up hk (fun i _ j hj => by
  by_cases e : i = g
  · subst e
    rcases hj with e | e | e <;> subst e
    · exact .inr (.inl adF_0)
    · exact .inr (.inr adF_1)
    · exact .inl (adF_3 (by omega))
  · exact .inl (adF_ne e j))
theorem VB.en {V : Nat → Nat → Int32} {g k : Nat} (b : VB V g k) (hk : k < 1000) : VB (enT V g) g (k + 1) := b.up hk (fun i _ j hj => by
  by_cases e : i = g
  · subst e
    rcases hj with e | e | e <;> subst e
    · exact .inl enT_0
    · exact .inr (.inl (enT_1 (.inl rfl)))
    · exact .inr (.inr enT_3)
  · exact .inl (enT_ne e j))
theorem VB.op {V : Nat → Nat → Int32} {g k : Nat} (b : VB V g k) (hk : k < 1000) : VB (opL V (g + 1)) (g + 1) (k + 1) := by
  intro i hi j hj
  by_cases e : i = g + 1
  · subst e; rw [opL_eq, nat_nI (by omega)]; exact ⟨rfl, by omega⟩
  · rw [opL_ne e]; exact b.mono (Nat.le_refl g) (Nat.le_succ k) i (by omega) j hj
/-- no letter behind the days so far -/
def NTl (pg : Nat → Nat) (k : Nat) : Prop := ∀ i, i < k → pg i ≠ 126 ∧ pg i ≠ 94
theorem NTl.s {pg : Nat → Nat} {k : Nat} (h : NTl pg k) (h1 : pg k ≠ 126) (h2 : pg k ≠ 94) : NTl pg (k + 1) := by
  intro i hi
  by_cases e : i = k
  · subst e; exact ⟨h1, h2⟩
  · exact h i (by omega)
def ST1 (pg : Nat → Nat) (nP p i0 : Nat) : Prop := (p = 0 ∧ i0 = 0) ∨ (p = 1 ∧ i0 < nP ∧ (pg i0 = 126 ∨ pg i0 = 94) ∧ NTl pg i0)
/-- a condition that is read to its end -/
def FNd (pg : Nat → Nat) (nP s p : Nat) (u v : AW) : Prop := ∃ P Q c i0 m V, CO u (s + 1 + 3 * p) P ∧ wi u (s + 1 + 3 * p) 5 = dpt (enT V 0) 0 ∧ MK v p Q ∧ HE P Q c 1 ∧ dpr pg i0 m = (0, V) ∧ dsf pg i0 m ∧ (i0 + m = nP ∨ (i0 + m < nP ∧ (pg (i0 + m) = 58 ∨ pg (i0 + m) = 64))) ∧ ST1 pg nP p i0
def SE (s : Nat) (u v : AW) : Prop := wi u s 5 = mI 1 ∧ wi u s 6 = mI 1 ∧ wi u s 7 = mI 1 ∧ wi v 271 21 = mI 1 ∧ wi v 271 22 = mI 1 ∧ wi v 271 23 = mI 1
def SP (s : Nat) (u v : AW) : Prop := ∃ a b al, wi u s 2 = nI a ∧ wi u s 3 = nI b ∧ wi u s 4 = nI al ∧ wi v 271 18 = nI a ∧ wi v 271 19 = nI b ∧ wi v 271 20 = nI al ∧ a ≤ b ∧ b ≤ 9 ∧ al ≤ 1
theorem FNd.fr {X Y : Nat → Nat → Prop} {pg : Nat → Nat} {nP s p : Nat} {u v u' v' : AW} (h : FNd pg nP s p u v) (f : FR X u u') (g : FR Y v v') (hX : ∀ a i, s + 1 + 3 * p ≤ a → a ≤ s + 3 + 3 * p → ¬ X a i) (hY : ∀ a i, (280 ≤ a ∧ a ≤ 281 ∧ 80 * p ≤ i ∧ i < 80 * p + 80) ∨ (a = 282 ∧ i = p) → ¬ Y a i) : FNd pg nP s p u' v' := by
  obtain ⟨P, Q, c, i0, m, V, h1, h2, h3, h4⟩ := h
  refine ⟨P, Q, c, i0, m, V, h1.fr f (fun a i q1 q2 => hX a i (by omega) (by omega)), (f.i (hX _ _ (by omega) (by omega))).trans h2, h3.fr g (hY _ _ (.inr ⟨rfl, rfl⟩)) (fun i hi => ⟨hY _ _ (.inl ⟨by omega, by omega, by omega, by omega⟩), hY _ _ (.inl ⟨by omega, by omega, by omega, by omega⟩)⟩), h4⟩
theorem SE.fr {X Y : Nat → Nat → Prop} {s : Nat} {u v u' v' : AW} (h : SE s u v) (f : FR X u u') (g : FR Y v v') (hX : ∀ i, 5 ≤ i → ¬ X s i) (hY : ∀ i, 21 ≤ i → i ≤ 23 → ¬ Y 271 i) : SE s u' v' := by
  unfold SE at *
  rw [f.i (hX 5 (by omega)), f.i (hX 6 (by omega)), f.i (hX 7 (by omega)), g.i (hY 21 (by omega) (by omega)), g.i (hY 22 (by omega) (by omega)), g.i (hY 23 (by omega) (by omega))]
  exact h
theorem SP.fr {X Y : Nat → Nat → Prop} {s : Nat} {u v u' v' : AW} (h : SP s u v) (f : FR X u u') (g : FR Y v v') (hX : ∀ i, 2 ≤ i → i ≤ 4 → ¬ X s i) (hY : ∀ i, 18 ≤ i → i ≤ 20 → ¬ Y 271 i) : SP s u' v' := by
  unfold SP at *
  rw [f.i (hX 2 (by omega) (by omega)), f.i (hX 3 (by omega) (by omega)), f.i (hX 4 (by omega) (by omega)), g.i (hY 18 (by omega) (by omega)), g.i (hY 19 (by omega) (by omega)), g.i (hY 20 (by omega) (by omega))]
  exact h
/-- what else holds while a condition is read -/
def RP (pg : Nat → Nat) (nP s p k i0 : Nat) (u v : AW) : Prop := SE s u v ∧ ST1 pg nP p i0 ∧ ((p = 0 ∧ NTl pg k ∧ CO u (s + 4) [] ∧ MK v 1 []) ∨ (p = 1 ∧ FNd pg nP s 0 u v ∧ SP s u v))
theorem RP.fr {pg : Nat → Nat} {nP s p k i0 : Nat} {u v u' v' : AW} (h : RP pg nP s p k i0 u v) (hs : s ∈ STab) (f : FR (XAc s p) u u') (g : FR (XBc p) v v') (hp : p = 0 → pg k ≠ 126 ∧ pg k ≠ 94) : RP pg nP s p (k + 1) i0 u' v' := by
  have hr := STab_rng s hs
  obtain ⟨h1, h2, h3⟩ := h
  refine ⟨h1.fr f g (fun i hi => by unfold XAc; omega) (fun i h1 h2 => by unfold XBc XMk; omega), h2, ?_⟩
  rcases h3 with ⟨e, q1, q2, q3⟩ | ⟨e, q1, q2⟩
  · subst e
    exact .inl ⟨rfl, q1.s (hp rfl).1 (hp rfl).2, q2.fr f (fun a i a1 a2 => by unfold XAc; omega), q3.fr g (by unfold XBc XMk; omega) (fun i hi => ⟨by unfold XBc XMk; omega, by unfold XBc XMk; omega⟩)⟩
  · subst e
    exact .inr ⟨rfl, q1.fr f g (fun a i a1 a2 => by unfold XAc; omega) (fun a i a1 => by unfold XBc XMk; omega), q2.fr f g (fun i h1 h2 => by unfold XAc; omega) (fun i h1 h2 => by unfold XBc XMk; omega)⟩
/-- in a condition: all but what its state tells -/
def RB (pg : Nat → Nat) (nP s q p g i0 m k : Nat) (V : Nat → Nat → Int32) (W : List Nat) (u v : AW) : Prop := p ≤ 1 ∧ i0 + m = k ∧ CB s p (min q 4) g u ∧ MB p q g v ∧ LC u V g ∧ VB V g k ∧ dsf pg i0 m ∧ RP pg nP s p k i0 u v ∧ WT v W
def D0 (pg : Nat → Nat) (s p g i0 m k : Nat) (V : Nat → Nat → Int32) (W : List Nat) (u v : AW) : Prop := ∃ P Q c, dpr pg i0 m = (g, V) ∧ CO u (s + 1 + 3 * p) P ∧ MK v p Q ∧ HE P Q c (hd V g + b1 (nat (V 1 g)) + b1 (nat (V 3 g))) ∧ W = wb V g ++ wl (nat (V 3 g)) (nat (V 1 g)) (nat (V 0 g)) ∧ 4 * c ≤ k ∧ Q.length + W.length + p ≤ k
def D1 (pg : Nat → Nat) (s p g i0 m k : Nat) (V : Nat → Nat → Int32) (W : List Nat) (u v : AW) : Prop := ∃ P Q c fd, dpr pg i0 m = (g, adF V g (nI 1)) ∧ CO u (s + 1 + 3 * p) P ∧ MK v p Q ∧ HE P Q c (hd V g + b1 (nat (V 1 g)) + b1 (nat (V 3 g))) ∧ W = wb V g ++ wl (nat (V 3 g)) (nat (V 1 g)) (nat (V 0 g)) ∧ 4 * c + 1 ≤ k ∧ Q.length + W.length + p + 1 ≤ k ∧ wi u 23 6 = nI fd ∧ wi v 271 16 = nI fd ∧ fd < 4
def D2 (q : Nat) (pg : Nat → Nat) (s p g i0 m k : Nat) (V : Nat → Nat → Int32) (W : List Nat) (u v : AW) : Prop := ∃ P Q c fd sg, dpr pg i0 m = (g, adF V g (nI 1)) ∧ CO u (s + 1 + 3 * p) (P ++ [(3 * fd + sg, 0)]) ∧ MK v p Q ∧ HE P Q c (hd V g + b1 (nat (V 1 g)) + b1 (nat (V 3 g))) ∧ W = wb V g ++ wl (nat (V 3 g)) (nat (V 1 g)) (nat (V 0 g)) ∧ 4 * c + 2 ≤ k ∧ Q.length + W.length + p + 2 ≤ k ∧ fd < 4 ∧ sg < 3 ∧ wi u 23 7 = nI P.length ∧ wi u 23 9 = nI 0 ∧ wi u 23 10 = nI (q - 2) ∧ wi v 271 16 = nI fd ∧ wi v 271 17 = nI sg ∧ (q = 3 → wi v 271 15 = nI 1)
def zz (mi val : Nat) : Int := if mi = 0 then (val : Int) else -(val : Int)
def D4 (pg : Nat → Nat) (s p g i0 m k : Nat) (V : Nat → Nat → Int32) (W : List Nat) (u v : AW) : Prop := ∃ P Q c fd sg f0 n0 dg val mi, dpr pg i0 m = (g, V) ∧ CO u (s + 1 + 3 * p) (((P ++ [(3 * fd + sg, zz mi val)]) ++ ntl n0) ++ adl f0) ∧ MK v p Q ∧ HE P Q c (hd V g + b1 f0 + b1 (nat (V 3 g))) ∧ W = wb V g ++ wl (nat (V 3 g)) f0 n0 ∧ (V 1 g = nI (f0 + 1) ∧ V 0 g = nI 0 ∧ f0 ≤ k ∧ n0 ≤ k) ∧ 4 * c + 3 ≤ k ∧ Q.length + W.length + p + 3 ≤ k ∧ (fd < 4 ∧ sg < 3 ∧ mi < 2 ∧ 1 ≤ dg ∧ dg ≤ 3 ∧ val < 10 ^ dg) ∧ wi u 23 7 = nI P.length ∧ wi u 23 9 = nI dg ∧ wi u 23 10 = nI mi ∧ wi v 271 13 = nI dg ∧ wi v 271 14 = nI val ∧ wi v 271 15 = nI mi ∧ wi v 271 16 = nI fd ∧ wi v 271 17 = nI sg
def D5 (pg : Nat → Nat) (s p g i0 m k : Nat) (V : Nat → Nat → Int32) (W : List Nat) (u v : AW) : Prop := ∃ P Q c f0 n0, dpr pg i0 m = (g, V) ∧ CO u (s + 1 + 3 * p) ((P ++ ntl n0) ++ adl f0) ∧ MK v p Q ∧ HE P Q c (hd V g + b1 f0 + b1 (nat (V 3 g)) + 1) ∧ W = wb V g ++ wl (nat (V 3 g)) f0 n0 ∧ (V 1 g = nI (f0 + 1) ∧ V 0 g = nI 0 ∧ f0 ≤ k ∧ n0 ≤ k) ∧ 4 * c ≤ k + 1 ∧ Q.length + W.length + p ≤ k
/-- between the two conditions -/
def Rsp (pg : Nat → Nat) (nP s q k : Nat) (u v : AW) : Prop := 6 ≤ q ∧ q ≤ 9 ∧ (wr u 23 2 = s ∧ wi u 23 4 = nI 0 ∧ wi u 23 5 = nI (q - 1)) ∧ MB 1 q 0 v ∧ WT v [] ∧ SE s u v ∧ NTl pg k ∧ FNd pg nP s 0 u v ∧ CO u (s + 4) [] ∧ MK v 1 [] ∧ ∃ a b, (7 ≤ q → wi u s 2 = nI a ∧ wi v 271 18 = nI a) ∧ (q = 7 ∨ q = 9 → wi u s 3 = nI b ∧ wi v 271 19 = nI b) ∧ a ≤ 9 ∧ b ≤ 9 ∧ a ≤ b
/-- behind the second condition -/
def Rse (pg : Nat → Nat) (nP s q k : Nat) (u v : AW) : Prop := (wr u 23 2 = s ∧ wi u 23 4 = nI 1) ∧ MB 1 q 0 v ∧ FNd pg nP s 0 u v ∧ FNd pg nP s 1 u v ∧ SP s u v ∧ ((q = 10 ∧ wi u 23 5 = nI 9 ∧ wi u 23 8 = nI 0 ∧ wi u 23 9 = nI 0 ∧ SE s u v) ∨ (q = 11 ∧ wi u 23 5 = nI 11 ∧ SE s u v ∧ ∃ val dg, wi u 23 8 = nI val ∧ wi u 23 9 = nI dg ∧ wi v 271 14 = nI val ∧ wi v 271 13 = nI dg ∧ val ≤ 12 ∧ 1 ≤ dg ∧ dg ≤ 3 ∧ (val = 0 → dg < 3)) ∨ (q = 12 ∧ (wi u s 6 = mI 1 ∧ wi u s 7 = mI 1 ∧ wi v 271 22 = mI 1 ∧ wi v 271 23 = mI 1) ∧ ∃ a val dg, wi u s 5 = nI a ∧ wi v 271 21 = nI a ∧ a ≤ 12 ∧ wi u 23 5 = nI (if dg = 0 then 12 else 13) ∧ wi u 23 8 = nI val ∧ wi u 23 9 = nI dg ∧ wi v 271 14 = nI val ∧ wi v 271 13 = nI dg ∧ val ≤ 12 ∧ dg ≤ 3 ∧ (val = 0 → dg < 3) ∧ (dg = 0 → val = 0)) ∨ (q = 13 ∧ wi u 23 5 = nI 10 ∧ SE s u v) ∨ (q = 14 ∧ wi u 23 5 = nI 14 ∧ (wi u s 5 = mI 1 ∧ wi u s 6 = mI 1 ∧ wi v 271 21 = mI 1 ∧ wi v 271 22 = mI 1) ∧ ∃ x, wi u s 7 = nI x ∧ wi v 271 23 = nI x ∧ x ≤ 7))
/-- the class has read k letters into u, the reference into v -/
def RR (pg : Nat → Nat) (nP s k : Nat) (u v : AW) : Prop := (∃ p g i0 m V W, (RB pg nP s 0 p g i0 m k V W u v ∧ D0 pg s p g i0 m k V W u v) ∨ (RB pg nP s 1 p g i0 m k V W u v ∧ D1 pg s p g i0 m k V W u v) ∨ (RB pg nP s 2 p g i0 m k V W u v ∧ D2 2 pg s p g i0 m k V W u v) ∨ (RB pg nP s 3 p g i0 m k V W u v ∧ D2 3 pg s p g i0 m k V W u v) ∨ (RB pg nP s 4 p g i0 m k V W u v ∧ D4 pg s p g i0 m k V W u v) ∨ (RB pg nP s 5 p g i0 m k V W u v ∧ wi u 23 9 = nI 3 ∧ D5 pg s p g i0 m k V W u v)) ∨ (∃ q, Rsp pg nP s q k u v) ∨ (∃ q, Rse pg nP s q k u v)
