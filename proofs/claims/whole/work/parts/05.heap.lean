/-! fields and arrays -/
def CI (i : Nat) (C : String) (T : u_T) (N : Nat) (ty : Nat → FieldType) : Prop := kc[i]? = some (C, T, N) ∧ (∀ w ∈ u_ws C T N, w ∈ tb) ∧ (∀ k, k < N → parseFieldDescriptor (T k).2.2.1 = some (ty k)) ∧ (∀ a, a < N → ∀ b, b < N → a ≠ b → (T a).2.1 ≠ (T b).2.1) ∧ i < 99
theorem beq_k {a b : Nat} (h : (a == b) = true) : a = b := by simpa using h
theorem Sm.cell {G : AG} {s : State} {w : AW} {H : Heap} (hs : Sm G s w H) {a : Nat} (ha : wk w a ≠ 0) : cok G s w H a := hs.2.2.2.2.1 a ha
theorem Sm.pos {G : AG} {s : State} {w : AW} {H : Heap} (hs : Sm G s w H) {a : Nat} (ha : wk w a ≠ 0) : a ≠ 0 := fun h => ha (by rw [h]; exact hs.2.2.2.2.2.2)
theorem rv_ref {G : AG} {a : Nat} (ha : a ≠ 0) : rv G (vr a) = .ref (ad G a) := by
  cases a with
  | zero => exact absurd rfl ha
  | succ a => rfl
theorem ad_new {G : AG} {a : Nat} (h : 16 ≤ a) : ad G a = G.2.2.2.1 + (a - 16) := by unfold ad; rw [if_neg (by omega)]
/-- an object's cell -/
theorem Sm.obj {G : AG} {s : State} {w : AW} {H : Heap} (hs : Sm G s w H) {a i : Nat} {C : String} {T : u_T} {N : Nat} (hk : wk w a = i + 1) (hi : i < 99) (hc : kc[i]? = some (C, T, N)) :
    t_OB (ad G a) (G.1 i) N (G.2.1 i) H (fun j => rv G (sv w a j)) := by
  have h := hs.cell (a := a) (by omega)
  unfold cok at h
  rw [if_pos (by omega)] at h
  obtain ⟨q, h1, h2⟩ := h
  have e : wk w a - 1 = i := by omega
  rw [e] at h1 h2
  cases h1.symm.trans hc
  exact h2
theorem Sm.arr {G : AG} {s : State} {w : AW} {H : Heap} (hs : Sm G s w H) {a : Nat} (h1 : 100 ≤ wk w a) (h2 : wk w a < 110) : H[ad G a]? = some (arrV (G.2.2.1 (wk w a)) (wn w a) (fun j => rv G (sv w a j))) := by
  have h := hs.cell (a := a) (by omega)
  unfold cok at h
  rw [if_neg (by omega), if_pos h2] at h
  exact h
theorem r_get {X : AX} {cc : ByteArray} {own : String} {nL k n pc : Nat} {ls : List (Nat × AV)} {st : List AV} {w : AW} {a i f idx : Nat} {C : String} {T : u_T} {N : Nat} {ty : Nat → FieldType} (hX : XOK X cc own nL) (hc : CI i C T N ty) (hfN : f < N) (hl : Cond.fieldLink own idx (T f).1 (T f).2.1 (T f).2.2.1 ∈ tb) (hk : (wk w a == i + 1) = true) (hd : decode cc pc = .ok (.getfield idx, 3)) (h : RJ X nL k n (pc + 3) ls (sv w a f :: st) w) : RJ X nL k n pc ls (vr a :: st) w := by
  obtain ⟨p, l, e, R, s, m, args, below, meth, c, Q, G⟩ := X
  intro H locs lsr hs hf hv
  have hk := beq_k hk
  have h := h H locs lsr hs hf hv
  rw [List.map_cons, rv_ref (hs.pos (a := a) (by omega))]
  rw [List.map_cons] at h
  obtain ⟨cell, q1, q2, q3, q4⟩ := hs.obj hk hc.2.2.2.2 hc.1
  obtain ⟨hS, hfc, kC, hkC, hkind⟩ := hX.2.2.2.2.2.1.1.1 i _ hc.1
  obtain ⟨cf, kf, fi, fd, hi, hsl⟩ := hS f hfN
  refine W.getf hX.1 hX.2.1 hX.2.2.2.1 (hX.2.2.2.2.1 _ hl) hi (u_facts hfc hkC (u_lays hX.2.2.2.2.1 hc.2.1 hfN) hi).1 q1 (by rw [q3]; exact fun h => by cases h) (v := rv G (sv w a f)) ?_ rfl rfl hd h
  rw [hsl]
  exact q4 f hfN
theorem sv_i {w : AW} {a i f : Nat} (hk : (wk w a == i + 1) = true) (hi : i < 99) (hr : isR (i + 1) f = false) : sv w a f = vi (wi w a f) := by
  have hk := beq_k hk
  unfold sv
  rw [if_neg (by omega), hk, hr]
  rfl
theorem sv_r {w : AW} {a i f : Nat} (hk : (wk w a == i + 1) = true) (hi : i < 99) (hr : isR (i + 1) f = true) : sv w a f = vr (wr w a f) := by
  have hk := beq_k hk
  unfold sv
  rw [if_neg (by omega), hk, hr]
  rfl
theorem r_getI {X : AX} {cc : ByteArray} {own : String} {nL k n pc : Nat} {ls : List (Nat × AV)} {st : List AV} {w : AW} {a i f idx : Nat} {C : String} {T : u_T} {N : Nat} {ty : Nat → FieldType} (hX : XOK X cc own nL) (hc : CI i C T N ty) (hfN : f < N) (hr : isR (i + 1) f = false) (hl : Cond.fieldLink own idx (T f).1 (T f).2.1 (T f).2.2.1 ∈ tb) (hk : (wk w a == i + 1) = true) (hd : decode cc pc = .ok (.getfield idx, 3)) (h : RJ X nL k n (pc + 3) ls (vi (wi w a f) :: st) w) : RJ X nL k n pc ls (vr a :: st) w :=
  r_get hX hc hfN hl hk hd (by rw [sv_i hk hc.2.2.2.2 hr]; exact h)
theorem r_getR {X : AX} {cc : ByteArray} {own : String} {nL k n pc : Nat} {ls : List (Nat × AV)} {st : List AV} {w : AW} {a i f idx : Nat} {C : String} {T : u_T} {N : Nat} {ty : Nat → FieldType} (hX : XOK X cc own nL) (hc : CI i C T N ty) (hfN : f < N) (hr : isR (i + 1) f = true) (hl : Cond.fieldLink own idx (T f).1 (T f).2.1 (T f).2.2.1 ∈ tb) (hk : (wk w a == i + 1) = true) (hd : decode cc pc = .ok (.getfield idx, 3)) (h : RJ X nL k n (pc + 3) ls (vr (wr w a f) :: st) w) : RJ X nL k n pc ls (vr a :: st) w :=
  r_get hX hc hfN hl hk hd (by rw [sv_r hk hc.2.2.2.2 hr]; exact h)
/-- the world behind a write to one cell of ours -/
theorem Sm.upd {G : AG} {s : State} {w w' : AW} {H H' : Heap} (hs : Sm G s w H) {a : Nat} (hk0 : wk w a ≠ 0) (hk1 : wk w a < 110) (hz : wz w' = wz w) (hk : ∀ b, wk w' b = wk w b) (hn : ∀ b, wn w' b = wn w b)
    (hi : ∀ b j, b ≠ a → wi w' b j = wi w b j) (hj : ∀ b j, b ≠ a → wj w' b j = wj w b j) (hr : ∀ b j, b ≠ a → wr w' b j = wr w b j)
    (e2 : H'.size = H.size) (e3 : ∀ q, q ≠ ad G a → H'[q]? = H[q]?) (hc : cok G s w' H' a) : Sm G s w' H' := by
  obtain ⟨h1, h2, h3, h4, h5, h6, h7⟩ := hs
  have hap := h6 a hk0 hk1
  have hA : ad G a = G.2.2.2.1 + (a - 16) := ad_new hap.1
  refine ⟨by rw [hz]; exact h1, by rw [hz, e2]; exact h2, h3, fun q hq => by rw [e3 q (by omega)]; exact h4 q hq, fun b hb => ?_, fun b hb hb2 => by rw [hz]; rw [hk] at hb hb2; exact h6 b hb hb2, by rw [hk]; exact h7⟩
  by_cases hba : b = a
  · rw [hba]; exact hc
  · rw [hk] at hb
    have h := h5 b hb
    have hsv : ∀ j, sv w' b j = sv w b j := by
      intro j
      unfold sv
      rw [hk, hi b j hba, hj b j hba, hr b j hba]
    unfold cok at h ⊢
    rw [hk, hn]
    by_cases c1 : wk w b < 100
    · have hne : ad G b ≠ ad G a := by
        have := h6 b hb (by omega)
        rw [hA, ad_new this.1]; omega
      rw [if_pos c1] at h ⊢
      obtain ⟨q, g1, g2⟩ := h
      refine ⟨q, g1, t_OB.to (g2.kept (e3 _ hne)) (fun j _ => by rw [hsv])⟩
    · rw [if_neg c1] at h ⊢
      by_cases c2 : wk w b < 110
      · have hne : ad G b ≠ ad G a := by
          have := h6 b hb (by omega)
          rw [hA, ad_new this.1]; omega
        rw [if_pos c2] at h ⊢
        rw [e3 _ hne, h]
        congr 2
        funext j
        rw [hsv]
      · rw [if_neg c2] at h ⊢
        have kp : ∀ x : Nat, x < H.size → ¬ G.2.2.2.1 ≤ x → H'[x]? = H[x]? := fun x _ hx => e3 x (by omega)
        by_cases c3 : wk w b < 112
        · rw [if_pos c3] at h ⊢
          have h := va_T.kept (H1 := H') h kp
          simpa only [hi b _ hba] using h
        · rw [if_neg c3] at h ⊢
          exact ⟨h.1.kept kp, h.2.1.kept kp, by rw [hr b 0 hba]; exact h.2.2.kept kp⟩
theorem upI_o {w : AW} {a i : Nat} {x : Int32} : (∀ b j, b ≠ a → wi (upI w a i x) b j = wi w b j) := fun b j h => by
  show up2 _ _ _ _ b j = _
  unfold up2; rw [if_neg (fun q => h q.1)]; rfl
theorem upJ_o {w : AW} {a i : Nat} {x : Int64} : (∀ b j, b ≠ a → wj (upJ w a i x) b j = wj w b j) := fun b j h => by
  show up2 _ _ _ _ b j = _
  unfold up2; rw [if_neg (fun q => h q.1)]; rfl
theorem upR_o {w : AW} {a i : Nat} {x : Nat} : (∀ b j, b ≠ a → wr (upR w a i x) b j = wr w b j) := fun b j h => by
  show up2 _ _ _ _ b j = _
  unfold up2; rw [if_neg (fun q => h q.1)]; rfl
theorem wi_up {w : AW} {a i : Nat} {x : Int32} {b j : Nat} : wi (upI w a i x) b j = if b = a ∧ j = i then x else wi w b j := rfl
theorem wj_up {w : AW} {a i : Nat} {x : Int64} {b j : Nat} : wj (upJ w a i x) b j = if b = a ∧ j = i then x else wj w b j := rfl
theorem wr_up {w : AW} {a i : Nat} {x : Nat} {b j : Nat} : wr (upR w a i x) b j = if b = a ∧ j = i then x else wr w b j := rfl
theorem sv_upI {w : AW} {a i : Nat} {x : Int32} (h1 : wk w a ≠ 101) (h2 : isR (wk w a) i = false) (j : Nat) : sv (upI w a i x) a j = if j = i then vi x else sv w a j := by
  by_cases hj : j = i
  · subst hj
    rw [if_pos rfl]
    show (if wk w a = 101 then _ else if isR (wk w a) j = true then _ else _) = _
    rw [if_neg h1, h2]
    show vi (wi (upI w a j x) a j) = _
    rw [wi_up, if_pos ⟨rfl, rfl⟩]
  · rw [if_neg hj]
    show (if wk w a = 101 then _ else if isR (wk w a) j = true then _ else vi (wi (upI w a i x) a j)) = _
    rw [show wi (upI w a i x) a j = wi w a j by rw [wi_up, if_neg (fun q => hj q.2)]]
    rfl
theorem sv_upR {w : AW} {a i : Nat} {x : Nat} (h1 : wk w a ≠ 101) (h2 : isR (wk w a) i = true) (j : Nat) : sv (upR w a i x) a j = if j = i then vr x else sv w a j := by
  by_cases hj : j = i
  · subst hj
    rw [if_pos rfl]
    show (if wk w a = 101 then _ else if isR (wk w a) j = true then _ else _) = _
    rw [if_neg h1, if_pos h2]
    show vr (wr (upR w a j x) a j) = _
    rw [wr_up, if_pos ⟨rfl, rfl⟩]
  · rw [if_neg hj]
    show (if wk w a = 101 then _ else if isR (wk w a) j = true then vr (wr (upR w a i x) a j) else _) = _
    rw [show wr (upR w a i x) a j = wr w a j by rw [wr_up, if_neg (fun q => hj q.2)]]
    rfl
theorem sv_upJ {w : AW} {a i : Nat} {x : Int64} (h1 : wk w a = 101) (j : Nat) : sv (upJ w a i x) a j = if j = i then vl x else sv w a j := by
  by_cases hj : j = i
  · subst hj
    rw [if_pos rfl]
    show (if wk w a = 101 then vl (wj (upJ w a j x) a j) else if isR (wk w a) j = true then _ else _) = _
    rw [if_pos h1, wj_up, if_pos ⟨rfl, rfl⟩]
  · rw [if_neg hj]
    show (if wk w a = 101 then vl (wj (upJ w a i x) a j) else if isR (wk w a) j = true then _ else _) = _
    rw [show wj (upJ w a i x) a j = wj w a j by rw [wj_up, if_neg (fun q => hj q.2)]]
    rfl
/-- putfield: what the heap and the world are behind it -/
theorem Sm.put {G : AG} {s : State} {w w' : AW} {H H' : Heap} {args : Array Value} (hts : ∀ w ∈ tb, w.before args s = true) (hK : Kn G s) (hs : Sm G s w H) {a i f : Nat} {C : String} {T : u_T} {N : Nat} {ty : Nat → FieldType} (hc : CI i C T N ty) (hfN : f < N) (hk : wk w a = i + 1) (v : AV) {cell : Cell} (q1 : H[ad G a]? = some cell) (q2 : cell.cls = G.1 i) (q3 : cell.vm = .none) (q4 : ∀ j, j < N → cell.slots[G.2.1 i j]? = some (rv G (sv w a j)))
    (hz : wz w' = wz w) (hkk : ∀ b, wk w' b = wk w b) (hn : ∀ b, wn w' b = wn w b)
    (hi : ∀ b j, b ≠ a → wi w' b j = wi w b j) (hj : ∀ b j, b ≠ a → wj w' b j = wj w b j) (hr : ∀ b j, b ≠ a → wr w' b j = wr w b j) (hsv : ∀ j, sv w' a j = if j = f then v else sv w a j)
    (e1 : H'[ad G a]? = some (cell.setSlot (G.2.1 i f) (rv G v))) (e2 : H'.size = H.size) (e3 : ∀ q, q ≠ ad G a → H'[q]? = H[q]?) : Sm G s w' H' := by
  have hap := va_apart (own := "") (D := (G.1, G.2.1)) (cl := kc) (tys := atys G) hts hc.2.1 ty hc.2.2.1 hc.2.2.2.1 hK.1 hc.1
  refine hs.upd (a := a) (by omega) (by have := hc.2.2.2.2; omega) hz hkk hn hi hj hr e2 e3 ?_
  unfold cok
  rw [hkk, hk, if_pos (by have := hc.2.2.2.2; omega)]
  refine ⟨_, hc.1, ?_⟩
  have h9 := t_set (V := fun j => rv G (sv w a j)) q4 hap hfN (rv G v)
  refine ⟨_, e1, q2, q3, fun j hj => ?_⟩
  rw [show i + 1 - 1 = i from rfl, h9 j hj]
  unfold updV
  dsimp only
  rw [hsv]
  by_cases h : j = f
  · rw [if_pos h, if_pos h]
  · rw [if_neg h, if_neg h]
