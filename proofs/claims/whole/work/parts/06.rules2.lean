def inb (j : Int32) (n : Nat) : Bool := !(decide (j < 0)) && Nat.blt j.toNatClampNeg n
theorem inb_lt {j : Int32} {n : Nat} (h : inb j n = true) : j.toNatClampNeg < n := by
  unfold inb at h; simp at h; exact h.2
theorem inb_nn {j : Int32} {n : Nat} (h : inb j n = true) : ¬ j < 0 := by
  unfold inb at h; simp at h; exact Int32.not_lt.mpr h.1
theorem inb_in {j : Int32} {n : Nat} (h : inb j n = true) : ¬ (j < 0 ∨ n ≤ j.toNatClampNeg) := fun q => q.elim (inb_nn h) (fun z => absurd (inb_lt h) (Nat.not_lt.mpr z))
/-- the method is a constructor -/
def XI (X : AX) : Prop := match X with
  | (p, l, e, R, s, m, args, below, meth, c, Q, G) => meth.name = "<init>"
theorem locs_in {G : AG} {locs : List Loc} {a i : Nat} (hf : ∀ q ∈ locs, G.2.2.2.1 ≤ q.base) (ha : G.2.2.2.1 ≤ a) : ∀ q ∈ locs ++ [(⟨a, i⟩ : Loc)], G.2.2.2.1 ≤ q.base := by
  intro q hq
  rcases List.mem_append.mp hq with h | h
  · exact hf q h
  · rw [List.mem_singleton.mp h]; exact ha
theorem Sm.baseA {G : AG} {s : State} {w : AW} {H : Heap} (hs : Sm G s w H) {a : Nat} (h0 : wk w a ≠ 0) (h1 : wk w a < 110) : G.2.2.2.1 ≤ ad G a := by
  have := hs.2.2.2.2.2.1 a h0 h1
  rw [ad_new this.1]; omega
theorem Sm.base {G : AG} {s : State} {w : AW} {H : Heap} (hs : Sm G s w H) {a i : Nat} (hk : wk w a = i + 1) (hi : i < 99) : G.2.2.2.1 ≤ ad G a := hs.baseA (by omega) (by omega)
theorem Sm.ext {G : AG} {s : State} {w : AW} {H : Heap} (hs : Sm G s w H) {a : Nat} (h1 : 110 ≤ wk w a) (h2 : wk w a < 112) : va_T (if wk w a = 110 then .int else .byte) (ad G a) (wn w a) (fun j => .int (wi w a j)) (fun q => G.2.2.2.1 ≤ q) s H := by
  have h := hs.cell (a := a) (by omega)
  unfold cok at h
  rw [if_neg (by omega), if_neg (by omega), if_pos h2] at h
  exact h
theorem isR_a {kd : Nat} (h1 : 105 ≤ kd) (h2 : kd < 109) (j : Nat) : isR kd j = true := by
  unfold isR
  rw [if_neg (by omega), Bool.and_eq_true]
  exact ⟨Nat.ble_eq_true_of_le h1, Nat.ble_eq_true_of_le (by omega)⟩
theorem sv_ra {w : AW} {a : Nat} (h1 : 105 ≤ wk w a) (h2 : wk w a < 109) (j : Nat) : sv w a j = vr (wr w a j) := by
  unfold sv
  rw [if_neg (by omega), if_pos (isR_a h1 h2 j)]
theorem Sm.ast {G : AG} {s : State} {w w' : AW} {H H' : Heap} (hs : Sm G s w H) {a j : Nat} {v : AV} (h1 : 100 ≤ wk w a) (h2 : wk w a < 110) (hk : wk w' a = wk w a) (hn : wn w' a = wn w a) (hsv : ∀ q, sv w' a q = if q = j then v else sv w a q)
    (e1 : H'[ad G a]? = some ((arrV (G.2.2.1 (wk w a)) (wn w a) (fun j => rv G (sv w a j))).setSlot j (rv G v))) : cok G s w' H' a := by
  unfold cok
  rw [hk, hn, if_neg (by omega), if_pos h2, e1, arrV_store]
  congr 2
  funext q
  unfold updV
  rw [hsv]
  by_cases h : q = j
  · rw [if_pos h, if_pos h]
  · rw [if_neg h, if_neg h]
/-! putfield, arrays, statics, returns -/
theorem r_putI {X : AX} {cc : ByteArray} {own : String} {nL k n pc : Nat} {ls : List (Nat × AV)} {st : List AV} {w : AW} {a i f idx : Nat} {C : String} {T : u_T} {N : Nat} {ty : Nat → FieldType} {x : Int32} (hX : XOK X cc own nL) (hc : CI i C T N ty) (hfN : f < N) (hr : isR (i + 1) f = false) (hfi : (T f).2.2.2 = false) (hnw : ∀ G : AG, narrow (ty f) (rv G (vi x)) = rv G (vi x)) (hft : ∀ G : AG, fits (ty f) (rv G (vi x)) = true) (hl : Cond.fieldLink own idx (T f).1 (T f).2.1 (T f).2.2.1 ∈ tb) (hk : (wk w a == i + 1) = true) (hd : decode cc pc = .ok (.putfield idx, 3)) (h : RJ X nL k n (pc + 3) ls st (upI w a f x)) : RJ X nL k n pc ls (vi x :: vr a :: st) w := by
  obtain ⟨p, l, e, R, s, m, args, below, meth, c, Q, G⟩ := X
  intro H locs lsr hs hf hv
  have hk' := beq_k hk
  have hnw := hnw G
  have hft := hft G
  rw [List.map_cons, List.map_cons, rv_ref (hs.pos (a := a) (by omega))]
  obtain ⟨cell, q1, q2, q3, q4⟩ := hs.obj hk' hc.2.2.2.2 hc.1
  obtain ⟨hS, hfc, kC, hkC, hkind⟩ := hX.2.2.2.2.2.1.1.1 i _ hc.1
  obtain ⟨cf, kf, fi, fd, hi, hsl⟩ := hS f hfN
  have hlay := hX.2.2.2.2.1 _ (hc.2.1 _ (u_in_lay hfN))
  unfold u_lay at hlay
  rw [if_neg (by rw [hfi]; decide)] at hlay
  have hst := (u_facts hfc hkC (u_lays hX.2.2.2.2.1 hc.2.1 hfN) hi).1
  have h6 := u_store hfc hkC hkind hlay hi (hc.2.2.1 f hfN) hnw hft
  refine W.putK hX.1 hX.2.1 (f := fd) ⟨hX.2.2.2.1, hX.2.2.2.2.1 _ hl, ⟨_, _, _, hi⟩, hst⟩ (by rw [q2]; exact h6) q1 q3 (by rw [hsl]; exact k2_hasslot (q4 f hfN)) rfl rfl hd fun H' e1 e2 e3 => ?_
  rw [hsl] at e1 ⊢
  refine h H' _ lsr (hs.put hX.2.2.2.2.1 hX.2.2.2.2.2.1 hc hfN hk' (vi x) q1 q2 q3 q4 rfl (fun _ => rfl) (fun _ => rfl) upI_o (fun _ _ _ => rfl) (fun _ _ _ => rfl) (sv_upI (by rw [hk']; have := hc.2.2.2.2; omega) (by rw [hk']; exact hr)) e1 e2 e3) (locs_in hf (hs.base hk' hc.2.2.2.2)) hv
theorem r_putIF {X : AX} {cc : ByteArray} {own : String} {nL k n pc : Nat} {ls : List (Nat × AV)} {st : List AV} {w : AW} {a i f idx : Nat} {C : String} {T : u_T} {N : Nat} {ty : Nat → FieldType} {x : Int32} (hX : XOK X cc own nL) (hc : CI i C T N ty) (hfN : f < N) (hr : isR (i + 1) f = false) (hfi : (T f).2.2.2 = true) (hin : XI X) (hdc : (T f).1 = own) (hnw : ∀ G : AG, narrow (ty f) (rv G (vi x)) = rv G (vi x)) (hft : ∀ G : AG, fits (ty f) (rv G (vi x)) = true) (hl : Cond.fieldLink own idx (T f).1 (T f).2.1 (T f).2.2.1 ∈ tb) (hk : (wk w a == i + 1) = true) (hd : decode cc pc = .ok (.putfield idx, 3)) (h : RJ X nL k n (pc + 3) ls st (upI w a f x)) : RJ X nL k n pc ls (vi x :: vr a :: st) w := by
  obtain ⟨p, l, e, R, s, m, args, below, meth, c, Q, G⟩ := X
  intro H locs lsr hs hf hv
  have hk' := beq_k hk
  have hnw := hnw G
  have hft := hft G
  rw [List.map_cons, List.map_cons, rv_ref (hs.pos (a := a) (by omega))]
  obtain ⟨cell, q1, q2, q3, q4⟩ := hs.obj hk' hc.2.2.2.2 hc.1
  obtain ⟨hS, hfc, kC, hkC, hkind⟩ := hX.2.2.2.2.2.1.1.1 i _ hc.1
  obtain ⟨cf, kf, fi, fd, hi, hsl⟩ := hS f hfN
  have hlay := hX.2.2.2.2.1 _ (hc.2.1 _ (u_in_lay hfN))
  unfold u_lay at hlay
  rw [if_pos hfi] at hlay
  have hst := (u_facts hfc hkC (u_lays hX.2.2.2.2.1 hc.2.1 hfN) hi).1
  have hcf : m.cls = cf := by
    obtain ⟨_, _, c', _, _, _, -, -, hf', -, -, -, hown2, -⟩ := Cond.laysFinal_spec hlay
    have e1 : c' = cf := by have := hi.symm.trans hf'; simp at this; exact this.1.symm
    rw [hdc] at hown2
    rw [← e1]; exact Option.some.inj (hX.2.2.2.1.symm.trans hown2)
  have h6 := u_fits hfc hkC hkind (Or.inr hlay) hi (hc.2.2.1 f hfN) hnw hft
  refine W.putFinK hX.1 hX.2.1 hX.2.2.2.1 (hX.2.2.2.2.1 _ hl) hi hst hcf hin (by rw [q2]; exact h6) q1 q3 (by rw [hsl]; exact k2_hasslot (q4 f hfN)) rfl rfl hd fun H' e1 e2 e3 => ?_
  rw [hsl] at e1 ⊢
  refine h H' _ lsr (hs.put hX.2.2.2.2.1 hX.2.2.2.2.2.1 hc hfN hk' (vi x) q1 q2 q3 q4 rfl (fun _ => rfl) (fun _ => rfl) upI_o (fun _ _ _ => rfl) (fun _ _ _ => rfl) (sv_upI (by rw [hk']; have := hc.2.2.2.2; omega) (by rw [hk']; exact hr)) e1 e2 e3) (locs_in hf (hs.base hk' hc.2.2.2.2)) hv
theorem r_putR {X : AX} {cc : ByteArray} {own : String} {nL k n pc : Nat} {ls : List (Nat × AV)} {st : List AV} {w : AW} {a i f idx : Nat} {C : String} {T : u_T} {N : Nat} {ty : Nat → FieldType} {x : Nat} (hX : XOK X cc own nL) (hc : CI i C T N ty) (hfN : f < N) (hr : isR (i + 1) f = true) (hfi : (T f).2.2.2 = false) (hnw : ∀ G : AG, narrow (ty f) (rv G (vr x)) = rv G (vr x)) (hft : ∀ G : AG, fits (ty f) (rv G (vr x)) = true) (hl : Cond.fieldLink own idx (T f).1 (T f).2.1 (T f).2.2.1 ∈ tb) (hk : (wk w a == i + 1) = true) (hd : decode cc pc = .ok (.putfield idx, 3)) (h : RJ X nL k n (pc + 3) ls st (upR w a f x)) : RJ X nL k n pc ls (vr x :: vr a :: st) w := by
  obtain ⟨p, l, e, R, s, m, args, below, meth, c, Q, G⟩ := X
  intro H locs lsr hs hf hv
  have hk' := beq_k hk
  have hnw := hnw G
  have hft := hft G
  rw [List.map_cons, List.map_cons, rv_ref (hs.pos (a := a) (by omega))]
  obtain ⟨cell, q1, q2, q3, q4⟩ := hs.obj hk' hc.2.2.2.2 hc.1
  obtain ⟨hS, hfc, kC, hkC, hkind⟩ := hX.2.2.2.2.2.1.1.1 i _ hc.1
  obtain ⟨cf, kf, fi, fd, hi, hsl⟩ := hS f hfN
  have hlay := hX.2.2.2.2.1 _ (hc.2.1 _ (u_in_lay hfN))
  unfold u_lay at hlay
  rw [if_neg (by rw [hfi]; decide)] at hlay
  have hst := (u_facts hfc hkC (u_lays hX.2.2.2.2.1 hc.2.1 hfN) hi).1
  have h6 := u_store hfc hkC hkind hlay hi (hc.2.2.1 f hfN) hnw hft
  refine W.putK hX.1 hX.2.1 (f := fd) ⟨hX.2.2.2.1, hX.2.2.2.2.1 _ hl, ⟨_, _, _, hi⟩, hst⟩ (by rw [q2]; exact h6) q1 q3 (by rw [hsl]; exact k2_hasslot (q4 f hfN)) rfl rfl hd fun H' e1 e2 e3 => ?_
  rw [hsl] at e1 ⊢
  refine h H' _ lsr (hs.put hX.2.2.2.2.1 hX.2.2.2.2.2.1 hc hfN hk' (vr x) q1 q2 q3 q4 rfl (fun _ => rfl) (fun _ => rfl) (fun _ _ _ => rfl) (fun _ _ _ => rfl) upR_o (sv_upR (by rw [hk']; have := hc.2.2.2.2; omega) (by rw [hk']; exact hr)) e1 e2 e3) (locs_in hf (hs.base hk' hc.2.2.2.2)) hv
theorem r_putRF {X : AX} {cc : ByteArray} {own : String} {nL k n pc : Nat} {ls : List (Nat × AV)} {st : List AV} {w : AW} {a i f idx : Nat} {C : String} {T : u_T} {N : Nat} {ty : Nat → FieldType} {x : Nat} (hX : XOK X cc own nL) (hc : CI i C T N ty) (hfN : f < N) (hr : isR (i + 1) f = true) (hfi : (T f).2.2.2 = true) (hin : XI X) (hdc : (T f).1 = own) (hnw : ∀ G : AG, narrow (ty f) (rv G (vr x)) = rv G (vr x)) (hft : ∀ G : AG, fits (ty f) (rv G (vr x)) = true) (hl : Cond.fieldLink own idx (T f).1 (T f).2.1 (T f).2.2.1 ∈ tb) (hk : (wk w a == i + 1) = true) (hd : decode cc pc = .ok (.putfield idx, 3)) (h : RJ X nL k n (pc + 3) ls st (upR w a f x)) : RJ X nL k n pc ls (vr x :: vr a :: st) w := by
  obtain ⟨p, l, e, R, s, m, args, below, meth, c, Q, G⟩ := X
  intro H locs lsr hs hf hv
  have hk' := beq_k hk
  have hnw := hnw G
  have hft := hft G
  rw [List.map_cons, List.map_cons, rv_ref (hs.pos (a := a) (by omega))]
  obtain ⟨cell, q1, q2, q3, q4⟩ := hs.obj hk' hc.2.2.2.2 hc.1
  obtain ⟨hS, hfc, kC, hkC, hkind⟩ := hX.2.2.2.2.2.1.1.1 i _ hc.1
  obtain ⟨cf, kf, fi, fd, hi, hsl⟩ := hS f hfN
  have hlay := hX.2.2.2.2.1 _ (hc.2.1 _ (u_in_lay hfN))
  unfold u_lay at hlay
  rw [if_pos hfi] at hlay
  have hst := (u_facts hfc hkC (u_lays hX.2.2.2.2.1 hc.2.1 hfN) hi).1
  have hcf : m.cls = cf := by
    obtain ⟨_, _, c', _, _, _, -, -, hf', -, -, -, hown2, -⟩ := Cond.laysFinal_spec hlay
    have e1 : c' = cf := by have := hi.symm.trans hf'; simp at this; exact this.1.symm
    rw [hdc] at hown2
    rw [← e1]; exact Option.some.inj (hX.2.2.2.1.symm.trans hown2)
  have h6 := u_fits hfc hkC hkind (Or.inr hlay) hi (hc.2.2.1 f hfN) hnw hft
  refine W.putFinK hX.1 hX.2.1 hX.2.2.2.1 (hX.2.2.2.2.1 _ hl) hi hst hcf hin (by rw [q2]; exact h6) q1 q3 (by rw [hsl]; exact k2_hasslot (q4 f hfN)) rfl rfl hd fun H' e1 e2 e3 => ?_
  rw [hsl] at e1 ⊢
  refine h H' _ lsr (hs.put hX.2.2.2.2.1 hX.2.2.2.2.2.1 hc hfN hk' (vr x) q1 q2 q3 q4 rfl (fun _ => rfl) (fun _ => rfl) (fun _ _ _ => rfl) (fun _ _ _ => rfl) upR_o (sv_upR (by rw [hk']; have := hc.2.2.2.2; omega) (by rw [hk']; exact hr)) e1 e2 e3) (locs_in hf (hs.base hk' hc.2.2.2.2)) hv
theorem r_iald {X : AX} {cc : ByteArray} {own : String} {nL k n pc : Nat} {ls : List (Nat × AV)} {st : List AV} {w : AW} {a : Nat} {j : Int32} (hX : XOK X cc own nL) (hk : (wk w a == 100) = true) (hb : inb j (wn w a) = true) (hd : decode cc pc = .ok (.iaload, 1)) (h : RJ X nL k n (pc + 1) ls (vi (wi w a j.toNatClampNeg) :: st) w) : RJ X nL k n pc ls (vi j :: vr a :: st) w := by
  obtain ⟨p, l, e, R, s, m, args, below, meth, c, Q, G⟩ := X
  intro H locs lsr hs hf hv
  have hk' := beq_k hk
  rw [List.map_cons, List.map_cons, rv_ref (hs.pos (a := a) (by omega))]
  have h1 := hs.arr (a := a) (by omega) (by omega)
  have h2 := inb_lt hb
  have e1 : sv w a j.toNatClampNeg = vi (wi w a j.toNatClampNeg) := by unfold sv; rw [if_neg (by omega), hk']; rfl
  refine W.iald hX.1 hX.2.1 h1 (by rw [hk']; exact (hX.2.2.2.2.2.1.1.2 0 _ rfl).1 _ _) (fun q => by cases q) (by rw [arrV_size]; exact inb_in hb) (v := rv G (vi (wi w a j.toNatClampNeg))) (by rw [arrV_read _ _ h2, e1]) rfl rfl hd (h H locs lsr hs hf hv)
theorem r_lald {X : AX} {cc : ByteArray} {own : String} {nL k n pc : Nat} {ls : List (Nat × AV)} {st : List AV} {w : AW} {a : Nat} {j : Int32} (hX : XOK X cc own nL) (hk : (wk w a == 101) = true) (hb : inb j (wn w a) = true) (hd : decode cc pc = .ok (.laload, 1)) (h : RJ X nL k n (pc + 1) ls (vl (wj w a j.toNatClampNeg) :: st) w) : RJ X nL k n pc ls (vi j :: vr a :: st) w := by
  obtain ⟨p, l, e, R, s, m, args, below, meth, c, Q, G⟩ := X
  intro H locs lsr hs hf hv
  have hk' := beq_k hk
  rw [List.map_cons, List.map_cons, rv_ref (hs.pos (a := a) (by omega))]
  have h1 := hs.arr (a := a) (by omega) (by omega)
  have h2 := inb_lt hb
  have e1 : sv w a j.toNatClampNeg = vl (wj w a j.toNatClampNeg) := by unfold sv; rw [if_pos hk']
  refine W.lald hX.1 hX.2.1 h1 (by rw [hk']; exact (hX.2.2.2.2.2.1.1.2 1 _ rfl).1 _ _) (fun q => by cases q) (by rw [arrV_size]; exact inb_in hb) (v := rv G (vl (wj w a j.toNatClampNeg))) (by rw [arrV_read _ _ h2, e1]) rfl rfl hd (h H locs lsr hs hf hv)
theorem r_bald {X : AX} {cc : ByteArray} {own : String} {nL k n pc : Nat} {ls : List (Nat × AV)} {st : List AV} {w : AW} {a : Nat} {j : Int32} (hX : XOK X cc own nL) (hk : (wk w a == 102) = true) (hb : inb j (wn w a) = true) (hd : decode cc pc = .ok (.baload, 1)) (h : RJ X nL k n (pc + 1) ls (vi (wi w a j.toNatClampNeg) :: st) w) : RJ X nL k n pc ls (vi j :: vr a :: st) w := by
  obtain ⟨p, l, e, R, s, m, args, below, meth, c, Q, G⟩ := X
  intro H locs lsr hs hf hv
  have hk' := beq_k hk
  rw [List.map_cons, List.map_cons, rv_ref (hs.pos (a := a) (by omega))]
  have h1 := hs.arr (a := a) (by omega) (by omega)
  have h2 := inb_lt hb
  have e1 : sv w a j.toNatClampNeg = vi (wi w a j.toNatClampNeg) := by unfold sv; rw [if_neg (by omega), hk']; rfl
  refine W.bald hX.1 hX.2.1 h1 (by rw [hk']; exact (hX.2.2.2.2.2.1.1.2 2 _ rfl).1 _ _) (fun q => by cases q) (by rw [arrV_size]; exact inb_in hb) (v := rv G (vi (wi w a j.toNatClampNeg))) (by rw [arrV_read _ _ h2, e1]) rfl rfl hd (h H locs lsr hs hf hv)
theorem r_sald {X : AX} {cc : ByteArray} {own : String} {nL k n pc : Nat} {ls : List (Nat × AV)} {st : List AV} {w : AW} {a : Nat} {j : Int32} (hX : XOK X cc own nL) (hk : (wk w a == 103) = true) (hb : inb j (wn w a) = true) (hd : decode cc pc = .ok (.saload, 1)) (h : RJ X nL k n (pc + 1) ls (vi (wi w a j.toNatClampNeg) :: st) w) : RJ X nL k n pc ls (vi j :: vr a :: st) w := by
  obtain ⟨p, l, e, R, s, m, args, below, meth, c, Q, G⟩ := X
  intro H locs lsr hs hf hv
  have hk' := beq_k hk
  rw [List.map_cons, List.map_cons, rv_ref (hs.pos (a := a) (by omega))]
  have h1 := hs.arr (a := a) (by omega) (by omega)
  have h2 := inb_lt hb
  have e1 : sv w a j.toNatClampNeg = vi (wi w a j.toNatClampNeg) := by unfold sv; rw [if_neg (by omega), hk']; rfl
  refine W.sald hX.1 hX.2.1 h1 (by rw [hk']; exact (hX.2.2.2.2.2.1.1.2 3 _ rfl).1 _ _) (fun q => by cases q) (by rw [arrV_size]; exact inb_in hb) (v := rv G (vi (wi w a j.toNatClampNeg))) (by rw [arrV_read _ _ h2, e1]) rfl rfl hd (h H locs lsr hs hf hv)
theorem r_zald {X : AX} {cc : ByteArray} {own : String} {nL k n pc : Nat} {ls : List (Nat × AV)} {st : List AV} {w : AW} {a : Nat} {j : Int32} (hX : XOK X cc own nL) (hk : (wk w a == 104) = true) (hb : inb j (wn w a) = true) (hd : decode cc pc = .ok (.baload, 1)) (h : RJ X nL k n (pc + 1) ls (vi (wi w a j.toNatClampNeg) :: st) w) : RJ X nL k n pc ls (vi j :: vr a :: st) w := by
  obtain ⟨p, l, e, R, s, m, args, below, meth, c, Q, G⟩ := X
  intro H locs lsr hs hf hv
  have hk' := beq_k hk
  rw [List.map_cons, List.map_cons, rv_ref (hs.pos (a := a) (by omega))]
  have h1 := hs.arr (a := a) (by omega) (by omega)
  have h2 := inb_lt hb
  have e1 : sv w a j.toNatClampNeg = vi (wi w a j.toNatClampNeg) := by unfold sv; rw [if_neg (by omega), hk']; rfl
  refine W.zald hX.1 hX.2.1 h1 (by rw [hk']; exact (hX.2.2.2.2.2.1.1.2 4 _ rfl).1 _ _) (fun q => by cases q) (by rw [arrV_size]; exact inb_in hb) (v := rv G (vi (wi w a j.toNatClampNeg))) (by rw [arrV_read _ _ h2, e1]) rfl rfl hd (h H locs lsr hs hf hv)
theorem r_aald {X : AX} {cc : ByteArray} {own : String} {nL k n pc : Nat} {ls : List (Nat × AV)} {st : List AV} {w : AW} {a kd t : Nat} {D : String} {j : Int32} (hX : XOK X cc own nL) (hk1 : 105 ≤ kd ∧ kd < 109) (ht : ∀ G : AG, (atys G)[kd - 100]? = some (G.2.2.1 kd, .object D)) (hk : (wk w a == kd) = true) (hb : inb j (wn w a) = true) (hd : decode cc pc = .ok (.aaload, 1)) (h : RJ X nL k n (pc + 1) ls (vr (wr w a j.toNatClampNeg) :: st) w) : RJ X nL k n pc ls (vi j :: vr a :: st) w := by
  obtain ⟨p, l, e, R, s, m, args, below, meth, c, Q, G⟩ := X
  intro H locs lsr hs hf hv
  have hk' := beq_k hk
  rw [List.map_cons, List.map_cons, rv_ref (hs.pos (a := a) (by omega))]
  have h1 := hs.arr (a := a) (by omega) (by omega)
  have h2 := inb_lt hb
  have e1 : sv w a j.toNatClampNeg = vr (wr w a j.toNatClampNeg) := sv_ra (by omega) (by omega) _
  refine W.aald hX.1 hX.2.1 h1 (by rw [hk']; exact (hX.2.2.2.2.2.1.1.2 (kd - 100) _ (ht G)).1 _ _) rfl (fun q => by cases q) (by rw [arrV_size]; exact inb_in hb) (v := rv G (vr (wr w a j.toNatClampNeg))) (by rw [arrV_read _ _ h2, e1]) rfl rfl hd (h H locs lsr hs hf hv)
theorem r_xald {X : AX} {cc : ByteArray} {own : String} {nL k n pc : Nat} {ls : List (Nat × AV)} {st : List AV} {w : AW} {a : Nat} {j : Int32} (hX : XOK X cc own nL) (hk : (wk w a == 110) = true) (hb : inb j (wn w a) = true) (hd : decode cc pc = .ok (.iaload, 1)) (h : RJ X nL k n (pc + 1) ls (vi (wi w a j.toNatClampNeg) :: st) w) : RJ X nL k n pc ls (vi j :: vr a :: st) w := by
  obtain ⟨p, l, e, R, s, m, args, below, meth, c, Q, G⟩ := X
  intro H locs lsr hs hf hv
  have hk' := beq_k hk
  rw [List.map_cons, List.map_cons, rv_ref (hs.pos (a := a) (by omega))]
  obtain ⟨cell, h1, h2, h3, h4, h5, h6, h7⟩ := hs.ext (a := a) (by omega) (by omega)
  have h8 := inb_lt hb
  rw [hk'] at h2
  refine W.iald hX.1 hX.2.1 h1 h2 h3 (fun q => inb_in hb (q.imp id (fun z => Nat.le_trans h4 z))) (v := .int (wi w a j.toNatClampNeg)) (h6 _ h8) rfl rfl hd (h H locs lsr hs hf hv)
theorem r_yald {X : AX} {cc : ByteArray} {own : String} {nL k n pc : Nat} {ls : List (Nat × AV)} {st : List AV} {w : AW} {a : Nat} {j : Int32} (hX : XOK X cc own nL) (hk : (wk w a == 111) = true) (hb : inb j (wn w a) = true) (hd : decode cc pc = .ok (.baload, 1)) (h : RJ X nL k n (pc + 1) ls (vi (wi w a j.toNatClampNeg) :: st) w) : RJ X nL k n pc ls (vi j :: vr a :: st) w := by
  obtain ⟨p, l, e, R, s, m, args, below, meth, c, Q, G⟩ := X
  intro H locs lsr hs hf hv
  have hk' := beq_k hk
  rw [List.map_cons, List.map_cons, rv_ref (hs.pos (a := a) (by omega))]
  obtain ⟨cell, h1, h2, h3, h4, h5, h6, h7⟩ := hs.ext (a := a) (by omega) (by omega)
  have h8 := inb_lt hb
  rw [hk'] at h2
  refine W.bald hX.1 hX.2.1 h1 h2 h3 (fun q => inb_in hb (q.imp id (fun z => Nat.le_trans h4 z))) (v := .int (wi w a j.toNatClampNeg)) (h6 _ h8) rfl rfl hd (h H locs lsr hs hf hv)
theorem r_xlen {X : AX} {cc : ByteArray} {own : String} {nL k n pc : Nat} {ls : List (Nat × AV)} {st : List AV} {w : AW} {a : Nat} (hX : XOK X cc own nL) (hk : (wk w a == 110) = true) (hd : decode cc pc = .ok (.arraylength, 1)) (h : RJ X nL k n (pc + 1) ls (vi (Int32.ofNat (wn w a)) :: st) w) : RJ X nL k n pc ls (vr a :: st) w := by
  obtain ⟨p, l, e, R, s, m, args, below, meth, c, Q, G⟩ := X
  intro H locs lsr hs hf hv
  have hk' := beq_k hk
  rw [List.map_cons, rv_ref (hs.pos (a := a) (by omega))]
  obtain ⟨cell, h1, h2, h3, h4, h5, h6, h7⟩ := hs.ext (a := a) (by omega) (by omega)
  exact W.alen hX.1 hX.2.1 h1 h2 h5 rfl rfl hd (h H locs lsr hs hf hv)
theorem r_ylen {X : AX} {cc : ByteArray} {own : String} {nL k n pc : Nat} {ls : List (Nat × AV)} {st : List AV} {w : AW} {a : Nat} (hX : XOK X cc own nL) (hk : (wk w a == 111) = true) (hd : decode cc pc = .ok (.arraylength, 1)) (h : RJ X nL k n (pc + 1) ls (vi (Int32.ofNat (wn w a)) :: st) w) : RJ X nL k n pc ls (vr a :: st) w := by
  obtain ⟨p, l, e, R, s, m, args, below, meth, c, Q, G⟩ := X
  intro H locs lsr hs hf hv
  have hk' := beq_k hk
  rw [List.map_cons, rv_ref (hs.pos (a := a) (by omega))]
  obtain ⟨cell, h1, h2, h3, h4, h5, h6, h7⟩ := hs.ext (a := a) (by omega) (by omega)
  exact W.alen hX.1 hX.2.1 h1 h2 h5 rfl rfl hd (h H locs lsr hs hf hv)
theorem r_alenI {X : AX} {cc : ByteArray} {own : String} {nL k n pc : Nat} {ls : List (Nat × AV)} {st : List AV} {w : AW} {a : Nat} (hX : XOK X cc own nL) (hk : (wk w a == 100) = true) (hd : decode cc pc = .ok (.arraylength, 1)) (h : RJ X nL k n (pc + 1) ls (vi (Int32.ofNat (wn w a)) :: st) w) : RJ X nL k n pc ls (vr a :: st) w := by
  obtain ⟨p, l, e, R, s, m, args, below, meth, c, Q, G⟩ := X
  intro H locs lsr hs hf hv
  have hk' := beq_k hk
  rw [List.map_cons, rv_ref (hs.pos (a := a) (by omega))]
  have h1 := hs.arr (a := a) (by omega) (by omega)
  exact W.alen hX.1 hX.2.1 h1 (by rw [hk']; exact (hX.2.2.2.2.2.1.1.2 0 _ rfl).1 _ _) (by rw [arrV_size]) rfl rfl hd (h H locs lsr hs hf hv)
theorem r_alenJ {X : AX} {cc : ByteArray} {own : String} {nL k n pc : Nat} {ls : List (Nat × AV)} {st : List AV} {w : AW} {a : Nat} (hX : XOK X cc own nL) (hk : (wk w a == 101) = true) (hd : decode cc pc = .ok (.arraylength, 1)) (h : RJ X nL k n (pc + 1) ls (vi (Int32.ofNat (wn w a)) :: st) w) : RJ X nL k n pc ls (vr a :: st) w := by
  obtain ⟨p, l, e, R, s, m, args, below, meth, c, Q, G⟩ := X
  intro H locs lsr hs hf hv
  have hk' := beq_k hk
  rw [List.map_cons, rv_ref (hs.pos (a := a) (by omega))]
  have h1 := hs.arr (a := a) (by omega) (by omega)
  exact W.alen hX.1 hX.2.1 h1 (by rw [hk']; exact (hX.2.2.2.2.2.1.1.2 1 _ rfl).1 _ _) (by rw [arrV_size]) rfl rfl hd (h H locs lsr hs hf hv)
theorem r_iast {X : AX} {cc : ByteArray} {own : String} {nL k n pc : Nat} {ls : List (Nat × AV)} {st : List AV} {w : AW} {a : Nat} {j : Int32} {x : Int32} (hX : XOK X cc own nL) (hk : (wk w a == 100) = true) (hb : inb j (wn w a) = true) (hd : decode cc pc = .ok (.iastore, 1)) (h : RJ X nL k n (pc + 1) ls st (upI w a j.toNatClampNeg x)) : RJ X nL k n pc ls (vi x :: vi j :: vr a :: st) w := by
  obtain ⟨p, l, e, R, s, m, args, below, meth, c, Q, G⟩ := X
  intro H locs lsr hs hf hv
  have hk' := beq_k hk
  rw [List.map_cons, List.map_cons, List.map_cons, rv_ref (hs.pos (a := a) (by omega))]
  have h1 := hs.arr (a := a) (by omega) (by omega)
  refine W.iast hX.1 hX.2.1 h1 (by rw [hk']; exact (hX.2.2.2.2.2.1.1.2 0 _ rfl).1 _ _) (fun q => by cases q) (by rw [arrV_size]; exact inb_in hb) rfl rfl hd fun H' e1 e2 e3 => ?_
  refine h H' _ lsr (hs.upd (a := a) (by omega) (by omega) rfl (fun _ => rfl) (fun _ => rfl) upI_o (fun _ _ _ => rfl) (fun _ _ _ => rfl) e2 e3 (hs.ast (v := vi x) (by omega) (by omega) rfl rfl (sv_upI (by omega) (by rw [hk']; rfl)) e1)) (locs_in hf (hs.baseA (by omega) (by omega))) hv
theorem r_last {X : AX} {cc : ByteArray} {own : String} {nL k n pc : Nat} {ls : List (Nat × AV)} {st : List AV} {w : AW} {a : Nat} {j : Int32} {x : Int64} (hX : XOK X cc own nL) (hk : (wk w a == 101) = true) (hb : inb j (wn w a) = true) (hd : decode cc pc = .ok (.lastore, 1)) (h : RJ X nL k n (pc + 1) ls st (upJ w a j.toNatClampNeg x)) : RJ X nL k n pc ls (vl x :: vi j :: vr a :: st) w := by
  obtain ⟨p, l, e, R, s, m, args, below, meth, c, Q, G⟩ := X
  intro H locs lsr hs hf hv
  have hk' := beq_k hk
  rw [List.map_cons, List.map_cons, List.map_cons, rv_ref (hs.pos (a := a) (by omega))]
  have h1 := hs.arr (a := a) (by omega) (by omega)
  refine W.last hX.1 hX.2.1 h1 (by rw [hk']; exact (hX.2.2.2.2.2.1.1.2 1 _ rfl).1 _ _) (fun q => by cases q) (by rw [arrV_size]; exact inb_in hb) rfl rfl hd fun H' e1 e2 e3 => ?_
  refine h H' _ lsr (hs.upd (a := a) (by omega) (by omega) rfl (fun _ => rfl) (fun _ => rfl) (fun _ _ _ => rfl) upJ_o (fun _ _ _ => rfl) e2 e3 (hs.ast (v := vl x) (by omega) (by omega) rfl rfl (sv_upJ hk') e1)) (locs_in hf (hs.baseA (by omega) (by omega))) hv
theorem r_bast {X : AX} {cc : ByteArray} {own : String} {nL k n pc : Nat} {ls : List (Nat × AV)} {st : List AV} {w : AW} {a : Nat} {j : Int32} {x : Int32} (hX : XOK X cc own nL) (hk : (wk w a == 102) = true) (hb : inb j (wn w a) = true) (hd : decode cc pc = .ok (.bastore, 1)) (h : RJ X nL k n (pc + 1) ls st (upI w a j.toNatClampNeg x.toInt8.toInt32)) : RJ X nL k n pc ls (vi x :: vi j :: vr a :: st) w := by
  obtain ⟨p, l, e, R, s, m, args, below, meth, c, Q, G⟩ := X
  intro H locs lsr hs hf hv
  have hk' := beq_k hk
  rw [List.map_cons, List.map_cons, List.map_cons, rv_ref (hs.pos (a := a) (by omega))]
  have h1 := hs.arr (a := a) (by omega) (by omega)
  refine W.bast hX.1 hX.2.1 h1 (by rw [hk']; exact (hX.2.2.2.2.2.1.1.2 2 _ rfl).1 _ _) (fun q => by cases q) (by rw [arrV_size]; exact inb_in hb) rfl rfl hd fun H' e1 e2 e3 => ?_
  refine h H' _ lsr (hs.upd (a := a) (by omega) (by omega) rfl (fun _ => rfl) (fun _ => rfl) upI_o (fun _ _ _ => rfl) (fun _ _ _ => rfl) e2 e3 (hs.ast (v := vi x.toInt8.toInt32) (by omega) (by omega) rfl rfl (sv_upI (by omega) (by rw [hk']; rfl)) e1)) (locs_in hf (hs.baseA (by omega) (by omega))) hv
theorem r_sast {X : AX} {cc : ByteArray} {own : String} {nL k n pc : Nat} {ls : List (Nat × AV)} {st : List AV} {w : AW} {a : Nat} {j : Int32} {x : Int32} (hX : XOK X cc own nL) (hk : (wk w a == 103) = true) (hb : inb j (wn w a) = true) (hd : decode cc pc = .ok (.sastore, 1)) (h : RJ X nL k n (pc + 1) ls st (upI w a j.toNatClampNeg x.toInt16.toInt32)) : RJ X nL k n pc ls (vi x :: vi j :: vr a :: st) w := by
  obtain ⟨p, l, e, R, s, m, args, below, meth, c, Q, G⟩ := X
  intro H locs lsr hs hf hv
  have hk' := beq_k hk
  rw [List.map_cons, List.map_cons, List.map_cons, rv_ref (hs.pos (a := a) (by omega))]
  have h1 := hs.arr (a := a) (by omega) (by omega)
  refine W.sast hX.1 hX.2.1 h1 (by rw [hk']; exact (hX.2.2.2.2.2.1.1.2 3 _ rfl).1 _ _) (fun q => by cases q) (by rw [arrV_size]; exact inb_in hb) rfl rfl hd fun H' e1 e2 e3 => ?_
  refine h H' _ lsr (hs.upd (a := a) (by omega) (by omega) rfl (fun _ => rfl) (fun _ => rfl) upI_o (fun _ _ _ => rfl) (fun _ _ _ => rfl) e2 e3 (hs.ast (v := vi x.toInt16.toInt32) (by omega) (by omega) rfl rfl (sv_upI (by omega) (by rw [hk']; rfl)) e1)) (locs_in hf (hs.baseA (by omega) (by omega))) hv
theorem r_zast {X : AX} {cc : ByteArray} {own : String} {nL k n pc : Nat} {ls : List (Nat × AV)} {st : List AV} {w : AW} {a : Nat} {j : Int32} {x : Int32} (hX : XOK X cc own nL) (hk : (wk w a == 104) = true) (hb : inb j (wn w a) = true) (hd : decode cc pc = .ok (.bastore, 1)) (h : RJ X nL k n (pc + 1) ls st (upI w a j.toNatClampNeg (x &&& 1))) : RJ X nL k n pc ls (vi x :: vi j :: vr a :: st) w := by
  obtain ⟨p, l, e, R, s, m, args, below, meth, c, Q, G⟩ := X
  intro H locs lsr hs hf hv
  have hk' := beq_k hk
  rw [List.map_cons, List.map_cons, List.map_cons, rv_ref (hs.pos (a := a) (by omega))]
  have h1 := hs.arr (a := a) (by omega) (by omega)
  refine W.zast hX.1 hX.2.1 h1 (by rw [hk']; exact (hX.2.2.2.2.2.1.1.2 4 _ rfl).1 _ _) (fun q => by cases q) (by rw [arrV_size]; exact inb_in hb) rfl rfl hd fun H' e1 e2 e3 => ?_
  refine h H' _ lsr (hs.upd (a := a) (by omega) (by omega) rfl (fun _ => rfl) (fun _ => rfl) upI_o (fun _ _ _ => rfl) (fun _ _ _ => rfl) e2 e3 (hs.ast (v := vi (x &&& 1)) (by omega) (by omega) rfl rfl (sv_upI (by omega) (by rw [hk']; rfl)) e1)) (locs_in hf (hs.baseA (by omega) (by omega))) hv
theorem r_aast {X : AX} {cc : ByteArray} {own : String} {nL k n pc : Nat} {ls : List (Nat × AV)} {st : List AV} {w : AW} {a b kd ci : Nat} {q : vw_C} {j : Int32} (hX : XOK X cc own nL) (hk1 : 105 ≤ kd ∧ kd < 109) (hci : ci < 99) (hq : kc[ci]? = some q) (ht : ∀ G : AG, (atys G)[kd - 100]? = some (G.2.2.1 kd, .object q.1)) (hk : (wk w a == kd) = true) (hkb : (wk w b == ci + 1) = true) (hb : inb j (wn w a) = true) (hd : decode cc pc = .ok (.aastore, 1)) (h : RJ X nL k n (pc + 1) ls st (upR w a j.toNatClampNeg b)) : RJ X nL k n pc ls (vr b :: vi j :: vr a :: st) w := by
  obtain ⟨p, l, e, R, s, m, args, below, meth, c, Q, G⟩ := X
  intro H locs lsr hs hf hv
  have hk' := beq_k hk
  have hkb' := beq_k hkb
  rw [List.map_cons, List.map_cons, List.map_cons, rv_ref (hs.pos (a := a) (by omega)), rv_ref (hs.pos (a := b) (by omega))]
  have h1 := hs.arr (a := a) (by omega) (by omega)
  rw [hk'] at h1
  obtain ⟨C, T, N⟩ := q
  obtain ⟨cv, q1, q2, q3, q4⟩ := hs.obj hkb' hci hq
  obtain ⟨kA, comp, g1, g2, g3, g4⟩ := (hX.2.2.2.2.2.1.1.2 (kd - 100) _ (ht G)).2
  obtain ⟨-, hfc, kC, hkC, hkind⟩ := hX.2.2.2.2.2.1.1.1 ci _ hq
  have hcv : cv.cls = comp := by rw [q2]; exact Option.some.inj (hfc.symm.trans g3)
  have hkcomp : s.vm.classes[comp]? = some kC := by rw [← hcv, q2]; exact hkC
  refine W.aast hX.1 hX.2.1 h1 (fun q z => by cases z) (fun z => by cases z) g1 g2 rfl hkcomp ⟨inb_nn hb, by rw [arrV_size]; exact inb_lt hb⟩ q1 (fun q z => by rw [q3] at z; cases z) (by rw [hcv]; exact hkcomp) (by rw [hcv]; exact va_asg _ _) rfl rfl hd fun H' e1 e2 e3 => ?_
  rw [← rv_ref (G := G) (hs.pos (a := b) (by omega))] at e1
  rw [← hk'] at e1
  refine h H' _ lsr (hs.upd (a := a) (by omega) (by omega) rfl (fun _ => rfl) (fun _ => rfl) (fun _ _ _ => rfl) (fun _ _ _ => rfl) upR_o e2 e3 (hs.ast (v := vr b) (by omega) (by omega) rfl rfl (sv_upR (by omega) (isR_a (by omega) (by omega) _)) e1)) (locs_in hf (hs.baseA (by omega) (by omega))) hv
theorem r_gets {X : AX} {cc : ByteArray} {own : String} {nL k n pc : Nat} {ls : List (Nat × AV)} {st : List AV} {w : AW} {idx : Nat} {C f d : String} {v : AV} (hX : XOK X cc own nL) (hq : (C, f, d, v) ∈ stt) (hl : Cond.fieldLink own idx C f d ∈ tb) (hd : decode cc pc = .ok (.getstatic idx, 3)) (h : RJ X nL k n (pc + 3) ls (v :: st) w) : RJ X nL k n pc ls st w := by
  obtain ⟨p, l, e, R, s, m, args, below, meth, c, Q, G⟩ := X
  intro H locs lsr hs hf hv
  obtain ⟨cf, kf, fi, fd, a, cell, h1, h2, h3, h4, h5, h6, h7, h8⟩ := hX.2.2.2.2.2.1.2.1 _ hq
  exact W.gets hX.1 hX.2.1 hX.2.2.2.1 (hX.2.2.2.2.1 _ hl) h1 h2 h3 h4 (by rw [hs.2.2.2.1 a (Nat.not_le.mp h8)]; exact h5) (fun e => by rw [e] at h6; cases h6) h7 rfl hd (h H locs lsr hs hf hv)
theorem r_ldcS1 {X : AX} {cc : ByteArray} {nL k n pc : Nat} {ls : List (Nat × AV)} {st : List AV} {w : AW} (hX : XOK X cc "RedSky$Page" nL) (hd : decode cc pc = .ok (.ldc 152, 2)) (h : RJ X nL k n (pc + 2) ls (vr 7 :: st) w) : RJ X nL k n pc ls st w := by
  obtain ⟨p, l, e, R, s, m, args, below, meth, c, Q, G⟩ := X
  exact fun H locs lsr hs hf hl => va_ldcS hX.1 hX.2.1 hX.2.2.2.1 hX.2.2.2.2.2.1.2.2.1 hd (h H locs lsr hs hf hl)
theorem r_ldcS2 {X : AX} {cc : ByteArray} {nL k n pc : Nat} {ls : List (Nat × AV)} {st : List AV} {w : AW} (hX : XOK X cc "RedSky$Page" nL) (hd : decode cc pc = .ok (.ldc 159, 2)) (h : RJ X nL k n (pc + 2) ls (vr 8 :: st) w) : RJ X nL k n pc ls st w := by
  obtain ⟨p, l, e, R, s, m, args, below, meth, c, Q, G⟩ := X
  exact fun H locs lsr hs hf hl => va_ldcS hX.1 hX.2.1 hX.2.2.2.1 hX.2.2.2.2.2.1.2.2.2.1 hd (h H locs lsr hs hf hl)
theorem r_getScoder {X : AX} {cc : ByteArray} {own : String} {nL k n pc : Nat} {ls : List (Nat × AV)} {st : List AV} {w : AW} {a idx : Nat} (hX : XOK X cc own nL) (hl : Cond.fieldLink own idx "java/lang/String" "coder" "B" ∈ tb) (hk : (wk w a == 112) = true) (hd : decode cc pc = .ok (.getfield idx, 3)) (h : RJ X nL k n (pc + 3) ls (vi 0 :: st) w) : RJ X nL k n pc ls (vr a :: st) w := by
  obtain ⟨p, l, e, R, s, m, args, below, meth, c, Q, G⟩ := X
  intro H locs lsr hs hf hv
  have hk' := beq_k hk
  rw [List.map_cons, rv_ref (hs.pos (a := a) (by omega))]
  have hc := hs.cell (a := a) (by omega)
  unfold cok at hc
  rw [if_neg (by omega), if_neg (by omega), if_neg (by omega)] at hc
  obtain ⟨cf, kf, fi, fd, cell, h1, h2, h3, h4, h5, h6⟩ := hc.2.1
  exact W.getf hX.1 hX.2.1 hX.2.2.2.1 (hX.2.2.2.2.1 _ hl) h1 h2 h3 h4 h5 rfl rfl hd (h H locs lsr hs hf hv)
theorem r_getSvalue {X : AX} {cc : ByteArray} {own : String} {nL k n pc : Nat} {ls : List (Nat × AV)} {st : List AV} {w : AW} {a idx : Nat} (hX : XOK X cc own nL) (hl : Cond.fieldLink own idx "java/lang/String" "value" "[B" ∈ tb) (hk : (wk w a == 112) = true) (hd : decode cc pc = .ok (.getfield idx, 3)) (h : RJ X nL k n (pc + 3) ls (vr (wr w a 0) :: st) w) : RJ X nL k n pc ls (vr a :: st) w := by
  obtain ⟨p, l, e, R, s, m, args, below, meth, c, Q, G⟩ := X
  intro H locs lsr hs hf hv
  have hk' := beq_k hk
  rw [List.map_cons, rv_ref (hs.pos (a := a) (by omega))]
  have hc := hs.cell (a := a) (by omega)
  unfold cok at hc
  rw [if_neg (by omega), if_neg (by omega), if_neg (by omega)] at hc
  obtain ⟨cf, kf, fi, fd, cell, h1, h2, h3, h4, h5, h6⟩ := hc.2.2
  exact W.getf hX.1 hX.2.1 hX.2.2.2.1 (hX.2.2.2.2.1 _ hl) h1 h2 h3 h4 h5 rfl rfl hd (h H locs lsr hs hf hv)
def XR (X : AX) (ret : Option FieldType) (mc ms : Nat) (r : Option AV) (w' : AW) : Prop := match X with
  | (p, l, e, R, s, m, args, below, meth, c, Q, G) => meth.sig.returnType = ret ∧ Q = MQ below (fun _ _ o t => o = .returned (r.map (rv G)) ∧ Sm G t w' t.heap) args s mc ms (fun q => G.2.2.2.1 ≤ q)
theorem r_iret {X : AX} {cc : ByteArray} {own : String} {nL k n pc : Nat} {ls : List (Nat × AV)} {w : AW} {v : Int32} (hX : XOK X cc own nL) (hR : XR X (some .int) k n (some (vi v)) w) (hd : decode cc pc = .ok (.ireturn, 1)) : RJ X nL k n pc ls [vi v] w := by
  obtain ⟨p, l, e, R, s, m, args, below, meth, c, Q, G⟩ := X
  intro H locs lsr hs hf hv
  obtain ⟨hr, hq⟩ := hR
  subst hq
  exact W.iret hX.1 hX.2.1 hr (fun t ht hW => ⟨rfl, by rw [ht]; exact hs.moved hW.alike⟩) hf hd hX.2.2.2.2.2.2
theorem r_zret {X : AX} {cc : ByteArray} {own : String} {nL k n pc : Nat} {ls : List (Nat × AV)} {w : AW} {v : Int32} {ty : FieldType} (hX : XOK X cc own nL) (hR : XR X (some ty) k n (some (vi v)) w) (hn : narrow ty (.int v) = .int v) (hd : decode cc pc = .ok (.ireturn, 1)) : RJ X nL k n pc ls [vi v] w := by
  obtain ⟨p, l, e, R, s, m, args, below, meth, c, Q, G⟩ := X
  intro H locs lsr hs hf hv
  obtain ⟨hr, hq⟩ := hR
  subst hq
  exact W.zret hX.1 hX.2.1 hr hn (fun t ht hW => ⟨rfl, by rw [ht]; exact hs.moved hW.alike⟩) hf hd hX.2.2.2.2.2.2
theorem r_lret {X : AX} {cc : ByteArray} {own : String} {nL k n pc : Nat} {ls : List (Nat × AV)} {w : AW} {v : Int64} (hX : XOK X cc own nL) (hR : XR X (some .long) k n (some (vl v)) w) (hd : decode cc pc = .ok (.lreturn, 1)) : RJ X nL k n pc ls [vl v] w := by
  obtain ⟨p, l, e, R, s, m, args, below, meth, c, Q, G⟩ := X
  intro H locs lsr hs hf hv
  obtain ⟨hr, hq⟩ := hR
  subst hq
  exact W.lret hX.1 hX.2.1 hr (fun t ht hW => ⟨rfl, by rw [ht]; exact hs.moved hW.alike⟩) hf hd hX.2.2.2.2.2.2
theorem r_vret {X : AX} {cc : ByteArray} {own : String} {nL k n pc : Nat} {ls : List (Nat × AV)} {w : AW} (hX : XOK X cc own nL) (hR : XR X none k n none w) (hd : decode cc pc = .ok (.return_, 1)) : RJ X nL k n pc ls [] w := by
  obtain ⟨p, l, e, R, s, m, args, below, meth, c, Q, G⟩ := X
  intro H locs lsr hs hf hv
  obtain ⟨hr, hq⟩ := hR
  subst hq
  exact W.vret hX.1 hX.2.1 hr (fun t ht hW => ⟨rfl, by rw [ht]; exact hs.moved hW.alike⟩) hf hd hX.2.2.2.2.2.2
theorem r_aret {X : AX} {cc : ByteArray} {own : String} {nL k n pc : Nat} {ls : List (Nat × AV)} {w : AW} {v : Nat} {D : String} (hX : XOK X cc own nL) (hR : XR X (some (.object D)) k n (some (vr v)) w) (hd : decode cc pc = .ok (.areturn, 1)) : RJ X nL k n pc ls [vr v] w := by
  obtain ⟨p, l, e, R, s, m, args, below, meth, c, Q, G⟩ := X
  intro H locs lsr hs hf hv
  obtain ⟨hr, hq⟩ := hR
  subst hq
  exact W.aret hX.1 hX.2.1 hr (Or.inl ⟨_, rfl⟩) (by cases v with | zero => exact Or.inl rfl | succ v => exact Or.inr ⟨_, rfl⟩) (fun t ht hW => ⟨rfl, by rw [ht]; exact hs.moved hW.alike⟩) hf hd hX.2.2.2.2.2.2
