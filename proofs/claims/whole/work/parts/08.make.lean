/-! makings, copies, switches -/
def wnew (w : AW) (kd len sl : Nat) : AW := (w.1 + 1, w.2.1 + sl, (fun b => if b = w.1 then kd else w.2.2.1 b), (fun b => if b = w.1 then len else w.2.2.2.1 b), (fun b j => if b = w.1 then 0 else w.2.2.2.2.1 b j), (fun b j => if b = w.1 then 0 else w.2.2.2.2.2.1 b j), (fun b j => if b = w.1 then 0 else w.2.2.2.2.2.2 b j))
theorem Sm.grow {G : AG} {s : State} {w : AW} {H H' : Heap} (hs : Sm G s w H) {kd len sl : Nat} (hkd0 : kd ≠ 0) (hkd : kd < 110) (e2 : H'.size = H.size + 1) (e3 : ∀ q : Nat, q < H.size → H'[q]? = H[q]?) (hc : cok G s (wnew w kd len sl) H' (wz w)) : Sm G s (wnew w kd len sl) H' := by
  obtain ⟨h1, h2, h3, h4, h5, h6, h7⟩ := hs
  have ez : wz (wnew w kd len sl) = wz w + 1 := rfl
  have ek : ∀ b, b ≠ wz w → wk (wnew w kd len sl) b = wk w b := fun b hb => by
    show (if b = w.1 then kd else w.2.2.1 b) = _
    exact if_neg hb
  have en : ∀ b, b ≠ wz w → wn (wnew w kd len sl) b = wn w b := fun b hb => by
    show (if b = w.1 then len else w.2.2.2.1 b) = _
    exact if_neg hb
  have ei : ∀ b j, b ≠ wz w → wi (wnew w kd len sl) b j = wi w b j := fun b j hb => by
    show (if b = w.1 then (0 : Int32) else w.2.2.2.2.1 b j) = _
    exact if_neg hb
  have ej : ∀ b j, b ≠ wz w → wj (wnew w kd len sl) b j = wj w b j := fun b j hb => by
    show (if b = w.1 then (0 : Int64) else w.2.2.2.2.2.1 b j) = _
    exact if_neg hb
  have er : ∀ b j, b ≠ wz w → wr (wnew w kd len sl) b j = wr w b j := fun b j hb => by
    show (if b = w.1 then (0 : Nat) else w.2.2.2.2.2.2 b j) = _
    exact if_neg hb
  have e0 : wk (wnew w kd len sl) (wz w) = kd := if_pos rfl
  refine ⟨by omega, by omega, h3, fun q hq => by rw [e3 q (by omega)]; exact h4 q hq, fun b hb => ?_, fun b hb hb2 => ?_, ?_⟩
  · by_cases hba : b = wz w
    · rw [hba]; exact hc
    · rw [ek b hba] at hb
      have h := h5 b hb
      have hsv : ∀ j, sv (wnew w kd len sl) b j = sv w b j := by
        intro j
        unfold sv
        rw [ek b hba, ei b j hba, ej b j hba, er b j hba]
      unfold cok at h ⊢
      rw [ek b hba, en b hba]
      by_cases c1 : wk w b < 100
      · have hlt : ad G b < H.size := by
          have := h6 b hb (by omega)
          rw [ad_new this.1]; omega
        rw [if_pos c1] at h ⊢
        obtain ⟨q, g1, g2⟩ := h
        refine ⟨q, g1, t_OB.to (g2.kept (e3 _ hlt)) (fun j _ => by rw [hsv])⟩
      · rw [if_neg c1] at h ⊢
        by_cases c2 : wk w b < 110
        · have hlt : ad G b < H.size := by
            have := h6 b hb (by omega)
            rw [ad_new this.1]; omega
          rw [if_pos c2] at h ⊢
          rw [e3 _ hlt, h]
          congr 2
          funext j
          rw [hsv]
        · rw [if_neg c2] at h ⊢
          have kp : ∀ x : Nat, x < H.size → ¬ G.2.2.2.1 ≤ x → H'[x]? = H[x]? := fun x hx _ => e3 x hx
          by_cases c3 : wk w b < 112
          · rw [if_pos c3] at h ⊢
            have h := va_T.kept (H1 := H') h kp
            simpa only [ei b _ hba] using h
          · rw [if_neg c3] at h ⊢
            exact ⟨h.1.kept kp, h.2.1.kept kp, by rw [er b 0 hba]; exact h.2.2.kept kp⟩
  · by_cases hba : b = wz w
    · rw [hba]; omega
    · rw [ek b hba] at hb hb2
      have := h6 b hb hb2
      omega
  · rw [ek 0 (by omega)]; exact h7
theorem sv_new {w : AW} {kd len sl : Nat} (j : Nat) : sv (wnew w kd len sl) (wz w) j = if kd = 101 then vl 0 else if isR kd j = true then vr 0 else vi 0 := by
  have e0 : wk (wnew w kd len sl) (wz w) = kd := if_pos rfl
  unfold sv
  rw [e0]
  rw [show wj (wnew w kd len sl) (wz w) j = 0 from if_pos rfl, show wr (wnew w kd len sl) (wz w) j = 0 from if_pos rfl, show wi (wnew w kd len sl) (wz w) j = 0 from if_pos rfl]
theorem Sm.adz {G : AG} {s : State} {w : AW} {H : Heap} (hs : Sm G s w H) : ad G (wz w) = H.size ∧ wz w ≠ 0 := by
  have h1 := hs.1
  have h2 := hs.2.1
  rw [ad_new h1, h2]
  exact ⟨rfl, by omega⟩
theorem r_new {X : AX} {cc : ByteArray} {own : String} {nL k n pc : Nat} {ls : List (Nat × AV)} {st : List AV} {w : AW} {l : Launch} {G : AG} {R0 : Room} {i idx : Nat} {C : String} {T : u_T} {N : Nat} {ty : Nat → FieldType} (hX : XOK X cc own nL) (hM : XM X l G R0) (hc : CI i C T N ty) (hw : Cond.classLink own idx C ∈ tb ∧ Cond.instantiable C N ∈ tb ∧ Cond.initialized C ∈ tb) (hdf : ∀ j, j < N → defaultValue (ty j) = if isR (i + 1) j = true then .null else .int 0) (h1 : k + 1 ≤ R0.cells) (h2 : n + N ≤ R0.slots) (hd : decode cc pc = .ok (.new idx, 3)) (h : RJ X nL (k + 1) (n + N) (pc + 3) ls (vr (wz w) :: st) (wnew w (i + 1) 0 N)) : RJ X nL k n pc ls st w := by
  obtain ⟨p, l0, e, R, s, m, args, below, meth, c, Q, G0⟩ := X
  obtain ⟨rfl, rfl, rfl⟩ := hM
  intro H locs lsr hs hf hv
  obtain ⟨hz, hz0⟩ := hs.adz
  have hkn := hX.2.2.2.2.2.1.1.1 i _ hc.1
  refine W.newcK hX.1 hX.2.1 hX.2.2.2.1 (hX.2.2.2.2.1 _ hw.1) (hX.2.2.2.2.1 _ hw.2.1) (hX.2.2.2.2.1 _ hw.2.2) rfl hd h1 h2 hkn.2.1 rfl (fun H' kC hkC e1 e2 e3 => ?_)
  have hb := u_born ty hX.2.2.2.2.1 hc.2.1 hkn hkC e1 hc.2.2.1
  have hi := hc.2.2.2.2
  have h := h H' locs lsr (hs.grow (by omega) (by omega) e2 e3 (by
    have e0 : wk (wnew w (i + 1) 0 N) (wz w) = i + 1 := if_pos rfl
    unfold cok
    rw [e0, if_pos (by omega), hz]
    refine ⟨_, hc.1, t_OB.to hb (fun j hj => ?_)⟩
    rw [hdf j hj, sv_new, if_neg (show ¬ i + 1 = 101 by omega)]
    by_cases q : isR (i + 1) j = true
    · rw [if_pos q, if_pos q]; rfl
    · rw [if_neg q, if_neg q]; rfl)) hf hv
  rw [List.map_cons, rv_ref hz0, hz] at h
  exact h
theorem r_newarr {X : AX} {cc : ByteArray} {own : String} {nL k n pc : Nat} {ls : List (Nat × AV)} {st : List AV} {w : AW} {l : Launch} {G : AG} {R0 : Room} {kd : Nat} {x : Int32} {N : Nat} {at9 : ArrayType} (hX : XOK X cc own nL) (hM : XM X l G R0) (hkd : 100 ≤ kd ∧ kd < 105) (hw : Cond.arrayClass (newarray.typeOf at9) ∈ tb) (ht : ∀ G : AG, (atys G)[kd - 100]? = some (G.2.2.1 kd, newarray.typeOf at9)) (hno : ∀ D, newarray.typeOf at9 ≠ .object D) (hdf : defaultValue (newarray.typeOf at9) = if kd = 101 then .long 0 else .int 0) (hx : ¬ x < 0) (hN : x.toNatClampNeg = N) (hby : N * componentBytes (newarray.typeOf at9) ≤ 536870912) (h1 : k + 1 ≤ R0.cells) (h2 : n + N ≤ R0.slots) (hd : decode cc pc = .ok (.newarray at9, 2)) (h : RJ X nL (k + 1) (n + N) (pc + 2) ls (vr (wz w) :: st) (wnew w kd N N)) : RJ X nL k n pc ls (vi x :: st) w := by
  obtain ⟨p, l0, e, R, s, m, args, below, meth, c, Q, G0⟩ := X
  obtain ⟨rfl, rfl, rfl⟩ := hM
  intro H locs lsr hs hf hv
  obtain ⟨hz, hz0⟩ := hs.adz
  have hRA := (hX.2.2.2.2.2.1.1.2 (kd - 100) _ (ht G0)).2
  subst hN
  refine W.newa hX.1 hX.2.1 (hX.2.2.2.2.1 _ hw) rfl hd rfl hx hby h1 h2 (fun cA kA comp g1 g2 g3 => ?_)
  have hcA : cA = G0.2.2.1 kd := by
    have : s.vm.findClass ("[" ++ (newarray.typeOf at9).toString) = some (G0.2.2.1 kd) := by
      unfold va_RA at hRA
      split at hRA
      · rename_i D hD; exact absurd hD (hno D)
      · exact hRA
    exact Option.some.inj (g1.symm.trans this)
  have h := h _ locs lsr (hs.grow (kd := kd) (len := x.toNatClampNeg) (sl := x.toNatClampNeg) (H' := H.push { cls := cA, slots := Array.replicate x.toNatClampNeg (defaultValue (newarray.typeOf at9)), vm := .none }) (by omega) (by omega) (by simp) (fun q hq => by rw [Array.getElem?_push, if_neg (Nat.ne_of_lt hq)]) (by
    have e0 : wk (wnew w kd x.toNatClampNeg x.toNatClampNeg) (wz w) = kd := if_pos rfl
    have e9 : wn (wnew w kd x.toNatClampNeg x.toNatClampNeg) (wz w) = x.toNatClampNeg := if_pos rfl
    unfold cok
    rw [e0, e9, if_neg (by omega), if_pos (by omega), hz, arrV_new, hcA, hdf]
    simp only [Array.getElem?_push_size]
    congr 2
    funext j
    rw [sv_new]
    by_cases q : kd = 101
    · rw [if_pos q, if_pos q]; rfl
    · rw [if_neg q, if_neg q]
      have : isR kd j = false := by
        unfold isR
        rw [if_neg (by omega)]
        have : Nat.ble 105 kd = false := by
          cases hb : Nat.ble 105 kd with
          | false => rfl
          | true => exact absurd (Nat.le_of_ble_eq_true hb) (by omega)
        rw [this]; rfl
      rw [this]; rfl)) hf hv
  rw [List.map_cons, rv_ref hz0, hz] at h
  exact h
theorem r_anew {X : AX} {cc : ByteArray} {own : String} {nL k n pc : Nat} {ls : List (Nat × AV)} {st : List AV} {w : AW} {l : Launch} {G : AG} {R0 : Room} {kd idx : Nat} {x : Int32} {N : Nat} {D : String} (hX : XOK X cc own nL) (hM : XM X l G R0) (hkd : 105 ≤ kd ∧ kd < 109) (hw : Cond.classLink own idx D ∈ tb) (hw2 : Cond.arrayOver (.object D) ∈ lw_tbl) (ht : ∀ G : AG, (atys G)[kd - 100]? = some (G.2.2.1 kd, .object D)) (hx : ¬ x < 0) (hN : x.toNatClampNeg = N) (hby : N * 4 ≤ 536870912) (h1 : k + 1 ≤ R0.cells) (h2 : n + N ≤ R0.slots) (hd : decode cc pc = .ok (.anewarray idx, 3)) (h : RJ X nL (k + 1) (n + N) (pc + 3) ls (vr (wz w) :: st) (wnew w kd N N)) : RJ X nL k n pc ls (vi x :: st) w := by
  obtain ⟨p, l0, e, R, s, m, args, below, meth, c, Q, G0⟩ := X
  obtain ⟨rfl, rfl, rfl⟩ := hM
  intro H locs lsr hs hf hv
  obtain ⟨hz, hz0⟩ := hs.adz
  obtain ⟨kA0, comp0, j1, j2, j3, j4⟩ := (hX.2.2.2.2.2.1.1.2 (kd - 100) _ (ht G0)).2
  subst hN
  refine W.anew hX.1 hX.2.1 hX.2.2.2.1 (hX.2.2.2.2.1 _ hw) ((hX.2.2.2.2.2.1.2.2.2.2.2 D hw2).use) rfl hd rfl hx hby h1 h2 (fun cA kA comp g1 g2 g3 g4 => ?_)
  have hcA : cA = G0.2.2.1 kd := Option.some.inj (g1.symm.trans j4)
  have h := h _ locs lsr (hs.grow (kd := kd) (len := x.toNatClampNeg) (sl := x.toNatClampNeg) (H' := H.push { cls := cA, slots := Array.replicate x.toNatClampNeg .null, vm := .none }) (by omega) (by omega) (by simp) (fun q hq => by rw [Array.getElem?_push, if_neg (Nat.ne_of_lt hq)]) (by
    have e0 : wk (wnew w kd x.toNatClampNeg x.toNatClampNeg) (wz w) = kd := if_pos rfl
    have e9 : wn (wnew w kd x.toNatClampNeg x.toNatClampNeg) (wz w) = x.toNatClampNeg := if_pos rfl
    unfold cok
    rw [e0, e9, if_neg (by omega), if_pos (by omega), hz, arrV_new, hcA]
    simp only [Array.getElem?_push_size]
    congr 2
    funext j
    rw [sv_new, if_neg (show ¬ kd = 101 by omega), if_pos (isR_a (by omega) (by omega) j)]
    rfl)) hf hv
  rw [List.map_cons, rv_ref hz0, hz] at h
  exact h
theorem r_objInit {X : AX} {cc : ByteArray} {own : String} {nL k n pc : Nat} {ls : List (Nat × AV)} {st : List AV} {w : AW} {l : Launch} {G : AG} {R0 : Room} {a idx : Nat} (hX : XOK X cc own nL) (hM : XM X l G R0) (hw : Cond.methodLink own idx objectInit ∈ tb ∧ Cond.instanceMethod objectInit ∈ tb ∧ Cond.code objectInit ⟨#[0xb1]⟩ 1 none ∈ tb) (ha0 : wk w a ≠ 0) (h1 : 1 ≤ R0.frames) (h2 : acat st + 12 ≤ R0.locals) (hd : decode cc pc = .ok (.invokespecial idx, 3)) (h : RJ X nL k n (pc + 3) ls st w) : RJ X nL k n pc ls (vr a :: st) w := by
  obtain ⟨p, l0, e, R, s, m, args, below, meth, c, Q, G0⟩ := X
  obtain ⟨rfl, rfl, rfl⟩ := hM
  intro H locs lsr hs hf hv
  rw [List.map_cons, rv_ref (hs.pos ha0)]
  refine W.objInit hX.1 hX.2.1 hX.2.2.2.1 (hX.2.2.2.2.1 _ hw.1) (hX.2.2.2.2.1 _ hw.2.1) (hX.2.2.2.2.1 _ hw.2.2) rfl (by rw [hX.2.2.1]; exact hv.1) rfl hd h1 ?_ (h H locs lsr hs hf hv)
  rw [acat_sum]
  simpa [JFrame.monitorRoom] using h2
/-- System.arraycopy -/
def cpJ (w : AW) (a0 a sp dp n : Nat) : AW := (w.1, w.2.1, w.2.2.1, w.2.2.2.1, w.2.2.2.2.1, (fun b j => if b = a ∧ dp ≤ j ∧ j < dp + n then wj w a0 (sp + (j - dp)) else wj w b j), w.2.2.2.2.2.2)
def cpI (w : AW) (a0 a sp dp n : Nat) : AW := (w.1, w.2.1, w.2.2.1, w.2.2.2.1, (fun b j => if b = a ∧ dp ≤ j ∧ j < dp + n then wi w a0 (sp + (j - dp)) else wi w b j), w.2.2.2.2.2.1, w.2.2.2.2.2.2)
def cpok (sp dp n : Int32) (n0 n1 : Nat) : Bool := decide (¬ sp < 0) && (decide (¬ dp < 0) && (decide (¬ n < 0) && (Nat.ble (sp.toNatClampNeg + n.toNatClampNeg) n0 && Nat.ble (dp.toNatClampNeg + n.toNatClampNeg) n1)))
theorem cpok_all {sp dp n : Int32} {n0 n1 : Nat} (h : cpok sp dp n n0 n1 = true) : ¬ sp < 0 ∧ ¬ dp < 0 ∧ ¬ n < 0 ∧ sp.toNatClampNeg + n.toNatClampNeg ≤ n0 ∧ dp.toNatClampNeg + n.toNatClampNeg ≤ n1 := by
  unfold cpok at h
  simp only [Bool.and_eq_true, decide_eq_true_eq] at h
  exact ⟨h.1, h.2.1, h.2.2.1, Nat.le_of_ble_eq_true h.2.2.2.1, Nat.le_of_ble_eq_true h.2.2.2.2⟩
theorem i32_nn {z : Int32} (hz : ¬ z < 0) : z.toInt = (z.toNatClampNeg : Int) := by
  have hz0 : (0 : Int) ≤ z.toInt := by
    have := Int32.not_lt.mp hz
    simpa using Int32.le_iff_toInt_le.mp this
  show z.toInt = ((z.toInt.toNat : Nat) : Int)
  omega
theorem kn_ne {w : AW} {a i : Nat} (h : (wk w a == i + 1) = true) : wk w a ≠ 0 := by have := beq_k h; omega
theorem kn_new {w : AW} {kd len sl : Nat} : (wk (wnew w kd len sl) (wz w) == kd) = true := by
  have e0 : wk (wnew w kd len sl) (wz w) = kd := if_pos rfl
  rw [e0]; simp
theorem al_1 {z0 k mc : Nat} {w : AW} {b : Bool} (hk : z0 + k = wz w) (hg : (Nat.blt (wz w) (z0 + mc) && b) = true) : k + 1 ≤ mc := by
  have h := Nat.le_of_ble_eq_true (Bool.and_eq_true _ _ ▸ hg).1
  omega
theorem al_2 {q0 n ms N : Nat} {w : AW} {b : Bool} (hq : q0 + n = wq w) (hg : (b && Nat.ble (wq w + N) (q0 + ms)) = true) : n + N ≤ ms := by
  have h := Nat.le_of_ble_eq_true (Bool.and_eq_true _ _ ▸ hg).2
  omega
theorem al_3 {z0 q0 k n mc ms c d : Nat} {w : AW} (hk : z0 + k = wz w) (hq : q0 + n = wq w) (hg : (Nat.ble (wz w + c) (z0 + mc) && Nat.ble (wq w + d) (q0 + ms)) = true) : k + c ≤ mc ∧ n + d ≤ ms := by
  have h := Bool.and_eq_true _ _ ▸ hg
  have h1 := Nat.le_of_ble_eq_true h.1
  have h2 := Nat.le_of_ble_eq_true h.2
  omega
theorem al_k {z0 k : Nat} {w : AW} (kd len sl : Nat) (hk : z0 + k = wz w) : z0 + (k + 1) = wz (wnew w kd len sl) := by
  show z0 + (k + 1) = wz w + 1; omega
theorem al_q {q0 n : Nat} {w : AW} (kd len sl : Nat) (hq : q0 + n = wq w) : q0 + (n + sl) = wq (wnew w kd len sl) := by
  show q0 + (n + sl) = wq w + sl; omega
theorem al_ck {z0 k c : Nat} {w r : AW} {b : Bool} (hk : z0 + k = wz w) (hg : ((wz r == wz w + c) && b) = true) : z0 + (k + c) = wz r := by
  have h := beq_k (Bool.and_eq_true _ _ ▸ hg).1
  omega
theorem al_cq {q0 n d : Nat} {w r : AW} {b : Bool} (hq : q0 + n = wq w) (hg : (b && (wq r == wq w + d)) = true) : q0 + (n + d) = wq r := by
  have h := beq_k (Bool.and_eq_true _ _ ▸ hg).2
  omega
theorem al_e {z0 q0 k n mc ms : Nat} {w : AW} (hk : z0 + k = wz w) (hq : q0 + n = wq w) (hg : ((wz w == z0 + mc) && (wq w == q0 + ms)) = true) : k = mc ∧ n = ms := by
  have h := Bool.and_eq_true _ _ ▸ hg
  have h1 := beq_k h.1
  have h2 := beq_k h.2
  omega
theorem rj_kn {X : AX} {nL k n mc ms pc : Nat} {ls : List (Nat × AV)} {st : List AV} {w : AW} (e : k = mc ∧ n = ms) (h : RJ X nL mc ms pc ls st w) : RJ X nL k n pc ls st w := by
  obtain ⟨rfl, rfl⟩ := e; exact h
theorem kI {w : AW} {a c b i : Nat} {x : Int32} (h : (wk w a == c) = true) : (wk (upI w b i x) a == c) = true := h
theorem zI {w : AW} {b i : Nat} {x : Int32} {z : Nat} (h : z = wz w) : z = wz (upI w b i x) := h
theorem qI {w : AW} {b i : Nat} {x : Int32} {z : Nat} (h : z = wq w) : z = wq (upI w b i x) := h
theorem kJ {w : AW} {a c b i : Nat} {x : Int64} (h : (wk w a == c) = true) : (wk (upJ w b i x) a == c) = true := h
theorem zJ {w : AW} {b i : Nat} {x : Int64} {z : Nat} (h : z = wz w) : z = wz (upJ w b i x) := h
theorem qJ {w : AW} {b i : Nat} {x : Int64} {z : Nat} (h : z = wq w) : z = wq (upJ w b i x) := h
theorem kR {w : AW} {a c b i : Nat} {x : Nat} (h : (wk w a == c) = true) : (wk (upR w b i x) a == c) = true := h
theorem zR {w : AW} {b i : Nat} {x : Nat} {z : Nat} (h : z = wz w) : z = wz (upR w b i x) := h
theorem qR {w : AW} {b i : Nat} {x : Nat} {z : Nat} (h : z = wq w) : z = wq (upR w b i x) := h
theorem kCI {w : AW} {a c b c1 d1 d2 d3 : Nat} (h : (wk w a == c) = true) : (wk (cpI w b c1 d1 d2 d3) a == c) = true := h
theorem zCI {w : AW} {b c1 d1 d2 d3 z : Nat} (h : z = wz w) : z = wz (cpI w b c1 d1 d2 d3) := h
theorem qCI {w : AW} {b c1 d1 d2 d3 z : Nat} (h : z = wq w) : z = wq (cpI w b c1 d1 d2 d3) := h
theorem kCJ {w : AW} {a c b c1 d1 d2 d3 : Nat} (h : (wk w a == c) = true) : (wk (cpJ w b c1 d1 d2 d3) a == c) = true := h
theorem zCJ {w : AW} {b c1 d1 d2 d3 z : Nat} (h : z = wz w) : z = wz (cpJ w b c1 d1 d2 d3) := h
theorem qCJ {w : AW} {b c1 d1 d2 d3 z : Nat} (h : z = wq w) : z = wq (cpJ w b c1 d1 d2 d3) := h
