/-! calls, method entries, makings -/
/-- a method's contract: from this world, with these arguments, it returns that and leaves that world -/
def Mt (l : Launch) (G : AG) (y : MethodName) (b : ByteArray) (nL : Nat) (ret : Option FieldType) (fr lo mc ms : Nat) (As : List AV) (w : AW) (r : Option AV) (w' : AW) : Prop :=
  Met l y (Cond.code y b nL ret :: tb) { frames := fr, cells := mc, slots := ms, locals := lo } (fun a U => a = (As.map (rv G)).toArray ∧ Sm G U w U.heap ∧ Kn G U) (fun _ _ o t => o = .returned (r.map (rv G)) ∧ Sm G t w' t.heap) mc ms (fun q => G.2.2.2.1 ≤ q)
/-- launch, numbers and room of a method's walk -/
def XM (X : AX) (l : Launch) (G : AG) (R : Room) : Prop := match X with
  | (p, l0, e, R0, s, m, args, below, meth, c, Q, G0) => l0 = l ∧ G0 = G ∧ R0 = R
def av : Nat → List AV → List (Nat × AV)
  | _, [] => []
  | i, v :: vs => (i, v) :: av (if c2 v = true then i + 2 else i + 1) vs
theorem rl_av (G : AG) : ∀ (vs : List AV) (i : Nat), rl G (av i vs) = lv_args i (vs.map (rv G))
  | [], _ => rfl
  | v :: vs, i => by
    have hc : ((rv G v).category = 2) ↔ (c2 v = true) := by rw [← rv_c2 G v]; simp
    show (i, rv G v) :: rl G (av (if c2 v = true then i + 2 else i + 1) vs) = (i, rv G v) :: lv_args (if (rv G v).category = 2 then i + 2 else i + 1) (vs.map (rv G))
    rw [rl_av G vs]
    by_cases h : c2 v = true
    · rw [if_pos h, if_pos (hc.mpr h)]
    · rw [if_neg h, if_neg (fun z => h (hc.mp z))]
def alen : List AV → Nat
  | [] => 0
  | v :: vs => (if c2 v = true then 2 else 1) + alen vs
theorem alen_sl (G : AG) : ∀ (vs : List AV), (lg_sl (vs.map (rv G))).length = alen vs
  | [] => rfl
  | v :: vs => by
    have hc : ((rv G v).category = 2) ↔ (c2 v = true) := by rw [← rv_c2 G v]; simp
    have ih := alen_sl G vs
    unfold lg_sl at ih ⊢
    rw [List.map_cons, List.flatMap_cons, List.length_append, ih]
    show _ = (if c2 v = true then 2 else 1) + alen vs
    congr 1
    by_cases h : c2 v = true
    · rw [if_pos h]; simp [hc.mpr h]
    · rw [if_neg h]
      have h2 : ¬ (rv G v).category = 2 := fun z => h (hc.mp z)
      simp [h2]
def acat : List AV → Nat
  | [] => 0
  | v :: vs => (if c2 v = true then 2 else 1) + acat vs
theorem acat_sum (G : AG) : ∀ (vs : List AV), ((vs.map (rv G)).map fun v => v.category).sum = acat vs
  | [] => rfl
  | v :: vs => by
    have hc : (rv G v).category = if c2 v = true then 2 else 1 := by
      match v with
      | .inl x => rfl
      | .inr (.inl y) => rfl
      | .inr (.inr 0) => rfl
      | .inr (.inr (n + 1)) => rfl
    rw [List.map_cons, List.map_cons, List.sum_cons, acat_sum G vs, hc]
    rfl
/-- a method's contract out of the walk of its body -/
theorem mt_of {l : Launch} {G : AG} {y : MethodName} {b : ByteArray} {nL : Nat} {ret : Option FieldType} {fr lo mc ms : Nat} {As : List AV} {w : AW} {r : Option AV} {w' : AW} (hy : plainName y.cls = true) (hn : alen As ≤ nL)
    (body : ∀ X : AX, XOK X b y.cls nL → XR X ret mc ms r w' → XM X l G { frames := fr, cells := mc, slots := ms, locals := lo } → (y.name = "<init>" → XI X) → RJ X nL 0 0 0 (av 0 As) [] w) : Mt l G y b nL ret fr lo mc ms As w r w' := by
  refine Met.ofW (cc := b) (maxL := nL) (ret := ret) hy rfl ?_
  intro p e s m args below meth c s₁ B hml hv
  obtain ⟨rfl, hs, hK⟩ := hv
  have hts0 : ∀ q ∈ Cond.code y b nL ret :: tb, q.before (As.map (rv G)).toArray s = true := atoms_spec (ws := Cond.code y b nL ret :: tb) B.pre
  have hX : XOK (p, l, e, { frames := fr, cells := mc, slots := ms, locals := lo }, s, m, (As.map (rv G)).toArray, below, meth, c, MQ below (fun _ _ o t => o = .returned (r.map (rv G)) ∧ Sm G t w' t.heap) (As.map (rv G)).toArray s mc ms (fun q => G.2.2.2.1 ≤ q), G) b y.cls nL :=
    ⟨B.exec, B.bytes, hml, findClass_of_methodNamed B.named, fun q hq => hts0 q (List.mem_cons_of_mem _ hq), hK, B.notSynchronized⟩
  have h := body _ hX ⟨B.returns, rfl⟩ ⟨rfl, rfl, rfl⟩ (fun h => (name_of_methodNamed B.named B.method).1.trans h)
  have hl := lv_entry (As.map (rv G)) (n := nL) (by rw [alen_sl]; exact hn)
  rw [lg_entry_eq]
  rw [← rl_av G As 0] at hl
  exact h s.heap [] _ hs (fun q h => by cases h) hl
/-- words of a call -/
def MD (y : MethodName) (np : Nat) : Prop := y.cls ≠ "java/lang/invoke/MethodHandle" ∧ y.cls ≠ "java/lang/invoke/VarHandle" ∧ (parseMethodDescriptor y.desc).map (fun d => d.parameters.length) = some np
def MV (own : String) (idx : Nat) (y : MethodName) (b : ByteArray) (nL : Nat) (ret : Option FieldType) (np : Nat) : Prop := Cond.methodLink own idx y ∈ tb ∧ Cond.instanceMethod y ∈ tb ∧ Cond.selects y.cls y y ∈ tb ∧ Cond.initialized y.cls ∈ tb ∧ Cond.code y b nL ret ∈ tb ∧ MD y np
def MVN (own : String) (idx : Nat) (y : MethodName) (host : String) (b : ByteArray) (nL : Nat) (ret : Option FieldType) (np : Nat) : Prop := Cond.methodLinkNest own idx y host ∈ lw_tbl ∧ Cond.instanceMethod y ∈ tb ∧ Cond.selects y.cls y y ∈ tb ∧ Cond.initialized y.cls ∈ tb ∧ Cond.code y b nL ret ∈ tb ∧ MD y np
def MS (own : String) (idx : Nat) (y : MethodName) (b : ByteArray) (nL : Nat) (ret : Option FieldType) (np : Nat) : Prop := Cond.methodLink own idx y ∈ tb ∧ Cond.static y ∈ tb ∧ Cond.initialized y.cls ∈ tb ∧ Cond.code y b nL ret ∈ tb ∧ MD y np
def MSN (own : String) (idx : Nat) (y : MethodName) (host : String) (b : ByteArray) (nL : Nat) (ret : Option FieldType) (np : Nat) : Prop := Cond.methodLinkNest own idx y host ∈ lw_tbl ∧ Cond.static y ∈ tb ∧ Cond.initialized y.cls ∈ tb ∧ Cond.code y b nL ret ∈ tb ∧ MD y np
def MI (own : String) (idx : Nat) (y : MethodName) (b : ByteArray) (nL : Nat) (np : Nat) : Prop := Cond.methodLink own idx y ∈ tb ∧ Cond.instanceMethod y ∈ tb ∧ Cond.initialized y.cls ∈ tb ∧ Cond.code y b nL none ∈ tb ∧ MD y np ∧ y.name = "<init>"
def MIN (own : String) (idx : Nat) (y : MethodName) (host : String) (b : ByteArray) (nL : Nat) (np : Nat) : Prop := Cond.methodLinkNest own idx y host ∈ lw_tbl ∧ Cond.instanceMethod y ∈ tb ∧ Cond.initialized y.cls ∈ tb ∧ Cond.code y b nL none ∈ tb ∧ MD y np ∧ y.name = "<init>"
theorem mt_blind {G : AG} {As : List AV} {w : AW} : FrameBlind (fun (a : Array Value) (U : State) => a = (As.map (rv G)).toArray ∧ Sm G U w U.heap ∧ Kn G U) := by
  intro a U g mk q
  obtain ⟨q0, q1, q2⟩ := q
  exact ⟨q0, q1.moved (U := U.calling g mk a) (Vm.Alike.refl U.vm), q2.same rfl⟩
/-- behind a call -/
theorem rj_run {p : Program} {l : Launch} {e : Env} {R : Room} {s : State} {m : MethodId} {args : Array Value} {below : List Frame} {meth : Method} {c : Code} {Q : State → Prop} {G : AG} {H : Heap} {locs : List Loc} {lsr : Array Slot} {nL k n mc ms pc : Nat} {ls : List (Nat × AV)} {rest : List AV} {w' : AW} {r : Option AV} {st0 : List Value}
    (hr : va_Run p l e R s m args below meth c H locs k n mc ms (F0 m pc lsr st0) (rest.map (rv G)) (fun _ o t => o = .returned (r.map (rv G)) ∧ Sm G t w' t.heap) (fun q => G.2.2.2.1 ≤ q)) (hf : ∀ q ∈ locs, G.2.2.2.1 ≤ q.base) (hv : lv_has lsr nL (rl G ls))
    (h : RJ (p, l, e, R, s, m, args, below, meth, c, Q, G) nL (k + mc) (n + ms) (pc + 3) ls (r.toList ++ rest) w') : W p l e R s m args below meth c H locs k n Q (F0 m pc lsr st0) := by
  intro T hT X
  obtain ⟨v, st₀, t, T', L, h0, X', hL, e1, e2, ⟨ho, hs⟩, go⟩ := hr T hT X
  cases ho
  have hs' : Sm G s w' T'.heap := by
    rw [e1]
    exact hs.moved (by rw [← e2]; exact X'.warmed.alike.symm)
  obtain ⟨t2, a1, b1⟩ := h T'.heap (locs ++ L) lsr hs' (fun q hq => by
    rcases List.mem_append.mp hq with h | h
    · exact hf q h
    · exact hL q h) hv T' rfl X'
  refine ⟨t2, go t2 ?_, b1⟩
  have e9 : (r.map (rv G)).toList ++ rest.map (rv G) = (r.toList ++ rest).map (rv G) := by cases r <;> rfl
  have e8 : ({ F0 m pc lsr st0 with pc := pc + 3, stack := (r.map (rv G)).toList ++ rest.map (rv G) } : JFrame) = F0 m (pc + 3) lsr ((r.toList ++ rest).map (rv G)) := by rw [e9]
  rw [show ({ F0 m pc lsr st0 with pc := (F0 m pc lsr st0).pc + 3, stack := (Option.map (rv G) r).toList ++ List.map (rv G) rest } : JFrame) = F0 m (pc + 3) lsr ((r.toList ++ rest).map (rv G)) from e8]
  exact a1
theorem st_eq {G : AG} {As rest : List AV} {a : Nat} (ha : a ≠ 0) : (As.reverse ++ vr a :: rest).map (rv G) = (As.map (rv G)).reverse ++ .ref (ad G a) :: rest.map (rv G) := by
  rw [List.map_append, List.map_cons, rv_ref ha, List.map_reverse]
theorem st_eqS {G : AG} {As rest : List AV} : (As.reverse ++ rest).map (rv G) = (As.map (rv G)).reverse ++ rest.map (rv G) := by
  rw [List.map_append, List.map_reverse]
/-- the receiver of a virtual call -/
def RC (w : AW) (a : Nat) (C : String) : Prop := ∀ (G : AG) (s : State) (H : Heap), Kn G s → Sm G s w H → a ≠ 0 ∧ ∃ cellB : Cell, H[ad G a]? = some cellB ∧ cellB.vm.isStatics = false ∧ s.vm.findClass C = some cellB.cls
theorem rc_of {w : AW} {a i : Nat} {C : String} {T : u_T} {N : Nat} {ty : Nat → FieldType} (hc : CI i C T N ty) (hk : (wk w a == i + 1) = true) : RC w a C := by
  intro G s H hK hs
  have hk := beq_k hk
  refine ⟨hs.pos (by omega), ?_⟩
  obtain ⟨cell, q1, q2, q3, q4⟩ := hs.obj hk hc.2.2.2.2 hc.1
  obtain ⟨-, hfc, -⟩ := hK.1.1 i _ hc.1
  exact ⟨cell, q1, by rw [q3]; rfl, by rw [q2]; exact hfc⟩
theorem rc_S {w : AW} {a : Nat} (hk : (wk w a == 112) = true) : RC w a "java/lang/String" := by
  intro G s H hK hs
  have hk := beq_k hk
  refine ⟨hs.pos (by omega), ?_⟩
  have hc := hs.cell (a := a) (by omega)
  unfold cok at hc
  rw [if_neg (by omega), if_neg (by omega), if_neg (by omega)] at hc
  obtain ⟨cell, h1, h2, h3, -⟩ := hc.1
  exact ⟨cell, h1, h2, h3⟩
theorem gd_V {own : String} {idx : Nat} {y : MethodName} {b : ByteArray} {nL : Nat} {ret : Option FieldType} {np : Nat} (hw : MV own idx y b nL ret np) : GoodIn tb (wsV own idx y.cls y (Cond.code y b nL ret :: tb)) := by
  intro w h
  have hg : ∀ q ∈ tb, q ∈ tb ∧ ((q.onTables && q.keeps) = true ∨ ∃ ty, q = .arrayClass ty) := fun q hq => ⟨hq, good_of_word (List.mem_filter.mp hq).2⟩
  unfold wsV at h
  rcases List.mem_append.mp h with h | h
  · simp only [List.mem_cons, List.mem_nil_iff, or_false] at h
    rcases h with rfl | rfl | rfl | rfl
    · exact hg _ hw.1
    · exact hg _ hw.2.1
    · exact hg _ hw.2.2.1
    · exact hg _ hw.2.2.2.1
  · exact tb_good hw.2.2.2.2.1 w h
theorem r_callV {X : AX} {cc : ByteArray} {own : String} {nL k n pc : Nat} {ls : List (Nat × AV)} {w : AW} {y : MethodName} {b : ByteArray} {nL2 : Nat} {ret : Option FieldType} {l : Launch} {G : AG} {R0 : Room} {fr lo mc ms : Nat} {As rest : List AV} {r : Option AV} {w' : AW} {idx np : Nat} {a : Nat} (hX : XOK X cc own nL) (hM : XM X l G R0) (hw : MV own idx y b nL2 ret np) (hC : Mt l G y b nL2 ret fr lo mc ms (vr a :: As) w r w') (hrc : RC w a y.cls) (hf1 : Nat.ble (fr + 1) R0.frames = true) (hf2 : Nat.ble (8 + (nL2 + 11) + lo) R0.locals = true) (hf3 : k + mc ≤ R0.cells ∧ n + ms ≤ R0.slots) (hnp : As.length = np) (hac : Nat.ble (acat rest) 8 = true) (hd : decode cc pc = .ok (.invokevirtual idx, 3)) (h : RJ X nL (k + mc) (n + ms) (pc + 3) ls (r.toList ++ rest) w') : RJ X nL k n pc ls (As.reverse ++ vr a :: rest) w := by
  obtain ⟨p, l0, e, R, s, m, args, below, meth, c, Q, G0⟩ := X
  obtain ⟨rfl, rfl, rfl⟩ := hM
  intro H locs lsr hs hf hv
  obtain ⟨ha, hcell⟩ := hrc G0 s H hX.2.2.2.2.2.1 hs
  rw [st_eq ha]
  refine rj_run (l := l0) (va_runV (S := ⟨hX.1, hX.2.1, hX.2.2.1, hX.2.2.2.1, hX.2.2.2.2.1⟩) hC (cwV np hX.2.2.2.2.1 (gd_V hw) rfl rfl rfl ⟨rfl, hw.2.2.2.2.2⟩ ⟨Nat.le_of_ble_eq_true hf1, Nat.le_of_ble_eq_true hf2⟩) ⟨mt_blind, hcell, fun U hU hW => ⟨by rw [List.map_cons, rv_ref ha], by rw [hU]; exact hs.moved hW.alike, hX.2.2.2.2.2.1.warm hW⟩⟩ rfl (by rw [List.length_map]; exact hnp) hv.1 rfl ?_ hd hf3) hf hv h
  have := Nat.le_of_ble_eq_true hac
  have e := acat_sum G0 rest
  show 2 * (F0 m pc lsr _).monitorRoom + _ ≤ 8
  rw [e]
  simpa [JFrame.monitorRoom] using this
theorem r_callVN {X : AX} {cc : ByteArray} {own : String} {nL k n pc : Nat} {ls : List (Nat × AV)} {w : AW} {y : MethodName} {b : ByteArray} {nL2 : Nat} {ret : Option FieldType} {l : Launch} {G : AG} {R0 : Room} {fr lo mc ms : Nat} {As rest : List AV} {r : Option AV} {w' : AW} {idx np : Nat} {host : String} {a : Nat} (hX : XOK X cc own nL) (hM : XM X l G R0) (hw : MVN own idx y host b nL2 ret np) (hC : Mt l G y b nL2 ret fr lo mc ms (vr a :: As) w r w') (hrc : RC w a y.cls) (hf1 : Nat.ble (fr + 1) R0.frames = true) (hf2 : Nat.ble (8 + (nL2 + 11) + lo) R0.locals = true) (hf3 : k + mc ≤ R0.cells ∧ n + ms ≤ R0.slots) (hnp : As.length = np) (hac : Nat.ble (acat rest) 8 = true) (hd : decode cc pc = .ok (.invokevirtual idx, 3)) (h : RJ X nL (k + mc) (n + ms) (pc + 3) ls (r.toList ++ rest) w') : RJ X nL k n pc ls (As.reverse ++ vr a :: rest) w := by
  obtain ⟨p, l0, e, R, s, m, args, below, meth, c, Q, G0⟩ := X
  obtain ⟨rfl, rfl, rfl⟩ := hM
  intro H locs lsr hs hf hv
  obtain ⟨ha, hcell⟩ := hrc G0 s H hX.2.2.2.2.2.1 hs
  rw [st_eq ha]
  refine rj_run (l := l0) (va_runVN (S := ⟨hX.1, hX.2.1, hX.2.2.1, hX.2.2.2.1, hX.2.2.2.2.1⟩) hC ⟨va_cnB np hX.2.2.2.2.1 (tb_good hw.2.2.2.2.1) rfl rfl rfl (hX.2.2.2.2.2.1.2.2.2.2.1 _ _ _ _ hw.1) (hX.2.2.2.2.1 _ hw.2.2.2.1) hw.2.2.2.2.2 ⟨Nat.le_of_ble_eq_true hf1, Nat.le_of_ble_eq_true hf2⟩, hX.2.2.2.2.1 _ hw.2.1, hX.2.2.2.2.1 _ hw.2.2.1⟩ ⟨mt_blind, hcell, fun U hU hW => ⟨by rw [List.map_cons, rv_ref ha], by rw [hU]; exact hs.moved hW.alike, hX.2.2.2.2.2.1.warm hW⟩⟩ rfl (by rw [List.length_map]; exact hnp) hv.1 rfl ?_ hd hf3) hf hv h
  have := Nat.le_of_ble_eq_true hac
  have e := acat_sum G0 rest
  show 2 * (F0 m pc lsr _).monitorRoom + _ ≤ 8
  rw [e]
  simpa [JFrame.monitorRoom] using this
theorem r_callS {X : AX} {cc : ByteArray} {own : String} {nL k n pc : Nat} {ls : List (Nat × AV)} {w : AW} {y : MethodName} {b : ByteArray} {nL2 : Nat} {ret : Option FieldType} {l : Launch} {G : AG} {R0 : Room} {fr lo mc ms : Nat} {As rest : List AV} {r : Option AV} {w' : AW} {idx np : Nat} (hX : XOK X cc own nL) (hM : XM X l G R0) (hw : MS own idx y b nL2 ret np) (hC : Mt l G y b nL2 ret fr lo mc ms As w r w') (hf1 : Nat.ble (fr + 1) R0.frames = true) (hf2 : Nat.ble (8 + (nL2 + 11) + lo) R0.locals = true) (hf3 : k + mc ≤ R0.cells ∧ n + ms ≤ R0.slots) (hnp : As.length = np) (hac : Nat.ble (acat rest) 8 = true) (hd : decode cc pc = .ok (.invokestatic idx, 3)) (h : RJ X nL (k + mc) (n + ms) (pc + 3) ls (r.toList ++ rest) w') : RJ X nL k n pc ls (As.reverse ++ rest) w := by
  obtain ⟨p, l0, e, R, s, m, args, below, meth, c, Q, G0⟩ := X
  obtain ⟨rfl, rfl, rfl⟩ := hM
  intro H locs lsr hs hf hv
  rw [st_eqS]
  refine rj_run (l := l0) (va_runS (S := ⟨hX.1, hX.2.1, hX.2.2.1, hX.2.2.2.1, hX.2.2.2.2.1⟩) hC ⟨callB_of np hX.2.2.2.2.1 (tb_good hw.2.2.2.1) rfl rfl rfl (hX.2.2.2.2.1 _ hw.2.2.1) (hX.2.2.2.2.1 _ hw.1) hw.2.2.2.2 ⟨Nat.le_of_ble_eq_true hf1, Nat.le_of_ble_eq_true hf2⟩, hX.2.2.2.2.1 _ hw.2.1⟩ ⟨mt_blind, fun U hU hW => ⟨rfl, by rw [hU]; exact hs.moved hW.alike, hX.2.2.2.2.2.1.warm hW⟩⟩ rfl (by rw [List.length_map]; exact hnp) hv.1 rfl ?_ hd hf3) hf hv h
  have := Nat.le_of_ble_eq_true hac
  have e := acat_sum G0 rest
  show 2 * (F0 m pc lsr _).monitorRoom + _ ≤ 8
  rw [e]
  simpa [JFrame.monitorRoom] using this
theorem r_callSN {X : AX} {cc : ByteArray} {own : String} {nL k n pc : Nat} {ls : List (Nat × AV)} {w : AW} {y : MethodName} {b : ByteArray} {nL2 : Nat} {ret : Option FieldType} {l : Launch} {G : AG} {R0 : Room} {fr lo mc ms : Nat} {As rest : List AV} {r : Option AV} {w' : AW} {idx np : Nat} {host : String} (hX : XOK X cc own nL) (hM : XM X l G R0) (hw : MSN own idx y host b nL2 ret np) (hC : Mt l G y b nL2 ret fr lo mc ms As w r w') (hf1 : Nat.ble (fr + 1) R0.frames = true) (hf2 : Nat.ble (8 + (nL2 + 11) + lo) R0.locals = true) (hf3 : k + mc ≤ R0.cells ∧ n + ms ≤ R0.slots) (hnp : As.length = np) (hac : Nat.ble (acat rest) 8 = true) (hd : decode cc pc = .ok (.invokestatic idx, 3)) (h : RJ X nL (k + mc) (n + ms) (pc + 3) ls (r.toList ++ rest) w') : RJ X nL k n pc ls (As.reverse ++ rest) w := by
  obtain ⟨p, l0, e, R, s, m, args, below, meth, c, Q, G0⟩ := X
  obtain ⟨rfl, rfl, rfl⟩ := hM
  intro H locs lsr hs hf hv
  rw [st_eqS]
  refine rj_run (l := l0) (va_runSN (S := ⟨hX.1, hX.2.1, hX.2.2.1, hX.2.2.2.1, hX.2.2.2.2.1⟩) hC ⟨va_cnB np hX.2.2.2.2.1 (tb_good hw.2.2.2.1) rfl rfl rfl (hX.2.2.2.2.2.1.2.2.2.2.1 _ _ _ _ hw.1) (hX.2.2.2.2.1 _ hw.2.2.1) hw.2.2.2.2 ⟨Nat.le_of_ble_eq_true hf1, Nat.le_of_ble_eq_true hf2⟩, hX.2.2.2.2.1 _ hw.2.1, trivial⟩ ⟨mt_blind, fun U hU hW => ⟨rfl, by rw [hU]; exact hs.moved hW.alike, hX.2.2.2.2.2.1.warm hW⟩⟩ rfl (by rw [List.length_map]; exact hnp) hv.1 rfl ?_ hd hf3) hf hv h
  have := Nat.le_of_ble_eq_true hac
  have e := acat_sum G0 rest
  show 2 * (F0 m pc lsr _).monitorRoom + _ ≤ 8
  rw [e]
  simpa [JFrame.monitorRoom] using this
theorem r_callI {X : AX} {cc : ByteArray} {own : String} {nL k n pc : Nat} {ls : List (Nat × AV)} {w : AW} {y : MethodName} {b : ByteArray} {nL2 : Nat} {l : Launch} {G : AG} {R0 : Room} {fr lo mc ms : Nat} {As rest : List AV} {w' : AW} {idx np : Nat} {a : Nat} (hX : XOK X cc own nL) (hM : XM X l G R0) (hw : MI own idx y b nL2 np) (hC : Mt l G y b nL2 none fr lo mc ms (vr a :: As) w none w') (ha0 : wk w a ≠ 0) (hf1 : Nat.ble (fr + 1) R0.frames = true) (hf2 : Nat.ble (8 + (nL2 + 11) + lo) R0.locals = true) (hf3 : k + mc ≤ R0.cells ∧ n + ms ≤ R0.slots) (hnp : As.length = np) (hac : Nat.ble (acat rest) 8 = true) (hd : decode cc pc = .ok (.invokespecial idx, 3)) (h : RJ X nL (k + mc) (n + ms) (pc + 3) ls rest w') : RJ X nL k n pc ls (As.reverse ++ vr a :: rest) w := by
  obtain ⟨p, l0, e, R, s, m, args, below, meth, c, Q, G0⟩ := X
  obtain ⟨rfl, rfl, rfl⟩ := hM
  intro H locs lsr hs hf hv
  have ha := hs.pos ha0
  rw [st_eq ha]
  refine rj_run (l := l0) (r := none) (va_runI (S := ⟨hX.1, hX.2.1, hX.2.2.1, hX.2.2.2.1, hX.2.2.2.2.1⟩) hC ⟨callB_of np hX.2.2.2.2.1 (tb_good hw.2.2.2.1) rfl rfl rfl (hX.2.2.2.2.1 _ hw.2.2.1) (hX.2.2.2.2.1 _ hw.1) hw.2.2.2.2.1 ⟨Nat.le_of_ble_eq_true hf1, Nat.le_of_ble_eq_true hf2⟩, hw.2.2.2.2.2, hX.2.2.2.2.1 _ hw.2.1⟩ ⟨mt_blind, fun U hU hW => ⟨by rw [List.map_cons, rv_ref ha], by rw [hU]; exact hs.moved hW.alike, hX.2.2.2.2.2.1.warm hW⟩⟩ rfl (by rw [List.length_map]; exact hnp) hv.1 rfl ?_ hd hf3) hf hv h
  have := Nat.le_of_ble_eq_true hac
  have e := acat_sum G0 rest
  show 2 * (F0 m pc lsr _).monitorRoom + _ ≤ 8
  rw [e]
  simpa [JFrame.monitorRoom] using this
theorem r_callIN {X : AX} {cc : ByteArray} {own : String} {nL k n pc : Nat} {ls : List (Nat × AV)} {w : AW} {y : MethodName} {b : ByteArray} {nL2 : Nat} {l : Launch} {G : AG} {R0 : Room} {fr lo mc ms : Nat} {As rest : List AV} {w' : AW} {idx np : Nat} {host : String} {a : Nat} (hX : XOK X cc own nL) (hM : XM X l G R0) (hw : MIN own idx y host b nL2 np) (hC : Mt l G y b nL2 none fr lo mc ms (vr a :: As) w none w') (ha0 : wk w a ≠ 0) (hf1 : Nat.ble (fr + 1) R0.frames = true) (hf2 : Nat.ble (8 + (nL2 + 11) + lo) R0.locals = true) (hf3 : k + mc ≤ R0.cells ∧ n + ms ≤ R0.slots) (hnp : As.length = np) (hac : Nat.ble (acat rest) 8 = true) (hd : decode cc pc = .ok (.invokespecial idx, 3)) (h : RJ X nL (k + mc) (n + ms) (pc + 3) ls rest w') : RJ X nL k n pc ls (As.reverse ++ vr a :: rest) w := by
  obtain ⟨p, l0, e, R, s, m, args, below, meth, c, Q, G0⟩ := X
  obtain ⟨rfl, rfl, rfl⟩ := hM
  intro H locs lsr hs hf hv
  have ha := hs.pos ha0
  rw [st_eq ha]
  refine rj_run (l := l0) (r := none) (va_runIN (S := ⟨hX.1, hX.2.1, hX.2.2.1, hX.2.2.2.1, hX.2.2.2.2.1⟩) hC ⟨va_cnB np hX.2.2.2.2.1 (tb_good hw.2.2.2.1) rfl rfl rfl (hX.2.2.2.2.2.1.2.2.2.2.1 _ _ _ _ hw.1) (hX.2.2.2.2.1 _ hw.2.2.1) hw.2.2.2.2.1 ⟨Nat.le_of_ble_eq_true hf1, Nat.le_of_ble_eq_true hf2⟩, hw.2.2.2.2.2, hX.2.2.2.2.1 _ hw.2.1⟩ ⟨mt_blind, fun U hU hW => ⟨by rw [List.map_cons, rv_ref ha], by rw [hU]; exact hs.moved hW.alike, hX.2.2.2.2.2.1.warm hW⟩⟩ rfl (by rw [List.length_map]; exact hnp) hv.1 rfl ?_ hd hf3) hf hv h
  have := Nat.le_of_ble_eq_true hac
  have e := acat_sum G0 rest
  show 2 * (F0 m pc lsr _).monitorRoom + _ ≤ 8
  rw [e]
  simpa [JFrame.monitorRoom] using this
theorem r_callV1 {X : AX} {cc : ByteArray} {own : String} {nL k n pc : Nat} {ls : List (Nat × AV)} {w : AW} {y : MethodName} {b : ByteArray} {nL2 : Nat} {ret : Option FieldType} {l : Launch} {G : AG} {R0 : Room} {fr lo mc ms : Nat} {As rest : List AV} {v : AV} {w' : AW} {idx np : Nat} {a : Nat} (hX : XOK X cc own nL) (hM : XM X l G R0) (hw : MV own idx y b nL2 ret np) (hC : Mt l G y b nL2 ret fr lo mc ms (vr a :: As) w (some v) w') (hrc : RC w a y.cls) (hf1 : Nat.ble (fr + 1) R0.frames = true) (hf2 : Nat.ble (8 + (nL2 + 11) + lo) R0.locals = true) (hf3 : k + mc ≤ R0.cells ∧ n + ms ≤ R0.slots) (hnp : As.length = np) (hac : Nat.ble (acat rest) 8 = true) (hd : decode cc pc = .ok (.invokevirtual idx, 3)) (h : RJ X nL (k + mc) (n + ms) (pc + 3) ls (v :: rest) w') : RJ X nL k n pc ls (As.reverse ++ vr a :: rest) w := r_callV (r := (some v)) hX hM hw hC hrc hf1 hf2 hf3 hnp hac hd h
theorem r_callV0 {X : AX} {cc : ByteArray} {own : String} {nL k n pc : Nat} {ls : List (Nat × AV)} {w : AW} {y : MethodName} {b : ByteArray} {nL2 : Nat} {ret : Option FieldType} {l : Launch} {G : AG} {R0 : Room} {fr lo mc ms : Nat} {As rest : List AV} {w' : AW} {idx np : Nat} {a : Nat} (hX : XOK X cc own nL) (hM : XM X l G R0) (hw : MV own idx y b nL2 ret np) (hC : Mt l G y b nL2 ret fr lo mc ms (vr a :: As) w none w') (hrc : RC w a y.cls) (hf1 : Nat.ble (fr + 1) R0.frames = true) (hf2 : Nat.ble (8 + (nL2 + 11) + lo) R0.locals = true) (hf3 : k + mc ≤ R0.cells ∧ n + ms ≤ R0.slots) (hnp : As.length = np) (hac : Nat.ble (acat rest) 8 = true) (hd : decode cc pc = .ok (.invokevirtual idx, 3)) (h : RJ X nL (k + mc) (n + ms) (pc + 3) ls (rest) w') : RJ X nL k n pc ls (As.reverse ++ vr a :: rest) w := r_callV (r := none) hX hM hw hC hrc hf1 hf2 hf3 hnp hac hd h
theorem r_callVN1 {X : AX} {cc : ByteArray} {own : String} {nL k n pc : Nat} {ls : List (Nat × AV)} {w : AW} {y : MethodName} {b : ByteArray} {nL2 : Nat} {ret : Option FieldType} {l : Launch} {G : AG} {R0 : Room} {fr lo mc ms : Nat} {As rest : List AV} {v : AV} {w' : AW} {idx np : Nat} {host : String} {a : Nat} (hX : XOK X cc own nL) (hM : XM X l G R0) (hw : MVN own idx y host b nL2 ret np) (hC : Mt l G y b nL2 ret fr lo mc ms (vr a :: As) w (some v) w') (hrc : RC w a y.cls) (hf1 : Nat.ble (fr + 1) R0.frames = true) (hf2 : Nat.ble (8 + (nL2 + 11) + lo) R0.locals = true) (hf3 : k + mc ≤ R0.cells ∧ n + ms ≤ R0.slots) (hnp : As.length = np) (hac : Nat.ble (acat rest) 8 = true) (hd : decode cc pc = .ok (.invokevirtual idx, 3)) (h : RJ X nL (k + mc) (n + ms) (pc + 3) ls (v :: rest) w') : RJ X nL k n pc ls (As.reverse ++ vr a :: rest) w := r_callVN (r := (some v)) hX hM hw hC hrc hf1 hf2 hf3 hnp hac hd h
theorem r_callVN0 {X : AX} {cc : ByteArray} {own : String} {nL k n pc : Nat} {ls : List (Nat × AV)} {w : AW} {y : MethodName} {b : ByteArray} {nL2 : Nat} {ret : Option FieldType} {l : Launch} {G : AG} {R0 : Room} {fr lo mc ms : Nat} {As rest : List AV} {w' : AW} {idx np : Nat} {host : String} {a : Nat} (hX : XOK X cc own nL) (hM : XM X l G R0) (hw : MVN own idx y host b nL2 ret np) (hC : Mt l G y b nL2 ret fr lo mc ms (vr a :: As) w none w') (hrc : RC w a y.cls) (hf1 : Nat.ble (fr + 1) R0.frames = true) (hf2 : Nat.ble (8 + (nL2 + 11) + lo) R0.locals = true) (hf3 : k + mc ≤ R0.cells ∧ n + ms ≤ R0.slots) (hnp : As.length = np) (hac : Nat.ble (acat rest) 8 = true) (hd : decode cc pc = .ok (.invokevirtual idx, 3)) (h : RJ X nL (k + mc) (n + ms) (pc + 3) ls (rest) w') : RJ X nL k n pc ls (As.reverse ++ vr a :: rest) w := r_callVN (r := none) hX hM hw hC hrc hf1 hf2 hf3 hnp hac hd h
theorem r_callS1 {X : AX} {cc : ByteArray} {own : String} {nL k n pc : Nat} {ls : List (Nat × AV)} {w : AW} {y : MethodName} {b : ByteArray} {nL2 : Nat} {ret : Option FieldType} {l : Launch} {G : AG} {R0 : Room} {fr lo mc ms : Nat} {As rest : List AV} {v : AV} {w' : AW} {idx np : Nat} (hX : XOK X cc own nL) (hM : XM X l G R0) (hw : MS own idx y b nL2 ret np) (hC : Mt l G y b nL2 ret fr lo mc ms As w (some v) w') (hf1 : Nat.ble (fr + 1) R0.frames = true) (hf2 : Nat.ble (8 + (nL2 + 11) + lo) R0.locals = true) (hf3 : k + mc ≤ R0.cells ∧ n + ms ≤ R0.slots) (hnp : As.length = np) (hac : Nat.ble (acat rest) 8 = true) (hd : decode cc pc = .ok (.invokestatic idx, 3)) (h : RJ X nL (k + mc) (n + ms) (pc + 3) ls (v :: rest) w') : RJ X nL k n pc ls (As.reverse ++ rest) w := r_callS (r := (some v)) hX hM hw hC hf1 hf2 hf3 hnp hac hd h
theorem r_callS0 {X : AX} {cc : ByteArray} {own : String} {nL k n pc : Nat} {ls : List (Nat × AV)} {w : AW} {y : MethodName} {b : ByteArray} {nL2 : Nat} {ret : Option FieldType} {l : Launch} {G : AG} {R0 : Room} {fr lo mc ms : Nat} {As rest : List AV} {w' : AW} {idx np : Nat} (hX : XOK X cc own nL) (hM : XM X l G R0) (hw : MS own idx y b nL2 ret np) (hC : Mt l G y b nL2 ret fr lo mc ms As w none w') (hf1 : Nat.ble (fr + 1) R0.frames = true) (hf2 : Nat.ble (8 + (nL2 + 11) + lo) R0.locals = true) (hf3 : k + mc ≤ R0.cells ∧ n + ms ≤ R0.slots) (hnp : As.length = np) (hac : Nat.ble (acat rest) 8 = true) (hd : decode cc pc = .ok (.invokestatic idx, 3)) (h : RJ X nL (k + mc) (n + ms) (pc + 3) ls (rest) w') : RJ X nL k n pc ls (As.reverse ++ rest) w := r_callS (r := none) hX hM hw hC hf1 hf2 hf3 hnp hac hd h
theorem r_callSN1 {X : AX} {cc : ByteArray} {own : String} {nL k n pc : Nat} {ls : List (Nat × AV)} {w : AW} {y : MethodName} {b : ByteArray} {nL2 : Nat} {ret : Option FieldType} {l : Launch} {G : AG} {R0 : Room} {fr lo mc ms : Nat} {As rest : List AV} {v : AV} {w' : AW} {idx np : Nat} {host : String} (hX : XOK X cc own nL) (hM : XM X l G R0) (hw : MSN own idx y host b nL2 ret np) (hC : Mt l G y b nL2 ret fr lo mc ms As w (some v) w') (hf1 : Nat.ble (fr + 1) R0.frames = true) (hf2 : Nat.ble (8 + (nL2 + 11) + lo) R0.locals = true) (hf3 : k + mc ≤ R0.cells ∧ n + ms ≤ R0.slots) (hnp : As.length = np) (hac : Nat.ble (acat rest) 8 = true) (hd : decode cc pc = .ok (.invokestatic idx, 3)) (h : RJ X nL (k + mc) (n + ms) (pc + 3) ls (v :: rest) w') : RJ X nL k n pc ls (As.reverse ++ rest) w := r_callSN (r := (some v)) hX hM hw hC hf1 hf2 hf3 hnp hac hd h
theorem r_callSN0 {X : AX} {cc : ByteArray} {own : String} {nL k n pc : Nat} {ls : List (Nat × AV)} {w : AW} {y : MethodName} {b : ByteArray} {nL2 : Nat} {ret : Option FieldType} {l : Launch} {G : AG} {R0 : Room} {fr lo mc ms : Nat} {As rest : List AV} {w' : AW} {idx np : Nat} {host : String} (hX : XOK X cc own nL) (hM : XM X l G R0) (hw : MSN own idx y host b nL2 ret np) (hC : Mt l G y b nL2 ret fr lo mc ms As w none w') (hf1 : Nat.ble (fr + 1) R0.frames = true) (hf2 : Nat.ble (8 + (nL2 + 11) + lo) R0.locals = true) (hf3 : k + mc ≤ R0.cells ∧ n + ms ≤ R0.slots) (hnp : As.length = np) (hac : Nat.ble (acat rest) 8 = true) (hd : decode cc pc = .ok (.invokestatic idx, 3)) (h : RJ X nL (k + mc) (n + ms) (pc + 3) ls (rest) w') : RJ X nL k n pc ls (As.reverse ++ rest) w := r_callSN (r := none) hX hM hw hC hf1 hf2 hf3 hnp hac hd h
