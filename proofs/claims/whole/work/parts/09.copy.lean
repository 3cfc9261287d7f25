/-! System.arraycopy over two arrays of ints or longs, and switches -/
theorem W_acopy {p : Program} {l : Launch} {e : Env} {R : Room} {s : State} {m : MethodId} {args : Array Value} {below : List Frame} {meth : Method} {c : Code} {H : Heap} {locs : List Loc} {cells slots : Nat} {Q : State → Prop} {cc : ByteArray} {pc : Nat} {ls : Array Slot} {rest : List Value} {own : String} {index : Nat} {a a0 : Nat} {c0 : ClassId} {n0 n1 : Nat} {f g : Nat → Value} {ty : FieldType} {sp dp n : Int32}
    (hexec : p.tables.exec = Jvm.exec) (hb : c.code = cc) (hml : c.maxLocals = ls.size) (hown : s.vm.findClass own = some m.cls) (hlink : (Cond.methodLink own index arraycopyName).before args s = true) (hnat : (Cond.native arraycopyName).before args s = true) (hstat : (Cond.static arraycopyName).before args s = true) (hini : (Cond.initialized "java/lang/System").before args s = true)
    (hc0 : H[a0]? = some (arrV c0 n0 f)) (hc1 : H[a]? = some (arrV c0 n1 g)) (hty : ArrOfT s c0 ty) (hprim : refKind ty = false) (hok : cpok sp dp n n0 n1 = true) (hfit : ∀ i, fits ty (f i) = true) (hnr : ∀ i, (∃ x, f i = .int x) ∨ ∃ x, f i = .long x)
    (hframes : 1 ≤ R.frames) (hlocals : (rest.map fun v => v.category).sum + (nativeFrameWords "java/lang/System" "arraycopy" 5 + 11) ≤ R.locals) (hdg : decode cc pc = .ok (.invokestatic index, 3))
    (kk : ∀ (H1 : Heap) (locs1 : List Loc), H1[a]? = some (arrV c0 n1 (va_cpy f g sp.toNatClampNeg dp.toNatClampNeg n.toNatClampNeg)) → H1.size = H.size → (∀ q : Nat, q ≠ a → H1[q]? = H[q]?) → (∀ q ∈ locs1, q ∈ locs ∨ q.base = a) → W p l e R s m args below meth c H1 locs1 cells slots Q (F0 m (pc + 3) ls rest)) : W p l e R s m args below meth c H locs cells slots Q (F0 m pc ls (.int n :: .int dp :: .ref a :: .int sp :: .ref a0 :: rest)) := by
  obtain ⟨h1, h2, h3, h4, h5⟩ := cpok_all hok
  intro T hT X
  obtain ⟨-, k0, hk0, cm0, hkk0⟩ := hty n0 f
  obtain ⟨-, k1, hk1, cm1, hkk1⟩ := hty n1 g
  obtain ⟨vm', X', step⟩ := X.arraycopy hexec hown hlink hnat hstat hini (src := a0) (dst := a) (cs := arrV c0 n0 f) (cd := arrV c0 n1 g) (srcPos := sp) (destPos := dp) (n := n) (by rw [hT]; exact hc0) (by rw [hT]; exact hc1)
    (fun _ h => by cases h) (fun _ h => by cases h) (fun h => by cases h) (fun h => by cases h) hk0 hk1 hkk0 hkk1 (by simp [hprim]) h1 h2 h3
    (by rw [i32_nn h1, i32_nn h3, arrV_size]; omega)
    (by rw [i32_nn h2, i32_nn h3, arrV_size]; omega)
    (fun vm₁ _ i hi => by
      have e : (arrV c0 n0 f).slots.getD (sp.toNatClampNeg + i) .null = f (sp.toNatClampNeg + i) := by
        rw [Array.getD_eq_getD_getElem?, arrV_read _ _ (by omega)]
        rfl
      refine ⟨?_, ?_⟩
      · rw [e]
        exact hfit _
      · rw [e]
        rcases hnr (sp.toNatClampNeg + i) with ⟨x, hx⟩ | ⟨x, hx⟩
        · rw [hx]; exact trivial
        · rw [hx]; exact trivial)
    (g := F0 m pc ls (.int n :: .int dp :: .ref a :: .int sp :: .ref a0 :: rest)) rfl (by rw [hml]) (rest := rest) rfl (by rw [hb]; exact hdg) hframes (by show 2 * 0 + _ + _ ≤ _; omega)
  have e1 : copied (arrV c0 n0 f) (arrV c0 n1 g) sp dp n = arrV c0 n1 (va_cpy f g sp.toNatClampNeg dp.toNatClampNeg n.toNatClampNeg) := va_copied (fun z => z) c0 c0 f g h4
  rw [e1] at X' step
  have hl : a < H.size := (Array.getElem?_eq_some_iff.mp hc1).1
  have hheap : ((T.setVm vm').setCell a (arrV c0 n1 (va_cpy f g sp.toNatClampNeg dp.toNatClampNeg n.toNatClampNeg))).heap = H.setIfInBounds a (arrV c0 n1 (va_cpy f g sp.toNatClampNeg dp.toNatClampNeg n.toNatClampNeg)) := by rw [← hT]; rfl
  obtain ⟨t, a1, b1⟩ := kk _ _ (by simp [Array.getElem?_setIfInBounds, hl]) (by simp) (fun q hq => by simp [Array.getElem?_setIfInBounds, Ne.symm hq]) (fun q hq => by
      rcases List.mem_append.mp hq with h | h
      · exact Or.inl h
      · obtain ⟨z, -, hz⟩ := List.mem_map.mp h
        rw [← hz]
        exact Or.inr rfl) _ hheap X'
  exact ⟨t, step t a1, b1⟩
def ACW (own : String) (idx : Nat) : Prop := Cond.methodLink own idx arraycopyName ∈ tb ∧ Cond.native arraycopyName ∈ tb ∧ Cond.static arraycopyName ∈ tb ∧ Cond.initialized "java/lang/System" ∈ tb
theorem r_acopyJ {X : AX} {cc : ByteArray} {own : String} {nL k n pc : Nat} {ls : List (Nat × AV)} {st : List AV} {w : AW} {l : Launch} {G : AG} {R0 : Room} {a a0 idx : Nat} {sp dp nn : Int32} (hX : XOK X cc own nL) (hM : XM X l G R0) (hw : ACW own idx) (hk0 : (wk w a0 == 101) = true) (hk1 : (wk w a == 101) = true) (hok : cpok sp dp nn (wn w a0) (wn w a) = true) (h1 : 1 ≤ R0.frames) (h2 : acat st + (nativeFrameWords "java/lang/System" "arraycopy" 5 + 11) ≤ R0.locals) (hd : decode cc pc = .ok (.invokestatic idx, 3)) (h : RJ X nL k n (pc + 3) ls st (cpJ w a0 a sp.toNatClampNeg dp.toNatClampNeg nn.toNatClampNeg)) : RJ X nL k n pc ls (vi nn :: vi dp :: vr a :: vi sp :: vr a0 :: st) w := by
  obtain ⟨p, l0, e, R, s, m, args, below, meth, c, Q, G0⟩ := X
  obtain ⟨rfl, rfl, rfl⟩ := hM
  intro H locs lsr hs hf hv
  have hk0 := beq_k hk0
  have hk1 := beq_k hk1
  simp only [List.map_cons]
  rw [rv_ref (hs.pos (a := a) (by omega)), rv_ref (hs.pos (a := a0) (by omega))]
  have g0 := hs.arr (a := a0) (by omega) (by omega)
  have g1 := hs.arr (a := a) (by omega) (by omega)
  have f0 : ∀ j, sv w a0 j = vl (wj w a0 j) := fun j => by unfold sv; rw [if_pos hk0]
  have f1 : ∀ j, sv w a j = vl (wj w a j) := fun j => by unfold sv; rw [if_pos hk1]
  rw [hk0] at g0
  rw [hk1] at g1
  refine W_acopy hX.1 hX.2.1 (by rw [hX.2.2.1]; exact hv.1.symm) hX.2.2.2.1 (hX.2.2.2.2.1 _ hw.1) (hX.2.2.2.2.1 _ hw.2.1) (hX.2.2.2.2.1 _ hw.2.2.1) (hX.2.2.2.2.1 _ hw.2.2.2) g0 g1 (hX.2.2.2.2.2.1.1.2 1 _ rfl).1 rfl hok (fun i => by rw [f0]; rfl) (fun i => by rw [f0]; first | exact Or.inl ⟨_, rfl⟩ | exact Or.inr ⟨_, rfl⟩) h1 (by rw [acat_sum]; exact h2) hd (fun H1 locs1 e1 e2 e3 e4 => ?_)
  refine h H1 locs1 lsr (hs.upd (a := a) (by omega) (by omega) rfl (fun _ => rfl) (fun _ => rfl) (fun _ _ _ => rfl) (fun b j hb => if_neg (fun q => hb q.1)) (fun _ _ _ => rfl) e2 e3 ?_) (fun q hq => (e4 q hq).elim (hf q) (fun z => by rw [z]; exact hs.baseA (by omega) (by omega))) hv
  unfold cok
  rw [show wk (cpJ w a0 a sp.toNatClampNeg dp.toNatClampNeg nn.toNatClampNeg) a = wk w a from rfl, hk1, if_neg (by omega), if_pos (by omega), e1, show wn (cpJ w a0 a sp.toNatClampNeg dp.toNatClampNeg nn.toNatClampNeg) a = wn w a from rfl]
  congr 2
  funext j
  unfold va_cpy
  dsimp only
  have e9 : sv (cpJ w a0 a sp.toNatClampNeg dp.toNatClampNeg nn.toNatClampNeg) a j = vl (wj (cpJ w a0 a sp.toNatClampNeg dp.toNatClampNeg nn.toNatClampNeg) a j) := by
    unfold sv; rw [show wk (cpJ w a0 a sp.toNatClampNeg dp.toNatClampNeg nn.toNatClampNeg) a = wk w a from rfl, if_pos hk1]
  rw [e9, f0, f1]
  show _ = rv G0 (vl (if a = a ∧ _ ∧ _ then _ else _))
  by_cases q : dp.toNatClampNeg ≤ j ∧ j < dp.toNatClampNeg + nn.toNatClampNeg
  · rw [if_pos q, if_pos ⟨rfl, q⟩]
  · rw [if_neg q, if_neg (fun z => q z.2)]
theorem r_acopyI {X : AX} {cc : ByteArray} {own : String} {nL k n pc : Nat} {ls : List (Nat × AV)} {st : List AV} {w : AW} {l : Launch} {G : AG} {R0 : Room} {a a0 idx : Nat} {sp dp nn : Int32} (hX : XOK X cc own nL) (hM : XM X l G R0) (hw : ACW own idx) (hk0 : (wk w a0 == 100) = true) (hk1 : (wk w a == 100) = true) (hok : cpok sp dp nn (wn w a0) (wn w a) = true) (h1 : 1 ≤ R0.frames) (h2 : acat st + (nativeFrameWords "java/lang/System" "arraycopy" 5 + 11) ≤ R0.locals) (hd : decode cc pc = .ok (.invokestatic idx, 3)) (h : RJ X nL k n (pc + 3) ls st (cpI w a0 a sp.toNatClampNeg dp.toNatClampNeg nn.toNatClampNeg)) : RJ X nL k n pc ls (vi nn :: vi dp :: vr a :: vi sp :: vr a0 :: st) w := by
  obtain ⟨p, l0, e, R, s, m, args, below, meth, c, Q, G0⟩ := X
  obtain ⟨rfl, rfl, rfl⟩ := hM
  intro H locs lsr hs hf hv
  have hk0 := beq_k hk0
  have hk1 := beq_k hk1
  simp only [List.map_cons]
  rw [rv_ref (hs.pos (a := a) (by omega)), rv_ref (hs.pos (a := a0) (by omega))]
  have g0 := hs.arr (a := a0) (by omega) (by omega)
  have g1 := hs.arr (a := a) (by omega) (by omega)
  have f0 : ∀ j, sv w a0 j = vi (wi w a0 j) := fun j => by unfold sv; rw [if_neg (by omega), hk0]; rfl
  have f1 : ∀ j, sv w a j = vi (wi w a j) := fun j => by unfold sv; rw [if_neg (by omega), hk1]; rfl
  rw [hk0] at g0
  rw [hk1] at g1
  refine W_acopy hX.1 hX.2.1 (by rw [hX.2.2.1]; exact hv.1.symm) hX.2.2.2.1 (hX.2.2.2.2.1 _ hw.1) (hX.2.2.2.2.1 _ hw.2.1) (hX.2.2.2.2.1 _ hw.2.2.1) (hX.2.2.2.2.1 _ hw.2.2.2) g0 g1 (hX.2.2.2.2.2.1.1.2 0 _ rfl).1 rfl hok (fun i => by rw [f0]; rfl) (fun i => by rw [f0]; first | exact Or.inl ⟨_, rfl⟩ | exact Or.inr ⟨_, rfl⟩) h1 (by rw [acat_sum]; exact h2) hd (fun H1 locs1 e1 e2 e3 e4 => ?_)
  refine h H1 locs1 lsr (hs.upd (a := a) (by omega) (by omega) rfl (fun _ => rfl) (fun _ => rfl) (fun b j hb => if_neg (fun q => hb q.1)) (fun _ _ _ => rfl) (fun _ _ _ => rfl) e2 e3 ?_) (fun q hq => (e4 q hq).elim (hf q) (fun z => by rw [z]; exact hs.baseA (by omega) (by omega))) hv
  unfold cok
  rw [show wk (cpI w a0 a sp.toNatClampNeg dp.toNatClampNeg nn.toNatClampNeg) a = wk w a from rfl, hk1, if_neg (by omega), if_pos (by omega), e1, show wn (cpI w a0 a sp.toNatClampNeg dp.toNatClampNeg nn.toNatClampNeg) a = wn w a from rfl]
  congr 2
  funext j
  unfold va_cpy
  dsimp only
  have e9 : sv (cpI w a0 a sp.toNatClampNeg dp.toNatClampNeg nn.toNatClampNeg) a j = vi (wi (cpI w a0 a sp.toNatClampNeg dp.toNatClampNeg nn.toNatClampNeg) a j) := by
    unfold sv; rw [show wk (cpI w a0 a sp.toNatClampNeg dp.toNatClampNeg nn.toNatClampNeg) a = wk w a from rfl, hk1]; rfl
  rw [e9, f0, f1]
  show _ = rv G0 (vi (if a = a ∧ _ ∧ _ then _ else _))
  by_cases q : dp.toNatClampNeg ≤ j ∧ j < dp.toNatClampNeg + nn.toNatClampNeg
  · rw [if_pos q, if_pos ⟨rfl, q⟩]
  · rw [if_neg q, if_neg (fun z => q z.2)]
/-- switches: a case, or outside -/
theorem r_tsIn {X : AX} {cc : ByteArray} {own : String} {nL k n pc : Nat} {ls : List (Nat × AV)} {st : List AV} {w : AW} {x v : Int32} {dflt lo hi off : Int} {offs : Array Int} {len tgt : Nat} (hX : XOK X cc own nL) (hx : x = v) (hd : decode cc pc = .ok (.tableswitch dflt lo hi offs, len)) (h1 : ¬ v.toInt < lo) (h2 : ¬ hi < v.toInt) (ho : offs[(v.toInt - lo).toNat]? = some off) (ht : (pc : Int) + off = (tgt : Int)) (h : RJ X nL k n tgt ls st w) : RJ X nL k n pc ls (vi x :: st) w := by
  obtain ⟨p, l0, e, R, s, m, args, below, meth, c, Q, G0⟩ := X
  subst hx
  exact fun H locs lsr hs hf hv => lv_tableIn hX.1 hX.2.1 hd h1 h2 ho ht (h H locs lsr hs hf hv)
theorem r_tsOut {X : AX} {cc : ByteArray} {own : String} {nL k n pc : Nat} {ls : List (Nat × AV)} {st : List AV} {w : AW} {x : Int32} {dflt lo hi : Int} {offs : Array Int} {len tgt : Nat} (hX : XOK X cc own nL) (hx : x.toInt < lo ∨ hi < x.toInt) (hd : decode cc pc = .ok (.tableswitch dflt lo hi offs, len)) (ht : (pc : Int) + dflt = (tgt : Int)) (h : RJ X nL k n tgt ls st w) : RJ X nL k n pc ls (vi x :: st) w := by
  obtain ⟨p, l0, e, R, s, m, args, below, meth, c, Q, G0⟩ := X
  exact fun H locs lsr hs hf hv => lv_tableOut hX.1 hX.2.1 hd hx ht (h H locs lsr hs hf hv)
theorem r_ls {X : AX} {cc : ByteArray} {own : String} {nL k n pc : Nat} {ls : List (Nat × AV)} {st : List AV} {w : AW} {x : Int32} {dflt off : Int} {ps : Array (Int × Int)} {len tgt : Nat} (hX : XOK X cc own nL) (hd : decode cc pc = .ok (.lookupswitch dflt ps, len)) (hp : (ps.toList.zip (ps.toList.drop 1)).all (fun (a, next) => a.1 < next.1) = true) (ho : Op.lookupswitch.offset ps.toList dflt x.toInt = off) (ht : (pc : Int) + off = (tgt : Int)) (h : RJ X nL k n tgt ls st w) : RJ X nL k n pc ls (vi x :: st) w := by
  obtain ⟨p, l0, e, R, s, m, args, below, meth, c, Q, G0⟩ := X
  exact fun H locs lsr hs hf hv => lv_lookup hX.1 hX.2.1 hd hp ho ht (h H locs lsr hs hf hv)
/-- guards and binds of the functions that the methods are -/
def gd {α : Type} (b : Bool) (x : Option α) : Option α := if b = true then x else none
theorem gd_e {α : Type} {b : Bool} {x : Option α} {o : α} (h : gd b x = some o) : b = true ∧ x = some o := by
  unfold gd at h
  split at h
  · rename_i hb; exact ⟨hb, h⟩
  · cases h
theorem bd_e {α β : Type} {x : Option α} {f : α → Option β} {o : β} (h : x.bind f = some o) : ∃ y, x = some y ∧ f y = some o := Option.bind_eq_some_iff.mp h
theorem it_e {α : Type} {c : Prop} {d : Decidable c} {A B : Option α} {o : α} (h : @ite _ c d A B = some o) : (c ∧ A = some o) ∨ (¬ c ∧ B = some o) := by
  by_cases hc : c
  · rw [if_pos hc] at h; exact Or.inl ⟨hc, h⟩
  · rw [if_neg hc] at h; exact Or.inr ⟨hc, h⟩
def FUEL : Nat := 1000000
theorem i32_ne {x v : Int32} (h : ¬ x = v) : ¬ x.toInt = v.toInt := fun e => h (Int32.toInt_inj.mp e)
theorem ls_out {x : Int32} {d a b c e f : Int} {o1 o2 o3 o4 o5 : Int} {v1 v2 v3 v4 v5 : Int32} (h1 : ¬ x = v1) (h2 : ¬ x = v2) (h3 : ¬ x = v3) (h4 : ¬ x = v4) (h5 : ¬ x = v5) (e1 : v1.toInt = a := by decide) (e2 : v2.toInt = b := by decide) (e3 : v3.toInt = c := by decide) (e4 : v4.toInt = e := by decide) (e5 : v5.toInt = f := by decide) : Op.lookupswitch.offset [(a, o1), (b, o2), (c, o3), (e, o4), (f, o5)] d x.toInt = d := by
  have h1 := i32_ne h1
  have h2 := i32_ne h2
  have h3 := i32_ne h3
  have h4 := i32_ne h4
  have h5 := i32_ne h5
  rw [e1] at h1; rw [e2] at h2; rw [e3] at h3; rw [e4] at h4; rw [e5] at h5
  simp [Op.lookupswitch.offset, List.find?, Ne.symm h1, Ne.symm h2, Ne.symm h3, Ne.symm h4, Ne.symm h5, h1, h2, h3, h4, h5]
