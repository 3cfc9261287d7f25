theorem rv_1 (G : AG) {v : AV} (h : c2 v = false) : (rv G v).category = 1 := by
  match v, h with
  | .inl x, _ => rfl
  | .inr (.inr 0), _ => rfl
  | .inr (.inr (n + 1)), _ => rfl
def i2cv (x : Int32) : Int32 := x.toUInt32.toUInt16.toUInt32.toInt32
/-! one rule an instruction: what is owed before it from what is owed behind it -/
theorem r_iadd {X : AX} {cc : ByteArray} {own : String} {nL k n pc : Nat} {ls : List (Nat × AV)} {st : List AV} {w : AW} {x y : Int32} (hX : XOK X cc own nL) (hd : decode cc pc = .ok (.iadd, 1))  (h : RJ X nL k n (pc + 1) ls (vi (x + y) :: st) w) : RJ X nL k n pc ls (vi y :: vi x :: st) w := by
  obtain ⟨p, l, e, R, s, m, args, below, meth, c, Q, G⟩ := X
  exact fun H locs lsr hs hf hl => lv_iadd hX.1 hX.2.1 hd (h H locs lsr hs hf hl)
theorem r_isub {X : AX} {cc : ByteArray} {own : String} {nL k n pc : Nat} {ls : List (Nat × AV)} {st : List AV} {w : AW} {x y : Int32} (hX : XOK X cc own nL) (hd : decode cc pc = .ok (.isub, 1))  (h : RJ X nL k n (pc + 1) ls (vi (x - y) :: st) w) : RJ X nL k n pc ls (vi y :: vi x :: st) w := by
  obtain ⟨p, l, e, R, s, m, args, below, meth, c, Q, G⟩ := X
  exact fun H locs lsr hs hf hl => lv_isub hX.1 hX.2.1 hd (h H locs lsr hs hf hl)
theorem r_imul {X : AX} {cc : ByteArray} {own : String} {nL k n pc : Nat} {ls : List (Nat × AV)} {st : List AV} {w : AW} {x y : Int32} (hX : XOK X cc own nL) (hd : decode cc pc = .ok (.imul, 1))  (h : RJ X nL k n (pc + 1) ls (vi (x * y) :: st) w) : RJ X nL k n pc ls (vi y :: vi x :: st) w := by
  obtain ⟨p, l, e, R, s, m, args, below, meth, c, Q, G⟩ := X
  exact fun H locs lsr hs hf hl => lv_imul hX.1 hX.2.1 hd (h H locs lsr hs hf hl)
theorem r_iand {X : AX} {cc : ByteArray} {own : String} {nL k n pc : Nat} {ls : List (Nat × AV)} {st : List AV} {w : AW} {x y : Int32} (hX : XOK X cc own nL) (hd : decode cc pc = .ok (.iand, 1))  (h : RJ X nL k n (pc + 1) ls (vi (x &&& y) :: st) w) : RJ X nL k n pc ls (vi y :: vi x :: st) w := by
  obtain ⟨p, l, e, R, s, m, args, below, meth, c, Q, G⟩ := X
  exact fun H locs lsr hs hf hl => lv_iand hX.1 hX.2.1 hd (h H locs lsr hs hf hl)
theorem r_ior {X : AX} {cc : ByteArray} {own : String} {nL k n pc : Nat} {ls : List (Nat × AV)} {st : List AV} {w : AW} {x y : Int32} (hX : XOK X cc own nL) (hd : decode cc pc = .ok (.ior, 1))  (h : RJ X nL k n (pc + 1) ls (vi (x ||| y) :: st) w) : RJ X nL k n pc ls (vi y :: vi x :: st) w := by
  obtain ⟨p, l, e, R, s, m, args, below, meth, c, Q, G⟩ := X
  exact fun H locs lsr hs hf hl => lv_ior hX.1 hX.2.1 hd (h H locs lsr hs hf hl)
theorem r_ixor {X : AX} {cc : ByteArray} {own : String} {nL k n pc : Nat} {ls : List (Nat × AV)} {st : List AV} {w : AW} {x y : Int32} (hX : XOK X cc own nL) (hd : decode cc pc = .ok (.ixor, 1))  (h : RJ X nL k n (pc + 1) ls (vi (x ^^^ y) :: st) w) : RJ X nL k n pc ls (vi y :: vi x :: st) w := by
  obtain ⟨p, l, e, R, s, m, args, below, meth, c, Q, G⟩ := X
  exact fun H locs lsr hs hf hl => lv_ixor hX.1 hX.2.1 hd (h H locs lsr hs hf hl)
theorem r_ladd {X : AX} {cc : ByteArray} {own : String} {nL k n pc : Nat} {ls : List (Nat × AV)} {st : List AV} {w : AW} {x y : Int64} (hX : XOK X cc own nL) (hd : decode cc pc = .ok (.ladd, 1))  (h : RJ X nL k n (pc + 1) ls (vl (x + y) :: st) w) : RJ X nL k n pc ls (vl y :: vl x :: st) w := by
  obtain ⟨p, l, e, R, s, m, args, below, meth, c, Q, G⟩ := X
  exact fun H locs lsr hs hf hl => lv_ladd hX.1 hX.2.1 hd (h H locs lsr hs hf hl)
theorem r_lsub {X : AX} {cc : ByteArray} {own : String} {nL k n pc : Nat} {ls : List (Nat × AV)} {st : List AV} {w : AW} {x y : Int64} (hX : XOK X cc own nL) (hd : decode cc pc = .ok (.lsub, 1))  (h : RJ X nL k n (pc + 1) ls (vl (x - y) :: st) w) : RJ X nL k n pc ls (vl y :: vl x :: st) w := by
  obtain ⟨p, l, e, R, s, m, args, below, meth, c, Q, G⟩ := X
  exact fun H locs lsr hs hf hl => lv_lsub hX.1 hX.2.1 hd (h H locs lsr hs hf hl)
theorem r_lmul {X : AX} {cc : ByteArray} {own : String} {nL k n pc : Nat} {ls : List (Nat × AV)} {st : List AV} {w : AW} {x y : Int64} (hX : XOK X cc own nL) (hd : decode cc pc = .ok (.lmul, 1))  (h : RJ X nL k n (pc + 1) ls (vl (x * y) :: st) w) : RJ X nL k n pc ls (vl y :: vl x :: st) w := by
  obtain ⟨p, l, e, R, s, m, args, below, meth, c, Q, G⟩ := X
  exact fun H locs lsr hs hf hl => lv_lmul hX.1 hX.2.1 hd (h H locs lsr hs hf hl)
theorem r_land {X : AX} {cc : ByteArray} {own : String} {nL k n pc : Nat} {ls : List (Nat × AV)} {st : List AV} {w : AW} {x y : Int64} (hX : XOK X cc own nL) (hd : decode cc pc = .ok (.land, 1))  (h : RJ X nL k n (pc + 1) ls (vl (x &&& y) :: st) w) : RJ X nL k n pc ls (vl y :: vl x :: st) w := by
  obtain ⟨p, l, e, R, s, m, args, below, meth, c, Q, G⟩ := X
  exact fun H locs lsr hs hf hl => lv_land hX.1 hX.2.1 hd (h H locs lsr hs hf hl)
theorem r_lor {X : AX} {cc : ByteArray} {own : String} {nL k n pc : Nat} {ls : List (Nat × AV)} {st : List AV} {w : AW} {x y : Int64} (hX : XOK X cc own nL) (hd : decode cc pc = .ok (.lor, 1))  (h : RJ X nL k n (pc + 1) ls (vl (x ||| y) :: st) w) : RJ X nL k n pc ls (vl y :: vl x :: st) w := by
  obtain ⟨p, l, e, R, s, m, args, below, meth, c, Q, G⟩ := X
  exact fun H locs lsr hs hf hl => lv_lor hX.1 hX.2.1 hd (h H locs lsr hs hf hl)
theorem r_lxor {X : AX} {cc : ByteArray} {own : String} {nL k n pc : Nat} {ls : List (Nat × AV)} {st : List AV} {w : AW} {x y : Int64} (hX : XOK X cc own nL) (hd : decode cc pc = .ok (.lxor, 1))  (h : RJ X nL k n (pc + 1) ls (vl (x ^^^ y) :: st) w) : RJ X nL k n pc ls (vl y :: vl x :: st) w := by
  obtain ⟨p, l, e, R, s, m, args, below, meth, c, Q, G⟩ := X
  exact fun H locs lsr hs hf hl => lv_lxor hX.1 hX.2.1 hd (h H locs lsr hs hf hl)
def irem (x y : Int32) : Int32 := x - x / y * y
def lshr6 (x : Int64) (y : Int32) : Int64 := (x.toUInt64 >>> (y.toInt64.toUInt64 &&& Int64.toUInt64 63)).toInt64
theorem r_idiv {X : AX} {cc : ByteArray} {own : String} {nL k n pc : Nat} {ls : List (Nat × AV)} {st : List AV} {w : AW} {x y : Int32} (hX : XOK X cc own nL) (hd : decode cc pc = .ok (.idiv, 1)) (hy : ¬ y = 0) (h : RJ X nL k n (pc + 1) ls (vi (x / y) :: st) w) : RJ X nL k n pc ls (vi y :: vi x :: st) w := by
  obtain ⟨p, l, e, R, s, m, args, below, meth, c, Q, G⟩ := X
  exact fun H locs lsr hs hf hl => lv_idiv hX.1 hX.2.1 hd hy (h H locs lsr hs hf hl)
theorem r_irem {X : AX} {cc : ByteArray} {own : String} {nL k n pc : Nat} {ls : List (Nat × AV)} {st : List AV} {w : AW} {x y : Int32} (hX : XOK X cc own nL) (hd : decode cc pc = .ok (.irem, 1)) (hy : ¬ y = 0) (h : RJ X nL k n (pc + 1) ls (vi (irem x y) :: st) w) : RJ X nL k n pc ls (vi y :: vi x :: st) w := by
  obtain ⟨p, l, e, R, s, m, args, below, meth, c, Q, G⟩ := X
  exact fun H locs lsr hs hf hl => lv_irem hX.1 hX.2.1 hd hy (h H locs lsr hs hf hl)
theorem r_ineg {X : AX} {cc : ByteArray} {own : String} {nL k n pc : Nat} {ls : List (Nat × AV)} {st : List AV} {w : AW} {x : Int32} (hX : XOK X cc own nL) (hd : decode cc pc = .ok (.ineg, 1))  (h : RJ X nL k n (pc + 1) ls (vi (-x) :: st) w) : RJ X nL k n pc ls (vi x :: st) w := by
  obtain ⟨p, l, e, R, s, m, args, below, meth, c, Q, G⟩ := X
  exact fun H locs lsr hs hf hl => lv_ineg hX.1 hX.2.1 hd (h H locs lsr hs hf hl)
theorem r_ishl {X : AX} {cc : ByteArray} {own : String} {nL k n pc : Nat} {ls : List (Nat × AV)} {st : List AV} {w : AW} {x y : Int32} (hX : XOK X cc own nL) (hd : decode cc pc = .ok (.ishl, 1))  (h : RJ X nL k n (pc + 1) ls (vi (x <<< (y &&& 31)) :: st) w) : RJ X nL k n pc ls (vi y :: vi x :: st) w := by
  obtain ⟨p, l, e, R, s, m, args, below, meth, c, Q, G⟩ := X
  exact fun H locs lsr hs hf hl => lv_ishl hX.1 hX.2.1 hd (h H locs lsr hs hf hl)
theorem r_ishr {X : AX} {cc : ByteArray} {own : String} {nL k n pc : Nat} {ls : List (Nat × AV)} {st : List AV} {w : AW} {x y : Int32} (hX : XOK X cc own nL) (hd : decode cc pc = .ok (.ishr, 1))  (h : RJ X nL k n (pc + 1) ls (vi (x >>> (y &&& 31)) :: st) w) : RJ X nL k n pc ls (vi y :: vi x :: st) w := by
  obtain ⟨p, l, e, R, s, m, args, below, meth, c, Q, G⟩ := X
  exact fun H locs lsr hs hf hl => lv_ishr hX.1 hX.2.1 hd (h H locs lsr hs hf hl)
theorem r_iushr {X : AX} {cc : ByteArray} {own : String} {nL k n pc : Nat} {ls : List (Nat × AV)} {st : List AV} {w : AW} {x y : Int32} (hX : XOK X cc own nL) (hd : decode cc pc = .ok (.iushr, 1))  (h : RJ X nL k n (pc + 1) ls (vi ((x.toUInt32 >>> (y.toUInt32 &&& Int32.toUInt32 31)).toInt32) :: st) w) : RJ X nL k n pc ls (vi y :: vi x :: st) w := by
  obtain ⟨p, l, e, R, s, m, args, below, meth, c, Q, G⟩ := X
  exact fun H locs lsr hs hf hl => lv_iushr hX.1 hX.2.1 hd rfl (h H locs lsr hs hf hl)
theorem r_lushr {X : AX} {cc : ByteArray} {own : String} {nL k n pc : Nat} {ls : List (Nat × AV)} {st : List AV} {w : AW} {x : Int64} {y : Int32} (hX : XOK X cc own nL) (hd : decode cc pc = .ok (.lushr, 1))  (h : RJ X nL k n (pc + 1) ls (vl (lshr6 x y) :: st) w) : RJ X nL k n pc ls (vi y :: vl x :: st) w := by
  obtain ⟨p, l, e, R, s, m, args, below, meth, c, Q, G⟩ := X
  exact fun H locs lsr hs hf hl => lv_lushr hX.1 hX.2.1 hd rfl (h H locs lsr hs hf hl)
theorem r_lshl {X : AX} {cc : ByteArray} {own : String} {nL k n pc : Nat} {ls : List (Nat × AV)} {st : List AV} {w : AW} {x : Int64} {y : Int32} (hX : XOK X cc own nL) (hd : decode cc pc = .ok (.lshl, 1))  (h : RJ X nL k n (pc + 1) ls (vl (x <<< (y.toInt64 &&& 63)) :: st) w) : RJ X nL k n pc ls (vi y :: vl x :: st) w := by
  obtain ⟨p, l, e, R, s, m, args, below, meth, c, Q, G⟩ := X
  exact fun H locs lsr hs hf hl => lv_lshl hX.1 hX.2.1 hd rfl (h H locs lsr hs hf hl)
theorem r_i2l {X : AX} {cc : ByteArray} {own : String} {nL k n pc : Nat} {ls : List (Nat × AV)} {st : List AV} {w : AW} {x : Int32} (hX : XOK X cc own nL) (hd : decode cc pc = .ok (.i2l, 1))  (h : RJ X nL k n (pc + 1) ls (vl x.toInt64 :: st) w) : RJ X nL k n pc ls (vi x :: st) w := by
  obtain ⟨p, l, e, R, s, m, args, below, meth, c, Q, G⟩ := X
  exact fun H locs lsr hs hf hl => lv_i2l hX.1 hX.2.1 hd rfl (h H locs lsr hs hf hl)
theorem r_l2i {X : AX} {cc : ByteArray} {own : String} {nL k n pc : Nat} {ls : List (Nat × AV)} {st : List AV} {w : AW} {x : Int64} (hX : XOK X cc own nL) (hd : decode cc pc = .ok (.l2i, 1))  (h : RJ X nL k n (pc + 1) ls (vi x.toInt32 :: st) w) : RJ X nL k n pc ls (vl x :: st) w := by
  obtain ⟨p, l, e, R, s, m, args, below, meth, c, Q, G⟩ := X
  exact fun H locs lsr hs hf hl => lv_l2i hX.1 hX.2.1 hd rfl (h H locs lsr hs hf hl)
theorem r_i2b {X : AX} {cc : ByteArray} {own : String} {nL k n pc : Nat} {ls : List (Nat × AV)} {st : List AV} {w : AW} {x : Int32} (hX : XOK X cc own nL) (hd : decode cc pc = .ok (.i2b, 1))  (h : RJ X nL k n (pc + 1) ls (vi x.toInt8.toInt32 :: st) w) : RJ X nL k n pc ls (vi x :: st) w := by
  obtain ⟨p, l, e, R, s, m, args, below, meth, c, Q, G⟩ := X
  exact fun H locs lsr hs hf hl => lv_i2b hX.1 hX.2.1 hd rfl (h H locs lsr hs hf hl)
theorem r_i2s {X : AX} {cc : ByteArray} {own : String} {nL k n pc : Nat} {ls : List (Nat × AV)} {st : List AV} {w : AW} {x : Int32} (hX : XOK X cc own nL) (hd : decode cc pc = .ok (.i2s, 1))  (h : RJ X nL k n (pc + 1) ls (vi x.toInt16.toInt32 :: st) w) : RJ X nL k n pc ls (vi x :: st) w := by
  obtain ⟨p, l, e, R, s, m, args, below, meth, c, Q, G⟩ := X
  exact fun H locs lsr hs hf hl => lv_i2s hX.1 hX.2.1 hd rfl (h H locs lsr hs hf hl)
theorem r_i2c {X : AX} {cc : ByteArray} {own : String} {nL k n pc : Nat} {ls : List (Nat × AV)} {st : List AV} {w : AW} {x : Int32} (hX : XOK X cc own nL) (hd : decode cc pc = .ok (.i2c, 1))  (h : RJ X nL k n (pc + 1) ls (vi (i2cv x) :: st) w) : RJ X nL k n pc ls (vi x :: st) w := by
  obtain ⟨p, l, e, R, s, m, args, below, meth, c, Q, G⟩ := X
  exact fun H locs lsr hs hf hl => lv_i2c hX.1 hX.2.1 hd rfl (h H locs lsr hs hf hl)
theorem r_lcmp {X : AX} {cc : ByteArray} {own : String} {nL k n pc : Nat} {ls : List (Nat × AV)} {st : List AV} {w : AW} {x y : Int64} (hX : XOK X cc own nL) (hd : decode cc pc = .ok (.lcmp, 1))  (h : RJ X nL k n (pc + 1) ls (vi (lg_cmp x y) :: st) w) : RJ X nL k n pc ls (vl y :: vl x :: st) w := by
  obtain ⟨p, l, e, R, s, m, args, below, meth, c, Q, G⟩ := X
  exact fun H locs lsr hs hf hl => W.lcmp hX.1 hX.2.1 hd (h H locs lsr hs hf hl)
theorem r_iconst {X : AX} {cc : ByteArray} {own : String} {nL k n pc : Nat} {ls : List (Nat × AV)} {st : List AV} {w : AW} {i : Int} {v : Int32} (hX : XOK X cc own nL) (hd : decode cc pc = .ok (.iconst i, 1)) (hv : Int32.ofInt i = v) (h : RJ X nL k n (pc + 1) ls (vi v :: st) w) : RJ X nL k n pc ls (st) w := by
  obtain ⟨p, l, e, R, s, m, args, below, meth, c, Q, G⟩ := X
  exact fun H locs lsr hs hf hl => lv_iconst hX.1 hX.2.1 hd hv (h H locs lsr hs hf hl)
theorem r_bipush {X : AX} {cc : ByteArray} {own : String} {nL k n pc : Nat} {ls : List (Nat × AV)} {st : List AV} {w : AW} {i : Int} {v : Int32} (hX : XOK X cc own nL) (hd : decode cc pc = .ok (.bipush i, 2)) (hv : (Int8.ofInt i).toInt32 = v) (h : RJ X nL k n (pc + 2) ls (vi v :: st) w) : RJ X nL k n pc ls (st) w := by
  obtain ⟨p, l, e, R, s, m, args, below, meth, c, Q, G⟩ := X
  exact fun H locs lsr hs hf hl => lv_bipush hX.1 hX.2.1 hd hv (h H locs lsr hs hf hl)
theorem r_sipush {X : AX} {cc : ByteArray} {own : String} {nL k n pc : Nat} {ls : List (Nat × AV)} {st : List AV} {w : AW} {i : Int} {v : Int32} (hX : XOK X cc own nL) (hd : decode cc pc = .ok (.sipush i, 3)) (hv : (Int16.ofInt i).toInt32 = v) (h : RJ X nL k n (pc + 3) ls (vi v :: st) w) : RJ X nL k n pc ls (st) w := by
  obtain ⟨p, l, e, R, s, m, args, below, meth, c, Q, G⟩ := X
  exact fun H locs lsr hs hf hl => lv_sipush hX.1 hX.2.1 hd hv (h H locs lsr hs hf hl)
theorem r_lconst {X : AX} {cc : ByteArray} {own : String} {nL k n pc : Nat} {ls : List (Nat × AV)} {st : List AV} {w : AW} {i : Fin 2} {v : Int64} (hX : XOK X cc own nL) (hd : decode cc pc = .ok (.lconst i, 1)) (hv : Int64.ofNat (i : Nat) = v) (h : RJ X nL k n (pc + 1) ls (vl v :: st) w) : RJ X nL k n pc ls (st) w := by
  obtain ⟨p, l, e, R, s, m, args, below, meth, c, Q, G⟩ := X
  exact fun H locs lsr hs hf hl => lv_lconst hX.1 hX.2.1 hd hv (h H locs lsr hs hf hl)
theorem r_null {X : AX} {cc : ByteArray} {own : String} {nL k n pc : Nat} {ls : List (Nat × AV)} {st : List AV} {w : AW}  (hX : XOK X cc own nL) (hd : decode cc pc = .ok (.aconst_null, 1))  (h : RJ X nL k n (pc + 1) ls (vr 0 :: st) w) : RJ X nL k n pc ls (st) w := by
  obtain ⟨p, l, e, R, s, m, args, below, meth, c, Q, G⟩ := X
  exact fun H locs lsr hs hf hl => lv_null hX.1 hX.2.1 hd (h H locs lsr hs hf hl)
theorem r_dup {X : AX} {cc : ByteArray} {own : String} {nL k n pc : Nat} {ls : List (Nat × AV)} {st : List AV} {w : AW} {x : AV} (hX : XOK X cc own nL) (hd : decode cc pc = .ok (.dup, 1)) (hc : c2 x = false) (h : RJ X nL k n (pc + 1) ls (x :: x :: st) w) : RJ X nL k n pc ls (x :: st) w := by
  obtain ⟨p, l, e, R, s, m, args, below, meth, c, Q, G⟩ := X
  exact fun H locs lsr hs hf hl => lv_dup hX.1 hX.2.1 hd (rv_1 G hc) (h H locs lsr hs hf hl)
theorem r_pop {X : AX} {cc : ByteArray} {own : String} {nL k n pc : Nat} {ls : List (Nat × AV)} {st : List AV} {w : AW} {x : AV} (hX : XOK X cc own nL) (hd : decode cc pc = .ok (.pop, 1)) (hc : c2 x = false) (h : RJ X nL k n (pc + 1) ls (st) w) : RJ X nL k n pc ls (x :: st) w := by
  obtain ⟨p, l, e, R, s, m, args, below, meth, c, Q, G⟩ := X
  exact fun H locs lsr hs hf hl => lv_pop hX.1 hX.2.1 hd (rv_1 G hc) (h H locs lsr hs hf hl)
theorem r_dup_x1 {X : AX} {cc : ByteArray} {own : String} {nL k n pc : Nat} {ls : List (Nat × AV)} {st : List AV} {w : AW} {x y : AV} (hX : XOK X cc own nL) (hd : decode cc pc = .ok (.dup_x1, 1)) (hc : c2 x = false) (hc2 : c2 y = false) (h : RJ X nL k n (pc + 1) ls (x :: y :: x :: st) w) : RJ X nL k n pc ls (x :: y :: st) w := by
  obtain ⟨p, l, e, R, s, m, args, below, meth, c, Q, G⟩ := X
  exact fun H locs lsr hs hf hl => lv_dup_x1 hX.1 hX.2.1 hd (rv_1 G hc) (rv_1 G hc2) (h H locs lsr hs hf hl)
theorem r_dup2 {X : AX} {cc : ByteArray} {own : String} {nL k n pc : Nat} {ls : List (Nat × AV)} {st : List AV} {w : AW} {x y : AV} (hX : XOK X cc own nL) (hd : decode cc pc = .ok (.dup2, 1)) (hc : c2 x = false) (hc2 : c2 y = false) (h : RJ X nL k n (pc + 1) ls (x :: y :: x :: y :: st) w) : RJ X nL k n pc ls (x :: y :: st) w := by
  obtain ⟨p, l, e, R, s, m, args, below, meth, c, Q, G⟩ := X
  exact fun H locs lsr hs hf hl => lv_dup2_11 hX.1 hX.2.1 hd (rv_1 G hc) (rv_1 G hc2) (h H locs lsr hs hf hl)
theorem r_iload_n {X : AX} {cc : ByteArray} {own : String} {nL k n pc : Nat} {ls : List (Nat × AV)} {st : List AV} {w : AW} {f : Fin 4} {i : Nat} {x : Int32} (hX : XOK X cc own nL) (hd : decode cc pc = .ok (.iload_n f, 1)) (j : Nat) (hi : (f : Nat) = i) (hj : ls[j]? = some (i, vi x)) (h : RJ X nL k n (pc + 1) ls (vi x :: st) w) : RJ X nL k n pc ls (st) w := by
  obtain ⟨p, l, e, R, s, m, args, below, meth, c, Q, G⟩ := X
  exact fun H locs lsr hs hf hl => lv_iload_n hX.1 hX.2.1 hd hi (rl_at hl j hj) (h H locs lsr hs hf hl)
theorem r_iload {X : AX} {cc : ByteArray} {own : String} {nL k n pc : Nat} {ls : List (Nat × AV)} {st : List AV} {w : AW} {i : Nat} {x : Int32} (hX : XOK X cc own nL) (hd : decode cc pc = .ok (.iload i, 2)) (j : Nat) (hj : ls[j]? = some (i, vi x)) (h : RJ X nL k n (pc + 2) ls (vi x :: st) w) : RJ X nL k n pc ls (st) w := by
  obtain ⟨p, l, e, R, s, m, args, below, meth, c, Q, G⟩ := X
  exact fun H locs lsr hs hf hl => lv_iload hX.1 hX.2.1 hd (rl_at hl j hj) (h H locs lsr hs hf hl)
theorem r_lload_n {X : AX} {cc : ByteArray} {own : String} {nL k n pc : Nat} {ls : List (Nat × AV)} {st : List AV} {w : AW} {f : Fin 4} {i : Nat} {x : Int64} (hX : XOK X cc own nL) (hd : decode cc pc = .ok (.lload_n f, 1)) (j : Nat) (hi : (f : Nat) = i) (hj : ls[j]? = some (i, vl x)) (h : RJ X nL k n (pc + 1) ls (vl x :: st) w) : RJ X nL k n pc ls (st) w := by
  obtain ⟨p, l, e, R, s, m, args, below, meth, c, Q, G⟩ := X
  exact fun H locs lsr hs hf hl => lv_lload_n hX.1 hX.2.1 hd hi (rl_at hl j hj) (h H locs lsr hs hf hl)
theorem r_lload {X : AX} {cc : ByteArray} {own : String} {nL k n pc : Nat} {ls : List (Nat × AV)} {st : List AV} {w : AW} {i : Nat} {x : Int64} (hX : XOK X cc own nL) (hd : decode cc pc = .ok (.lload i, 2)) (j : Nat) (hj : ls[j]? = some (i, vl x)) (h : RJ X nL k n (pc + 2) ls (vl x :: st) w) : RJ X nL k n pc ls (st) w := by
  obtain ⟨p, l, e, R, s, m, args, below, meth, c, Q, G⟩ := X
  exact fun H locs lsr hs hf hl => lv_lload hX.1 hX.2.1 hd (rl_at hl j hj) (h H locs lsr hs hf hl)
theorem r_aload_n {X : AX} {cc : ByteArray} {own : String} {nL k n pc : Nat} {ls : List (Nat × AV)} {st : List AV} {w : AW} {f : Fin 4} {i : Nat} {x : Nat} (hX : XOK X cc own nL) (hd : decode cc pc = .ok (.aload_n f, 1)) (j : Nat) (hi : (f : Nat) = i) (hj : ls[j]? = some (i, vr x)) (h : RJ X nL k n (pc + 1) ls (vr x :: st) w) : RJ X nL k n pc ls st w := by
  obtain ⟨p, l, e, R, s, m, args, below, meth, c, Q, G⟩ := X
  intro H locs lsr hs hf hl
  have hv := rl_at hl j hj
  have h := h H locs lsr hs hf hl
  cases x with
  | zero => exact lv_aload_nN hX.1 hX.2.1 hd hi hv h
  | succ x => exact lv_aload_n hX.1 hX.2.1 hd hi hv h
theorem r_aload {X : AX} {cc : ByteArray} {own : String} {nL k n pc : Nat} {ls : List (Nat × AV)} {st : List AV} {w : AW} {i : Nat} {x : Nat} (hX : XOK X cc own nL) (hd : decode cc pc = .ok (.aload i, 2)) (j : Nat)  (hj : ls[j]? = some (i, vr x)) (h : RJ X nL k n (pc + 2) ls (vr x :: st) w) : RJ X nL k n pc ls st w := by
  obtain ⟨p, l, e, R, s, m, args, below, meth, c, Q, G⟩ := X
  intro H locs lsr hs hf hl
  have hv := rl_at hl j hj
  have h := h H locs lsr hs hf hl
  cases x with
  | zero => exact lv_aloadN hX.1 hX.2.1 hd hv h
  | succ x => exact lv_aload hX.1 hX.2.1 hd hv h
theorem r_istore_n {X : AX} {cc : ByteArray} {own : String} {nL k n pc : Nat} {ls : List (Nat × AV)} {st : List AV} {w : AW} {f : Fin 4} {i : Nat} {x : Int32} (hX : XOK X cc own nL) (hd : decode cc pc = .ok (.istore_n f, 1)) (hi : (f : Nat) = i) (hn : i < nL) (h : RJ X nL k n (pc + 1) (sto i (vi x) ls) st w) : RJ X nL k n pc ls (vi x :: st) w := by
  obtain ⟨p, l, e, R, s, m, args, below, meth, c, Q, G⟩ := X
  intro H locs lsr hs hf hl
  exact lv_istore_n hX.1 hX.2.1 hd hi hl hn (rl_sto G i (vi x) ls) (fun lsr' hl' => h H locs lsr' hs hf hl')
theorem r_istore {X : AX} {cc : ByteArray} {own : String} {nL k n pc : Nat} {ls : List (Nat × AV)} {st : List AV} {w : AW} {i : Nat} {x : Int32} (hX : XOK X cc own nL) (hd : decode cc pc = .ok (.istore i, 2))  (hn : i < nL) (h : RJ X nL k n (pc + 2) (sto i (vi x) ls) st w) : RJ X nL k n pc ls (vi x :: st) w := by
  obtain ⟨p, l, e, R, s, m, args, below, meth, c, Q, G⟩ := X
  intro H locs lsr hs hf hl
  exact lv_istore hX.1 hX.2.1 hd hl hn (rl_sto G i (vi x) ls) (fun lsr' hl' => h H locs lsr' hs hf hl')
theorem r_lstore_n {X : AX} {cc : ByteArray} {own : String} {nL k n pc : Nat} {ls : List (Nat × AV)} {st : List AV} {w : AW} {f : Fin 4} {i : Nat} {x : Int64} (hX : XOK X cc own nL) (hd : decode cc pc = .ok (.lstore_n f, 1)) (hi : (f : Nat) = i) (hn : i + 1 < nL) (h : RJ X nL k n (pc + 1) (sto2 i (vl x) ls) st w) : RJ X nL k n pc ls (vl x :: st) w := by
  obtain ⟨p, l, e, R, s, m, args, below, meth, c, Q, G⟩ := X
  intro H locs lsr hs hf hl
  exact lv_lstore_n hX.1 hX.2.1 hd hi hl hn (rl_sto2 G i (vl x) ls) (fun lsr' hl' => h H locs lsr' hs hf hl')
theorem r_lstore {X : AX} {cc : ByteArray} {own : String} {nL k n pc : Nat} {ls : List (Nat × AV)} {st : List AV} {w : AW} {i : Nat} {x : Int64} (hX : XOK X cc own nL) (hd : decode cc pc = .ok (.lstore i, 2))  (hn : i + 1 < nL) (h : RJ X nL k n (pc + 2) (sto2 i (vl x) ls) st w) : RJ X nL k n pc ls (vl x :: st) w := by
  obtain ⟨p, l, e, R, s, m, args, below, meth, c, Q, G⟩ := X
  intro H locs lsr hs hf hl
  exact lv_lstore hX.1 hX.2.1 hd hl hn (rl_sto2 G i (vl x) ls) (fun lsr' hl' => h H locs lsr' hs hf hl')
theorem r_astore_n {X : AX} {cc : ByteArray} {own : String} {nL k n pc : Nat} {ls : List (Nat × AV)} {st : List AV} {w : AW} {f : Fin 4} {i : Nat} {x : Nat} (hX : XOK X cc own nL) (hd : decode cc pc = .ok (.astore_n f, 1)) (hi : (f : Nat) = i) (hn : i < nL) (h : RJ X nL k n (pc + 1) (sto i (vr x) ls) st w) : RJ X nL k n pc ls (vr x :: st) w := by
  obtain ⟨p, l, e, R, s, m, args, below, meth, c, Q, G⟩ := X
  intro H locs lsr hs hf hl
  have e := rl_sto G i (vr x) ls
  cases x with
  | zero => exact lv_astore_nN hX.1 hX.2.1 hd hi hl hn e (fun lsr' hl' => h H locs lsr' hs hf hl')
  | succ x => exact lv_astore_n hX.1 hX.2.1 hd hi hl hn e (fun lsr' hl' => h H locs lsr' hs hf hl')
theorem r_astore {X : AX} {cc : ByteArray} {own : String} {nL k n pc : Nat} {ls : List (Nat × AV)} {st : List AV} {w : AW} {i : Nat} {x : Nat} (hX : XOK X cc own nL) (hd : decode cc pc = .ok (.astore i, 2))  (hn : i < nL) (h : RJ X nL k n (pc + 2) (sto i (vr x) ls) st w) : RJ X nL k n pc ls (vr x :: st) w := by
  obtain ⟨p, l, e, R, s, m, args, below, meth, c, Q, G⟩ := X
  intro H locs lsr hs hf hl
  have e := rl_sto G i (vr x) ls
  cases x with
  | zero => exact lv_astoreN hX.1 hX.2.1 hd hl hn e (fun lsr' hl' => h H locs lsr' hs hf hl')
  | succ x => exact lv_astore hX.1 hX.2.1 hd hl hn e (fun lsr' hl' => h H locs lsr' hs hf hl')
theorem r_iinc {X : AX} {cc : ByteArray} {own : String} {nL k n pc : Nat} {ls : List (Nat × AV)} {st : List AV} {w : AW} {i : Nat} {x : Int32} {d : Int} {v : Int32} (hX : XOK X cc own nL) (hd : decode cc pc = .ok (.iinc i d, 3)) (j : Nat) (hj : ls[j]? = some (i, vi x)) (hv : Int32.ofInt d = v) (hn : i < nL) (h : RJ X nL k n (pc + 3) (sto i (vi (x + v)) ls) st w) : RJ X nL k n pc ls st w := by
  obtain ⟨p, l, e, R, s, m, args, below, meth, c, Q, G⟩ := X
  intro H locs lsr hs hf hl
  exact lv_iinc (k := j) hX.1 hX.2.1 hd hl (by unfold rl; rw [List.getElem?_map, hj]; rfl) (by rw [hv]) hn (rl_sto G i (vi (x + v)) ls) (fun lsr' hl' => h H locs lsr' hs hf hl')
theorem r_goto {X : AX} {cc : ByteArray} {own : String} {nL k n pc : Nat} {ls : List (Nat × AV)} {st : List AV} {w : AW} {off : Int} {tgt : Nat} (hX : XOK X cc own nL) (hd : decode cc pc = .ok (.goto off, 3)) (ht : (pc : Int) + off = (tgt : Int)) (h : RJ X nL k n tgt ls st w) : RJ X nL k n pc ls st w := by
  obtain ⟨p, l, e, R, s, m, args, below, meth, c, Q, G⟩ := X
  exact fun H locs lsr hs hf hl => lv_goto hX.1 hX.2.1 hd ht (h H locs lsr hs hf hl)
theorem r_if_eq {X : AX} {cc : ByteArray} {own : String} {nL k n pc : Nat} {ls : List (Nat × AV)} {st : List AV} {w : AW} {x : Int32} {off : Int} {tgt : Nat} {α : Type} {A B : Option α} {oo : α} (hX : XOK X cc own nL) (hd : decode cc pc = .ok (.ifCond .eq off, 3)) (ht : (pc : Int) + off = (tgt : Int)) (h : (if x = 0 then A else B) = some oo) (kt : A = some oo → RJ X nL k n tgt ls st w) (kf : B = some oo → RJ X nL k n (pc + 3) ls st w) : RJ X nL k n pc ls (vi x :: st) w := by
  obtain ⟨p, l, e, R, s, m, args, below, meth, c, Q, G⟩ := X
  exact fun H locs lsr hs hf hl => lv_if_eq hX.1 hX.2.1 hd ht (fun q => kt (by rw [if_pos q] at h; exact h) H locs lsr hs hf hl) (fun q => kf (by rw [if_neg q] at h; exact h) H locs lsr hs hf hl)
theorem r_icmp_eq {X : AX} {cc : ByteArray} {own : String} {nL k n pc : Nat} {ls : List (Nat × AV)} {st : List AV} {w : AW} {x y : Int32} {off : Int} {tgt : Nat} {α : Type} {A B : Option α} {oo : α} (hX : XOK X cc own nL) (hd : decode cc pc = .ok (.if_icmp .eq off, 3)) (ht : (pc : Int) + off = (tgt : Int)) (h : (if x = y then A else B) = some oo) (kt : A = some oo → RJ X nL k n tgt ls st w) (kf : B = some oo → RJ X nL k n (pc + 3) ls st w) : RJ X nL k n pc ls (vi y :: vi x :: st) w := by
  obtain ⟨p, l, e, R, s, m, args, below, meth, c, Q, G⟩ := X
  exact fun H locs lsr hs hf hl => lv_icmp_eq hX.1 hX.2.1 hd ht (fun q => kt (by rw [if_pos q] at h; exact h) H locs lsr hs hf hl) (fun q => kf (by rw [if_neg q] at h; exact h) H locs lsr hs hf hl)
theorem r_if_lt {X : AX} {cc : ByteArray} {own : String} {nL k n pc : Nat} {ls : List (Nat × AV)} {st : List AV} {w : AW} {x : Int32} {off : Int} {tgt : Nat} {α : Type} {A B : Option α} {oo : α} (hX : XOK X cc own nL) (hd : decode cc pc = .ok (.ifCond .lt off, 3)) (ht : (pc : Int) + off = (tgt : Int)) (h : (if x < 0 then A else B) = some oo) (kt : A = some oo → RJ X nL k n tgt ls st w) (kf : B = some oo → RJ X nL k n (pc + 3) ls st w) : RJ X nL k n pc ls (vi x :: st) w := by
  obtain ⟨p, l, e, R, s, m, args, below, meth, c, Q, G⟩ := X
  exact fun H locs lsr hs hf hl => lv_if_lt hX.1 hX.2.1 hd ht (fun q => kt (by rw [if_pos q] at h; exact h) H locs lsr hs hf hl) (fun q => kf (by rw [if_neg q] at h; exact h) H locs lsr hs hf hl)
theorem r_icmp_lt {X : AX} {cc : ByteArray} {own : String} {nL k n pc : Nat} {ls : List (Nat × AV)} {st : List AV} {w : AW} {x y : Int32} {off : Int} {tgt : Nat} {α : Type} {A B : Option α} {oo : α} (hX : XOK X cc own nL) (hd : decode cc pc = .ok (.if_icmp .lt off, 3)) (ht : (pc : Int) + off = (tgt : Int)) (h : (if x < y then A else B) = some oo) (kt : A = some oo → RJ X nL k n tgt ls st w) (kf : B = some oo → RJ X nL k n (pc + 3) ls st w) : RJ X nL k n pc ls (vi y :: vi x :: st) w := by
  obtain ⟨p, l, e, R, s, m, args, below, meth, c, Q, G⟩ := X
  exact fun H locs lsr hs hf hl => lv_icmp_lt hX.1 hX.2.1 hd ht (fun q => kt (by rw [if_pos q] at h; exact h) H locs lsr hs hf hl) (fun q => kf (by rw [if_neg q] at h; exact h) H locs lsr hs hf hl)
theorem r_if_ge {X : AX} {cc : ByteArray} {own : String} {nL k n pc : Nat} {ls : List (Nat × AV)} {st : List AV} {w : AW} {x : Int32} {off : Int} {tgt : Nat} {α : Type} {A B : Option α} {oo : α} (hX : XOK X cc own nL) (hd : decode cc pc = .ok (.ifCond .ge off, 3)) (ht : (pc : Int) + off = (tgt : Int)) (h : (if 0 ≤ x then A else B) = some oo) (kt : A = some oo → RJ X nL k n tgt ls st w) (kf : B = some oo → RJ X nL k n (pc + 3) ls st w) : RJ X nL k n pc ls (vi x :: st) w := by
  obtain ⟨p, l, e, R, s, m, args, below, meth, c, Q, G⟩ := X
  exact fun H locs lsr hs hf hl => lv_if_ge hX.1 hX.2.1 hd ht (fun q => kt (by rw [if_pos q] at h; exact h) H locs lsr hs hf hl) (fun q => kf (by rw [if_neg q] at h; exact h) H locs lsr hs hf hl)
theorem r_icmp_ge {X : AX} {cc : ByteArray} {own : String} {nL k n pc : Nat} {ls : List (Nat × AV)} {st : List AV} {w : AW} {x y : Int32} {off : Int} {tgt : Nat} {α : Type} {A B : Option α} {oo : α} (hX : XOK X cc own nL) (hd : decode cc pc = .ok (.if_icmp .ge off, 3)) (ht : (pc : Int) + off = (tgt : Int)) (h : (if y ≤ x then A else B) = some oo) (kt : A = some oo → RJ X nL k n tgt ls st w) (kf : B = some oo → RJ X nL k n (pc + 3) ls st w) : RJ X nL k n pc ls (vi y :: vi x :: st) w := by
  obtain ⟨p, l, e, R, s, m, args, below, meth, c, Q, G⟩ := X
  exact fun H locs lsr hs hf hl => lv_icmp_ge hX.1 hX.2.1 hd ht (fun q => kt (by rw [if_pos q] at h; exact h) H locs lsr hs hf hl) (fun q => kf (by rw [if_neg q] at h; exact h) H locs lsr hs hf hl)
theorem r_if_gt {X : AX} {cc : ByteArray} {own : String} {nL k n pc : Nat} {ls : List (Nat × AV)} {st : List AV} {w : AW} {x : Int32} {off : Int} {tgt : Nat} {α : Type} {A B : Option α} {oo : α} (hX : XOK X cc own nL) (hd : decode cc pc = .ok (.ifCond .gt off, 3)) (ht : (pc : Int) + off = (tgt : Int)) (h : (if 0 < x then A else B) = some oo) (kt : A = some oo → RJ X nL k n tgt ls st w) (kf : B = some oo → RJ X nL k n (pc + 3) ls st w) : RJ X nL k n pc ls (vi x :: st) w := by
  obtain ⟨p, l, e, R, s, m, args, below, meth, c, Q, G⟩ := X
  exact fun H locs lsr hs hf hl => lv_if_gt hX.1 hX.2.1 hd ht (fun q => kt (by rw [if_pos q] at h; exact h) H locs lsr hs hf hl) (fun q => kf (by rw [if_neg q] at h; exact h) H locs lsr hs hf hl)
theorem r_icmp_gt {X : AX} {cc : ByteArray} {own : String} {nL k n pc : Nat} {ls : List (Nat × AV)} {st : List AV} {w : AW} {x y : Int32} {off : Int} {tgt : Nat} {α : Type} {A B : Option α} {oo : α} (hX : XOK X cc own nL) (hd : decode cc pc = .ok (.if_icmp .gt off, 3)) (ht : (pc : Int) + off = (tgt : Int)) (h : (if y < x then A else B) = some oo) (kt : A = some oo → RJ X nL k n tgt ls st w) (kf : B = some oo → RJ X nL k n (pc + 3) ls st w) : RJ X nL k n pc ls (vi y :: vi x :: st) w := by
  obtain ⟨p, l, e, R, s, m, args, below, meth, c, Q, G⟩ := X
  exact fun H locs lsr hs hf hl => lv_icmp_gt hX.1 hX.2.1 hd ht (fun q => kt (by rw [if_pos q] at h; exact h) H locs lsr hs hf hl) (fun q => kf (by rw [if_neg q] at h; exact h) H locs lsr hs hf hl)
theorem r_if_le {X : AX} {cc : ByteArray} {own : String} {nL k n pc : Nat} {ls : List (Nat × AV)} {st : List AV} {w : AW} {x : Int32} {off : Int} {tgt : Nat} {α : Type} {A B : Option α} {oo : α} (hX : XOK X cc own nL) (hd : decode cc pc = .ok (.ifCond .le off, 3)) (ht : (pc : Int) + off = (tgt : Int)) (h : (if x ≤ 0 then A else B) = some oo) (kt : A = some oo → RJ X nL k n tgt ls st w) (kf : B = some oo → RJ X nL k n (pc + 3) ls st w) : RJ X nL k n pc ls (vi x :: st) w := by
  obtain ⟨p, l, e, R, s, m, args, below, meth, c, Q, G⟩ := X
  exact fun H locs lsr hs hf hl => lv_if_le hX.1 hX.2.1 hd ht (fun q => kt (by rw [if_pos q] at h; exact h) H locs lsr hs hf hl) (fun q => kf (by rw [if_neg q] at h; exact h) H locs lsr hs hf hl)
theorem r_icmp_le {X : AX} {cc : ByteArray} {own : String} {nL k n pc : Nat} {ls : List (Nat × AV)} {st : List AV} {w : AW} {x y : Int32} {off : Int} {tgt : Nat} {α : Type} {A B : Option α} {oo : α} (hX : XOK X cc own nL) (hd : decode cc pc = .ok (.if_icmp .le off, 3)) (ht : (pc : Int) + off = (tgt : Int)) (h : (if x ≤ y then A else B) = some oo) (kt : A = some oo → RJ X nL k n tgt ls st w) (kf : B = some oo → RJ X nL k n (pc + 3) ls st w) : RJ X nL k n pc ls (vi y :: vi x :: st) w := by
  obtain ⟨p, l, e, R, s, m, args, below, meth, c, Q, G⟩ := X
  exact fun H locs lsr hs hf hl => lv_icmp_le hX.1 hX.2.1 hd ht (fun q => kt (by rw [if_pos q] at h; exact h) H locs lsr hs hf hl) (fun q => kf (by rw [if_neg q] at h; exact h) H locs lsr hs hf hl)
theorem r_if_ne {X : AX} {cc : ByteArray} {own : String} {nL k n pc : Nat} {ls : List (Nat × AV)} {st : List AV} {w : AW} {x : Int32} {off : Int} {tgt : Nat} {α : Type} {A B : Option α} {oo : α} (hX : XOK X cc own nL) (hd : decode cc pc = .ok (.ifCond .ne off, 3)) (ht : (pc : Int) + off = (tgt : Int)) (h : (if x = 0 then B else A) = some oo) (kt : A = some oo → RJ X nL k n tgt ls st w) (kf : B = some oo → RJ X nL k n (pc + 3) ls st w) : RJ X nL k n pc ls (vi x :: st) w := by
  obtain ⟨p, l, e, R, s, m, args, below, meth, c, Q, G⟩ := X
  exact fun H locs lsr hs hf hl => lv_if_ne hX.1 hX.2.1 hd ht (fun q => kt (by rw [if_neg q] at h; exact h) H locs lsr hs hf hl) (fun q => kf (by rw [if_pos q] at h; exact h) H locs lsr hs hf hl)
theorem r_icmp_ne {X : AX} {cc : ByteArray} {own : String} {nL k n pc : Nat} {ls : List (Nat × AV)} {st : List AV} {w : AW} {x y : Int32} {off : Int} {tgt : Nat} {α : Type} {A B : Option α} {oo : α} (hX : XOK X cc own nL) (hd : decode cc pc = .ok (.if_icmp .ne off, 3)) (ht : (pc : Int) + off = (tgt : Int)) (h : (if x = y then B else A) = some oo) (kt : A = some oo → RJ X nL k n tgt ls st w) (kf : B = some oo → RJ X nL k n (pc + 3) ls st w) : RJ X nL k n pc ls (vi y :: vi x :: st) w := by
  obtain ⟨p, l, e, R, s, m, args, below, meth, c, Q, G⟩ := X
  exact fun H locs lsr hs hf hl => lv_icmp_ne hX.1 hX.2.1 hd ht (fun q => kt (by rw [if_neg q] at h; exact h) H locs lsr hs hf hl) (fun q => kf (by rw [if_pos q] at h; exact h) H locs lsr hs hf hl)
theorem r_ifnull {X : AX} {cc : ByteArray} {own : String} {nL k n pc : Nat} {ls : List (Nat × AV)} {st : List AV} {w : AW} {x : Nat} {off : Int} {tgt : Nat} {α : Type} {A B : Option α} {oo : α} (hX : XOK X cc own nL) (hd : decode cc pc = .ok (.ifnull off, 3)) (ht : (pc : Int) + off = (tgt : Int)) (h : (if x = 0 then A else B) = some oo) (kt : A = some oo → RJ X nL k n tgt ls st w) (kf : B = some oo → RJ X nL k n (pc + 3) ls st w) : RJ X nL k n pc ls (vr x :: st) w := by
  obtain ⟨p, l, e, R, s, m, args, below, meth, c, Q, G⟩ := X
  intro H locs lsr hs hf hl
  cases x with
  | zero => exact lv_ifnullN hX.1 hX.2.1 hd ht (kt (by rw [if_pos rfl] at h; exact h) H locs lsr hs hf hl)
  | succ x => exact lv_ifnull hX.1 hX.2.1 hd (kf (by rw [if_neg (Nat.succ_ne_zero x)] at h; exact h) H locs lsr hs hf hl)
theorem r_ifnonnull {X : AX} {cc : ByteArray} {own : String} {nL k n pc : Nat} {ls : List (Nat × AV)} {st : List AV} {w : AW} {x : Nat} {off : Int} {tgt : Nat} {α : Type} {A B : Option α} {oo : α} (hX : XOK X cc own nL) (hd : decode cc pc = .ok (.ifnonnull off, 3)) (ht : (pc : Int) + off = (tgt : Int)) (h : (if x = 0 then B else A) = some oo) (kt : A = some oo → RJ X nL k n tgt ls st w) (kf : B = some oo → RJ X nL k n (pc + 3) ls st w) : RJ X nL k n pc ls (vr x :: st) w := by
  obtain ⟨p, l, e, R, s, m, args, below, meth, c, Q, G⟩ := X
  intro H locs lsr hs hf hl
  cases x with
  | zero => exact lv_ifnonnullN hX.1 hX.2.1 hd (kf (by rw [if_pos rfl] at h; exact h) H locs lsr hs hf hl)
  | succ x => exact lv_ifnonnull hX.1 hX.2.1 hd ht (kt (by rw [if_neg (Nat.succ_ne_zero x)] at h; exact h) H locs lsr hs hf hl)
theorem r_ldc {X : AX} {cc : ByteArray} {own : String} {nL k n pc : Nat} {ls : List (Nat × AV)} {st : List AV} {w : AW} {i : Nat} {v : Int32} (hX : XOK X cc own nL) (hd : decode cc pc = .ok (.ldc i, 2)) (hc : Cond.constant own i v ∈ tb) (h : RJ X nL k n (pc + 2) ls (vi v :: st) w) : RJ X nL k n pc ls st w := by
  obtain ⟨p, l, e, R, s, m, args, below, meth, c, Q, G⟩ := X
  exact fun H locs lsr hs hf hl => lv_ldc hX.1 hX.2.1 hX.2.2.2.1 (hX.2.2.2.2.1 _ hc) hd (h H locs lsr hs hf hl)
theorem r_ldcw {X : AX} {cc : ByteArray} {own : String} {nL k n pc : Nat} {ls : List (Nat × AV)} {st : List AV} {w : AW} {i : Nat} {v : Int32} (hX : XOK X cc own nL) (hd : decode cc pc = .ok (.ldc_w i, 3)) (hc : Cond.constant own i v ∈ tb) (h : RJ X nL k n (pc + 3) ls (vi v :: st) w) : RJ X nL k n pc ls st w := by
  obtain ⟨p, l, e, R, s, m, args, below, meth, c, Q, G⟩ := X
  exact fun H locs lsr hs hf hl => lv_ldcw hX.1 hX.2.1 hX.2.2.2.1 (hX.2.2.2.2.1 _ hc) hd (h H locs lsr hs hf hl)
theorem r_ldc2 {X : AX} {cc : ByteArray} {own : String} {nL k n pc : Nat} {ls : List (Nat × AV)} {st : List AV} {w : AW} {i : Nat} {v : Int64} (hX : XOK X cc own nL) (hd : decode cc pc = .ok (.ldc2_w i, 3)) (hc : Cond.constantLong own i v ∈ tb) (h : RJ X nL k n (pc + 3) ls (vl v :: st) w) : RJ X nL k n pc ls st w := by
  obtain ⟨p, l, e, R, s, m, args, below, meth, c, Q, G⟩ := X
  exact fun H locs lsr hs hf hl => lv_ldc2 hX.1 hX.2.1 hX.2.2.2.1 (hX.2.2.2.2.1 _ hc) hd (h H locs lsr hs hf hl)
