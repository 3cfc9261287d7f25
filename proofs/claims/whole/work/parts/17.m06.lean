/-! RedSkyModel.mark(II)V -/
theorem d_M_mark_0 : decode b_M_mark 0 = .ok (.bipush (80), 2) := by decide +kernel
theorem d_M_mark_2 : decode b_M_mark 2 = .ok (.aload_n 0, 1) := by decide +kernel
theorem d_M_mark_3 : decode b_M_mark 3 = .ok (.getfield 184, 3) := by decide +kernel
theorem d_M_mark_6 : decode b_M_mark 6 = .ok (.imul, 1) := by decide +kernel
theorem d_M_mark_7 : decode b_M_mark 7 = .ok (.aload_n 0, 1) := by decide +kernel
theorem d_M_mark_8 : decode b_M_mark 8 = .ok (.getfield 40, 3) := by decide +kernel
theorem d_M_mark_11 : decode b_M_mark 11 = .ok (.aload_n 0, 1) := by decide +kernel
theorem d_M_mark_12 : decode b_M_mark 12 = .ok (.getfield 184, 3) := by decide +kernel
theorem d_M_mark_15 : decode b_M_mark 15 = .ok (.iaload, 1) := by decide +kernel
theorem d_M_mark_16 : decode b_M_mark 16 = .ok (.iadd, 1) := by decide +kernel
theorem d_M_mark_17 : decode b_M_mark 17 = .ok (.istore_n 3, 1) := by decide +kernel
theorem d_M_mark_18 : decode b_M_mark 18 = .ok (.aload_n 0, 1) := by decide +kernel
theorem d_M_mark_19 : decode b_M_mark 19 = .ok (.getfield 34, 3) := by decide +kernel
theorem d_M_mark_22 : decode b_M_mark 22 = .ok (.iload_n 3, 1) := by decide +kernel
theorem d_M_mark_23 : decode b_M_mark 23 = .ok (.iload_n 1, 1) := by decide +kernel
theorem d_M_mark_24 : decode b_M_mark 24 = .ok (.iastore, 1) := by decide +kernel
theorem d_M_mark_25 : decode b_M_mark 25 = .ok (.aload_n 0, 1) := by decide +kernel
theorem d_M_mark_26 : decode b_M_mark 26 = .ok (.getfield 37, 3) := by decide +kernel
theorem d_M_mark_29 : decode b_M_mark 29 = .ok (.iload_n 3, 1) := by decide +kernel
theorem d_M_mark_30 : decode b_M_mark 30 = .ok (.iload_n 2, 1) := by decide +kernel
theorem d_M_mark_31 : decode b_M_mark 31 = .ok (.iastore, 1) := by decide +kernel
theorem d_M_mark_32 : decode b_M_mark 32 = .ok (.aload_n 0, 1) := by decide +kernel
theorem d_M_mark_33 : decode b_M_mark 33 = .ok (.getfield 40, 3) := by decide +kernel
theorem d_M_mark_36 : decode b_M_mark 36 = .ok (.aload_n 0, 1) := by decide +kernel
theorem d_M_mark_37 : decode b_M_mark 37 = .ok (.getfield 184, 3) := by decide +kernel
theorem d_M_mark_40 : decode b_M_mark 40 = .ok (.dup2, 1) := by decide +kernel
theorem d_M_mark_41 : decode b_M_mark 41 = .ok (.iaload, 1) := by decide +kernel
theorem d_M_mark_42 : decode b_M_mark 42 = .ok (.iconst 1, 1) := by decide +kernel
theorem d_M_mark_43 : decode b_M_mark 43 = .ok (.iadd, 1) := by decide +kernel
theorem d_M_mark_44 : decode b_M_mark 44 = .ok (.iastore, 1) := by decide +kernel
theorem d_M_mark_45 : decode b_M_mark 45 = .ok (.return_, 1) := by decide +kernel
def F_M_mark (a0 : Nat) (x1 : Int32) (x2 : Int32) (w : AW) : Option (AW) :=
  gd (wk w a0 == 13) <|
  gd (wk w (wr w a0 26) == 100) <|
  gd (inb (wi w a0 11) (wn w (wr w a0 26))) <|
  let v4 : Int32 := (((80 : Int32) * (wi w a0 11)) + (wi w (wr w a0 26) (Int32.toNatClampNeg (wi w a0 11))))
  gd (wk w (wr w a0 24) == 100) <|
  gd (inb v4 (wn w (wr w a0 24))) <|
  let w7 : AW := upI w (wr w a0 24) (Int32.toNatClampNeg v4) x1
  gd (wk w7 (wr w7 a0 25) == 100) <|
  gd (inb v4 (wn w7 (wr w7 a0 25))) <|
  let w10 : AW := upI w7 (wr w7 a0 25) (Int32.toNatClampNeg v4) x2
  gd (wk w10 (wr w10 a0 26) == 100) <|
  gd (inb (wi w10 a0 11) (wn w10 (wr w10 a0 26))) <|
  gd (inb (wi w10 a0 11) (wn w10 (wr w10 a0 26))) <|
  let w14 : AW := upI w10 (wr w10 a0 26) (Int32.toNatClampNeg (wi w10 a0 11)) ((wi w10 (wr w10 a0 26) (Int32.toNatClampNeg (wi w10 a0 11))) + (1 : Int32))
  some w14
theorem P_M_mark_0 {X : AX} {l : Launch} {G : AG} (hX : XOK X b_M_mark "RedSkyModel" 4) (hM : XM X l G { frames := 0, cells := 0, slots := 0, locals := 0 }) {o : AW} (hR : XR X none 0 0 none o) (a0 : Nat) (x1 : Int32) (x2 : Int32) (w : AW) (h : F_M_mark a0 x1 x2 w = some o) : RJ X 4 0 0 0 [(0, vr a0), (1, vi x1), (2, vi x2)] [] w := by
  unfold F_M_mark at h
  refine r_bipush (v := (80 : Int32)) hX d_M_mark_0 rfl ?_
  refine r_aload_n (i := 0) hX d_M_mark_2 0 rfl rfl ?_
  obtain ⟨hk1, h⟩ := gd_e h
  refine r_getI (i := 12) (f := 11) hX ci_12 (by decide) rfl fl_M_184 hk1 d_M_mark_3 ?_
  refine r_imul hX d_M_mark_6 ?_
  refine r_aload_n (i := 0) hX d_M_mark_7 0 rfl rfl ?_
  refine r_getR (i := 12) (f := 26) hX ci_12 (by decide) rfl fl_M_40 hk1 d_M_mark_8 ?_
  refine r_aload_n (i := 0) hX d_M_mark_11 0 rfl rfl ?_
  refine r_getI (i := 12) (f := 11) hX ci_12 (by decide) rfl fl_M_184 hk1 d_M_mark_12 ?_
  obtain ⟨hk2, h⟩ := gd_e h
  obtain ⟨hg3, h⟩ := gd_e h
  refine r_iald hX hk2 hg3 d_M_mark_15 ?_
  refine r_iadd hX d_M_mark_16 ?_
  refine r_istore_n (i := 3) hX d_M_mark_17 rfl (by decide) ?_
  refine r_aload_n (i := 0) hX d_M_mark_18 1 rfl rfl ?_
  refine r_getR (i := 12) (f := 24) hX ci_12 (by decide) rfl fl_M_34 hk1 d_M_mark_19 ?_
  refine r_iload_n (i := 3) hX d_M_mark_22 0 rfl rfl ?_
  refine r_iload_n (i := 1) hX d_M_mark_23 2 rfl rfl ?_
  obtain ⟨hk5, h⟩ := gd_e h
  obtain ⟨hg6, h⟩ := gd_e h
  refine r_iast hX hk5 hg6 d_M_mark_24 ?_
  refine r_aload_n (i := 0) hX d_M_mark_25 1 rfl rfl ?_
  refine r_getR (i := 12) (f := 25) hX ci_12 (by decide) rfl fl_M_37 (kI hk1) d_M_mark_26 ?_
  refine r_iload_n (i := 3) hX d_M_mark_29 0 rfl rfl ?_
  refine r_iload_n (i := 2) hX d_M_mark_30 3 rfl rfl ?_
  obtain ⟨hk8, h⟩ := gd_e h
  obtain ⟨hg9, h⟩ := gd_e h
  refine r_iast hX hk8 hg9 d_M_mark_31 ?_
  refine r_aload_n (i := 0) hX d_M_mark_32 1 rfl rfl ?_
  refine r_getR (i := 12) (f := 26) hX ci_12 (by decide) rfl fl_M_40 (kI (kI hk1)) d_M_mark_33 ?_
  refine r_aload_n (i := 0) hX d_M_mark_36 1 rfl rfl ?_
  refine r_getI (i := 12) (f := 11) hX ci_12 (by decide) rfl fl_M_184 (kI (kI hk1)) d_M_mark_37 ?_
  refine r_dup2 hX d_M_mark_40 rfl rfl ?_
  obtain ⟨hk11, h⟩ := gd_e h
  obtain ⟨hg12, h⟩ := gd_e h
  refine r_iald hX hk11 hg12 d_M_mark_41 ?_
  refine r_iconst (v := (1 : Int32)) hX d_M_mark_42 rfl ?_
  refine r_iadd hX d_M_mark_43 ?_
  obtain ⟨hg13, h⟩ := gd_e h
  refine r_iast hX hk11 hg13 d_M_mark_44 ?_
  cases h; exact r_vret hX hR d_M_mark_45
theorem T_M_mark {l : Launch} {G : AG} (a0 : Nat) (x1 : Int32) (x2 : Int32) (w : AW) {o : AW} (h : F_M_mark a0 x1 x2 w = some o) : Mt l G y_M_mark b_M_mark 4 none 0 0 0 0 [vr a0, vi x1, vi x2] w none o := mt_of (by decide) (Nat.le_of_ble_eq_true rfl) (fun X hX hR hM hI => P_M_mark_0 hX hM hR _ _ _ _ h)
/-! RedSkyModel.endNumber()V -/
theorem d_M_endNumber_0 : decode b_M_endNumber 0 = .ok (.aload_n 0, 1) := by decide +kernel
theorem d_M_endNumber_1 : decode b_M_endNumber 1 = .ok (.getfield 181, 3) := by decide +kernel
theorem d_M_endNumber_4 : decode b_M_endNumber 4 = .ok (.iconst 4, 1) := by decide +kernel
theorem d_M_endNumber_5 : decode b_M_endNumber 5 = .ok (.if_icmp .ne (37), 3) := by decide +kernel
theorem d_M_endNumber_8 : decode b_M_endNumber 8 = .ok (.aload_n 0, 1) := by decide +kernel
theorem d_M_endNumber_9 : decode b_M_endNumber 9 = .ok (.iconst 3, 1) := by decide +kernel
theorem d_M_endNumber_10 : decode b_M_endNumber 10 = .ok (.aload_n 0, 1) := by decide +kernel
theorem d_M_endNumber_11 : decode b_M_endNumber 11 = .ok (.getfield 206, 3) := by decide +kernel
theorem d_M_endNumber_14 : decode b_M_endNumber 14 = .ok (.imul, 1) := by decide +kernel
theorem d_M_endNumber_15 : decode b_M_endNumber 15 = .ok (.aload_n 0, 1) := by decide +kernel
theorem d_M_endNumber_16 : decode b_M_endNumber 16 = .ok (.getfield 209, 3) := by decide +kernel
theorem d_M_endNumber_19 : decode b_M_endNumber 19 = .ok (.iadd, 1) := by decide +kernel
theorem d_M_endNumber_20 : decode b_M_endNumber 20 = .ok (.aload_n 0, 1) := by decide +kernel
theorem d_M_endNumber_21 : decode b_M_endNumber 21 = .ok (.getfield 212, 3) := by decide +kernel
theorem d_M_endNumber_24 : decode b_M_endNumber 24 = .ok (.ifCond .eq (11), 3) := by decide +kernel
theorem d_M_endNumber_27 : decode b_M_endNumber 27 = .ok (.aload_n 0, 1) := by decide +kernel
theorem d_M_endNumber_28 : decode b_M_endNumber 28 = .ok (.getfield 216, 3) := by decide +kernel
theorem d_M_endNumber_31 : decode b_M_endNumber 31 = .ok (.ineg, 1) := by decide +kernel
theorem d_M_endNumber_32 : decode b_M_endNumber 32 = .ok (.goto (7), 3) := by decide +kernel
theorem d_M_endNumber_35 : decode b_M_endNumber 35 = .ok (.aload_n 0, 1) := by decide +kernel
theorem d_M_endNumber_36 : decode b_M_endNumber 36 = .ok (.getfield 216, 3) := by decide +kernel
theorem d_M_endNumber_39 : decode b_M_endNumber 39 = .ok (.invokevirtual 202, 3) := by decide +kernel
theorem d_M_endNumber_42 : decode b_M_endNumber 42 = .ok (.return_, 1) := by decide +kernel
def F_M_endNumber_39 (s2 : Int32) (s1 : Int32) (s0 : Nat) (w : AW) : Option (AW) :=
  gd (wk w s0 == 13) <|
  (F_M_mark s0 s1 s2 w).bind fun r2 =>
  some r2
theorem P_M_endNumber_39 {X : AX} {l : Launch} {G : AG} (hX : XOK X b_M_endNumber "RedSkyModel" 1) (hM : XM X l G { frames := 1, cells := 0, slots := 0, locals := 23 }) {o : AW} (hR : XR X none 0 0 none o) (s2 : Int32) (s1 : Int32) (s0 : Nat) (w : AW) (h : F_M_endNumber_39 s2 s1 s0 w = some o) : RJ X 1 0 0 39 [] [vi s2, vi s1, vr s0] w := by
  unfold F_M_endNumber_39 at h
  obtain ⟨hk1, h⟩ := gd_e h
  obtain ⟨r2, hr3, h⟩ := bd_e h
  refine r_callV0 (As := [_, _]) hX hM mw_M_202 (T_M_mark _ _ _ _ hr3) (rc_of ci_12 hk1) rfl rfl ⟨Nat.le_refl _, Nat.le_refl _⟩ rfl rfl d_M_endNumber_39 ?_
  cases h; exact r_vret hX hR d_M_endNumber_42
def F_M_endNumber (a0 : Nat) (w : AW) : Option (AW) :=
  gd (wk w a0 == 13) <|
  if (wi w a0 10) = (4 : Int32) then
    if (wi w a0 15) = 0 then
      F_M_endNumber_39 (wi w a0 14) (((3 : Int32) * (wi w a0 16)) + (wi w a0 17)) a0 w
    else
      F_M_endNumber_39 (-(wi w a0 14)) (((3 : Int32) * (wi w a0 16)) + (wi w a0 17)) a0 w
  else
    some w
theorem P_M_endNumber_0 {X : AX} {l : Launch} {G : AG} (hX : XOK X b_M_endNumber "RedSkyModel" 1) (hM : XM X l G { frames := 1, cells := 0, slots := 0, locals := 23 }) {o : AW} (hR : XR X none 0 0 none o) (a0 : Nat) (w : AW) (h : F_M_endNumber a0 w = some o) : RJ X 1 0 0 0 [(0, vr a0)] [] w := by
  unfold F_M_endNumber at h
  refine r_aload_n (i := 0) hX d_M_endNumber_0 0 rfl rfl ?_
  obtain ⟨hk1, h⟩ := gd_e h
  refine r_getI (i := 12) (f := 10) hX ci_12 (by decide) rfl fl_M_181 hk1 d_M_endNumber_1 ?_
  refine r_iconst (v := (4 : Int32)) hX d_M_endNumber_4 rfl ?_
  refine r_icmp_ne hX d_M_endNumber_5 rfl h (fun h => ?_) (fun h => ?_)
  · cases h; exact r_vret hX hR d_M_endNumber_42
  · refine r_aload_n (i := 0) hX d_M_endNumber_8 0 rfl rfl ?_
    refine r_iconst (v := (3 : Int32)) hX d_M_endNumber_9 rfl ?_
    refine r_aload_n (i := 0) hX d_M_endNumber_10 0 rfl rfl ?_
    refine r_getI (i := 12) (f := 16) hX ci_12 (by decide) rfl fl_M_206 hk1 d_M_endNumber_11 ?_
    refine r_imul hX d_M_endNumber_14 ?_
    refine r_aload_n (i := 0) hX d_M_endNumber_15 0 rfl rfl ?_
    refine r_getI (i := 12) (f := 17) hX ci_12 (by decide) rfl fl_M_209 hk1 d_M_endNumber_16 ?_
    refine r_iadd hX d_M_endNumber_19 ?_
    refine r_aload_n (i := 0) hX d_M_endNumber_20 0 rfl rfl ?_
    refine r_getI (i := 12) (f := 15) hX ci_12 (by decide) rfl fl_M_212 hk1 d_M_endNumber_21 ?_
    refine r_if_eq hX d_M_endNumber_24 rfl h (fun h => ?_) (fun h => ?_)
    · refine r_aload_n (i := 0) hX d_M_endNumber_35 0 rfl rfl ?_
      refine r_getI (i := 12) (f := 14) hX ci_12 (by decide) rfl fl_M_216 hk1 d_M_endNumber_36 ?_
      exact rj_sub [] rfl (P_M_endNumber_39 hX hM hR _ _ _ _ h)
    · refine r_aload_n (i := 0) hX d_M_endNumber_27 0 rfl rfl ?_
      refine r_getI (i := 12) (f := 14) hX ci_12 (by decide) rfl fl_M_216 hk1 d_M_endNumber_28 ?_
      refine r_ineg hX d_M_endNumber_31 ?_
      refine r_goto hX d_M_endNumber_32 rfl ?_
      exact rj_sub [] rfl (P_M_endNumber_39 hX hM hR _ _ _ _ h)
theorem T_M_endNumber {l : Launch} {G : AG} (a0 : Nat) (w : AW) {o : AW} (h : F_M_endNumber a0 w = some o) : Mt l G y_M_endNumber b_M_endNumber 1 none 1 23 0 0 [vr a0] w none o := mt_of (by decide) (Nat.le_of_ble_eq_true rfl) (fun X hX hR hM hI => P_M_endNumber_0 hX hM hR _ _ h)
/-! RedSkyModel.layDown(I)V -/
theorem d_M_layDown_0 : decode b_M_layDown 0 = .ok (.aload_n 0, 1) := by decide +kernel
theorem d_M_layDown_1 : decode b_M_layDown 1 = .ok (.getfield 190, 3) := by decide +kernel
theorem d_M_layDown_4 : decode b_M_layDown 4 = .ok (.ifCond .le (45), 3) := by decide +kernel
theorem d_M_layDown_7 : decode b_M_layDown 7 = .ok (.aload_n 0, 1) := by decide +kernel
theorem d_M_layDown_8 : decode b_M_layDown 8 = .ok (.getfield 43, 3) := by decide +kernel
theorem d_M_layDown_11 : decode b_M_layDown 11 = .ok (.aload_n 0, 1) := by decide +kernel
theorem d_M_layDown_12 : decode b_M_layDown 12 = .ok (.getfield 190, 3) := by decide +kernel
theorem d_M_layDown_15 : decode b_M_layDown 15 = .ok (.iconst 1, 1) := by decide +kernel
theorem d_M_layDown_16 : decode b_M_layDown 16 = .ok (.isub, 1) := by decide +kernel
theorem d_M_layDown_17 : decode b_M_layDown 17 = .ok (.iaload, 1) := by decide +kernel
theorem d_M_layDown_18 : decode b_M_layDown 18 = .ok (.iload_n 1, 1) := by decide +kernel
theorem d_M_layDown_19 : decode b_M_layDown 19 = .ok (.if_icmp .gt (30), 3) := by decide +kernel
theorem d_M_layDown_22 : decode b_M_layDown 22 = .ok (.aload_n 0, 1) := by decide +kernel
theorem d_M_layDown_23 : decode b_M_layDown 23 = .ok (.dup, 1) := by decide +kernel
theorem d_M_layDown_24 : decode b_M_layDown 24 = .ok (.getfield 190, 3) := by decide +kernel
theorem d_M_layDown_27 : decode b_M_layDown 27 = .ok (.iconst 1, 1) := by decide +kernel
theorem d_M_layDown_28 : decode b_M_layDown 28 = .ok (.isub, 1) := by decide +kernel
theorem d_M_layDown_29 : decode b_M_layDown 29 = .ok (.putfield 190, 3) := by decide +kernel
theorem d_M_layDown_32 : decode b_M_layDown 32 = .ok (.aload_n 0, 1) := by decide +kernel
theorem d_M_layDown_33 : decode b_M_layDown 33 = .ok (.aload_n 0, 1) := by decide +kernel
theorem d_M_layDown_34 : decode b_M_layDown 34 = .ok (.getfield 43, 3) := by decide +kernel
theorem d_M_layDown_37 : decode b_M_layDown 37 = .ok (.aload_n 0, 1) := by decide +kernel
theorem d_M_layDown_38 : decode b_M_layDown 38 = .ok (.getfield 190, 3) := by decide +kernel
theorem d_M_layDown_41 : decode b_M_layDown 41 = .ok (.iaload, 1) := by decide +kernel
theorem d_M_layDown_42 : decode b_M_layDown 42 = .ok (.iconst 0, 1) := by decide +kernel
theorem d_M_layDown_43 : decode b_M_layDown 43 = .ok (.invokevirtual 202, 3) := by decide +kernel
theorem d_M_layDown_46 : decode b_M_layDown 46 = .ok (.goto (-46), 3) := by decide +kernel
theorem d_M_layDown_49 : decode b_M_layDown 49 = .ok (.return_, 1) := by decide +kernel
def F_M_layDown_0_B (rec0 : Nat → Int32 → AW → Option (AW)) (a0 : Nat) (x1 : Int32) (w : AW) : Option (AW) :=
  gd (wk w a0 == 13) <|
  if (wi w a0 28) ≤ 0 then
    some w
  else
    gd (wk w (wr w a0 27) == 100) <|
    gd (inb ((wi w a0 28) - (1 : Int32)) (wn w (wr w a0 27))) <|
    if x1 < (wi w (wr w a0 27) (Int32.toNatClampNeg ((wi w a0 28) - (1 : Int32)))) then
      some w
    else
      let w4 : AW := upI w a0 28 ((wi w a0 28) - (1 : Int32))
      gd (wk w4 (wr w4 a0 27) == 100) <|
      gd (inb (wi w4 a0 28) (wn w4 (wr w4 a0 27))) <|
      (F_M_mark a0 (wi w4 (wr w4 a0 27) (Int32.toNatClampNeg (wi w4 a0 28))) (0 : Int32) w4).bind fun r7 =>
      rec0 a0 x1 r7
theorem P_M_layDown_0_B {X : AX} {l : Launch} {G : AG} {rec0 : Nat → Int32 → AW → Option (AW)} (hX : XOK X b_M_layDown "RedSkyModel" 2) (hM : XM X l G { frames := 1, cells := 0, slots := 0, locals := 23 }) {o : AW} (hR : XR X none 0 0 none o) (hrec0 : ∀ (a0 : Nat) (x1 : Int32) (w : AW), rec0 a0 x1 w = some o → RJ X 2 0 0 0 [(0, vr a0), (1, vi x1)] [] w) (a0 : Nat) (x1 : Int32) (w : AW) (h : F_M_layDown_0_B rec0 a0 x1 w = some o) : RJ X 2 0 0 0 [(0, vr a0), (1, vi x1)] [] w := by
  unfold F_M_layDown_0_B at h
  refine r_aload_n (i := 0) hX d_M_layDown_0 0 rfl rfl ?_
  obtain ⟨hk1, h⟩ := gd_e h
  refine r_getI (i := 12) (f := 28) hX ci_12 (by decide) rfl fl_M_190 hk1 d_M_layDown_1 ?_
  refine r_if_le hX d_M_layDown_4 rfl h (fun h => ?_) (fun h => ?_)
  · cases h; exact r_vret hX hR d_M_layDown_49
  · refine r_aload_n (i := 0) hX d_M_layDown_7 0 rfl rfl ?_
    refine r_getR (i := 12) (f := 27) hX ci_12 (by decide) rfl fl_M_43 hk1 d_M_layDown_8 ?_
    refine r_aload_n (i := 0) hX d_M_layDown_11 0 rfl rfl ?_
    refine r_getI (i := 12) (f := 28) hX ci_12 (by decide) rfl fl_M_190 hk1 d_M_layDown_12 ?_
    refine r_iconst (v := (1 : Int32)) hX d_M_layDown_15 rfl ?_
    refine r_isub hX d_M_layDown_16 ?_
    obtain ⟨hk2, h⟩ := gd_e h
    obtain ⟨hg3, h⟩ := gd_e h
    refine r_iald hX hk2 hg3 d_M_layDown_17 ?_
    refine r_iload_n (i := 1) hX d_M_layDown_18 1 rfl rfl ?_
    refine r_icmp_gt hX d_M_layDown_19 rfl h (fun h => ?_) (fun h => ?_)
    · cases h; exact r_vret hX hR d_M_layDown_49
    · refine r_aload_n (i := 0) hX d_M_layDown_22 0 rfl rfl ?_
      refine r_dup hX d_M_layDown_23 rfl ?_
      refine r_getI (i := 12) (f := 28) hX ci_12 (by decide) rfl fl_M_190 hk1 d_M_layDown_24 ?_
      refine r_iconst (v := (1 : Int32)) hX d_M_layDown_27 rfl ?_
      refine r_isub hX d_M_layDown_28 ?_
      refine r_putI (i := 12) (f := 28) hX ci_12 (by decide) rfl rfl (fun G => rfl) (fun G => rfl) fl_M_190 hk1 d_M_layDown_29 ?_
      refine r_aload_n (i := 0) hX d_M_layDown_32 0 rfl rfl ?_
      refine r_aload_n (i := 0) hX d_M_layDown_33 0 rfl rfl ?_
      refine r_getR (i := 12) (f := 27) hX ci_12 (by decide) rfl fl_M_43 (kI hk1) d_M_layDown_34 ?_
      refine r_aload_n (i := 0) hX d_M_layDown_37 0 rfl rfl ?_
      refine r_getI (i := 12) (f := 28) hX ci_12 (by decide) rfl fl_M_190 (kI hk1) d_M_layDown_38 ?_
      obtain ⟨hk5, h⟩ := gd_e h
      obtain ⟨hg6, h⟩ := gd_e h
      refine r_iald hX hk5 hg6 d_M_layDown_41 ?_
      refine r_iconst (v := (0 : Int32)) hX d_M_layDown_42 rfl ?_
      obtain ⟨r7, hr8, h⟩ := bd_e h
      refine r_callV0 (As := [_, _]) hX hM mw_M_202 (T_M_mark _ _ _ _ hr8) (rc_of ci_12 (kI hk1)) rfl rfl ⟨Nat.le_refl _, Nat.le_refl _⟩ rfl rfl d_M_layDown_43 ?_
      refine r_goto hX d_M_layDown_46 rfl ?_
      exact rj_sub [0, 1] rfl (hrec0 _ _ _ h)
def F_M_layDown_0 : Nat → Nat → Int32 → AW → Option (AW)
  | 0 => fun _ _ _ => none
  | n + 1 => fun a0 x1 w => F_M_layDown_0_B (F_M_layDown_0 n) a0 x1 w
theorem P_M_layDown_0 {X : AX} {l : Launch} {G : AG} (hX : XOK X b_M_layDown "RedSkyModel" 2) (hM : XM X l G { frames := 1, cells := 0, slots := 0, locals := 23 }) {o : AW} (hR : XR X none 0 0 none o) (fu : Nat) : ∀ (a0 : Nat) (x1 : Int32) (w : AW), F_M_layDown_0 fu a0 x1 w = some o → RJ X 2 0 0 0 [(0, vr a0), (1, vi x1)] [] w := by
  induction fu with
  | zero => intro a0 x1 w h; cases h
  | succ n9 ih => intro a0 x1 w h; exact P_M_layDown_0_B hX hM hR ih _ _ _ h
def F_M_layDown (a0 : Nat) (x1 : Int32) (w : AW) : Option (AW) := F_M_layDown_0 FUEL a0 x1 w
theorem T_M_layDown {l : Launch} {G : AG} (a0 : Nat) (x1 : Int32) (w : AW) {o : AW} (h : F_M_layDown a0 x1 w = some o) : Mt l G y_M_layDown b_M_layDown 2 none 1 23 0 0 [vr a0, vi x1] w none o := mt_of (by decide) (Nat.le_of_ble_eq_true rfl) (fun X hX hR hM hI => P_M_layDown_0 hX hM hR FUEL _ _ _ h)
/-! RedSkyModel.goOnBehind(I)Z -/
theorem d_M_goOnBehind_0 : decode b_M_goOnBehind 0 = .ok (.iload_n 1, 1) := by decide +kernel
theorem d_M_goOnBehind_1 : decode b_M_goOnBehind 1 = .ok (.bipush (38), 2) := by decide +kernel
theorem d_M_goOnBehind_3 : decode b_M_goOnBehind 3 = .ok (.if_icmp .eq (9), 3) := by decide +kernel
theorem d_M_goOnBehind_6 : decode b_M_goOnBehind 6 = .ok (.iload_n 1, 1) := by decide +kernel
theorem d_M_goOnBehind_7 : decode b_M_goOnBehind 7 = .ok (.bipush (124), 2) := by decide +kernel
theorem d_M_goOnBehind_9 : decode b_M_goOnBehind 9 = .ok (.if_icmp .ne (63), 3) := by decide +kernel
theorem d_M_goOnBehind_12 : decode b_M_goOnBehind 12 = .ok (.aload_n 0, 1) := by decide +kernel
theorem d_M_goOnBehind_13 : decode b_M_goOnBehind 13 = .ok (.invokevirtual 223, 3) := by decide +kernel
theorem d_M_goOnBehind_16 : decode b_M_goOnBehind 16 = .ok (.aload_n 0, 1) := by decide +kernel
theorem d_M_goOnBehind_17 : decode b_M_goOnBehind 17 = .ok (.iload_n 1, 1) := by decide +kernel
theorem d_M_goOnBehind_18 : decode b_M_goOnBehind 18 = .ok (.bipush (38), 2) := by decide +kernel
theorem d_M_goOnBehind_20 : decode b_M_goOnBehind 20 = .ok (.if_icmp .ne (8), 3) := by decide +kernel
theorem d_M_goOnBehind_23 : decode b_M_goOnBehind 23 = .ok (.bipush (13), 2) := by decide +kernel
theorem d_M_goOnBehind_25 : decode b_M_goOnBehind 25 = .ok (.goto (5), 3) := by decide +kernel
theorem d_M_goOnBehind_28 : decode b_M_goOnBehind 28 = .ok (.bipush (14), 2) := by decide +kernel
theorem d_M_goOnBehind_30 : decode b_M_goOnBehind 30 = .ok (.invokevirtual 226, 3) := by decide +kernel
theorem d_M_goOnBehind_33 : decode b_M_goOnBehind 33 = .ok (.aload_n 0, 1) := by decide +kernel
theorem d_M_goOnBehind_34 : decode b_M_goOnBehind 34 = .ok (.getfield 43, 3) := by decide +kernel
theorem d_M_goOnBehind_37 : decode b_M_goOnBehind 37 = .ok (.aload_n 0, 1) := by decide +kernel
theorem d_M_goOnBehind_38 : decode b_M_goOnBehind 38 = .ok (.getfield 190, 3) := by decide +kernel
theorem d_M_goOnBehind_41 : decode b_M_goOnBehind 41 = .ok (.iload_n 1, 1) := by decide +kernel
theorem d_M_goOnBehind_42 : decode b_M_goOnBehind 42 = .ok (.bipush (38), 2) := by decide +kernel
theorem d_M_goOnBehind_44 : decode b_M_goOnBehind 44 = .ok (.if_icmp .ne (8), 3) := by decide +kernel
theorem d_M_goOnBehind_47 : decode b_M_goOnBehind 47 = .ok (.bipush (13), 2) := by decide +kernel
theorem d_M_goOnBehind_49 : decode b_M_goOnBehind 49 = .ok (.goto (5), 3) := by decide +kernel
theorem d_M_goOnBehind_52 : decode b_M_goOnBehind 52 = .ok (.bipush (14), 2) := by decide +kernel
theorem d_M_goOnBehind_54 : decode b_M_goOnBehind 54 = .ok (.iastore, 1) := by decide +kernel
theorem d_M_goOnBehind_55 : decode b_M_goOnBehind 55 = .ok (.aload_n 0, 1) := by decide +kernel
theorem d_M_goOnBehind_56 : decode b_M_goOnBehind 56 = .ok (.dup, 1) := by decide +kernel
theorem d_M_goOnBehind_57 : decode b_M_goOnBehind 57 = .ok (.getfield 190, 3) := by decide +kernel
theorem d_M_goOnBehind_60 : decode b_M_goOnBehind 60 = .ok (.iconst 1, 1) := by decide +kernel
theorem d_M_goOnBehind_61 : decode b_M_goOnBehind 61 = .ok (.iadd, 1) := by decide +kernel
theorem d_M_goOnBehind_62 : decode b_M_goOnBehind 62 = .ok (.putfield 190, 3) := by decide +kernel
theorem d_M_goOnBehind_65 : decode b_M_goOnBehind 65 = .ok (.aload_n 0, 1) := by decide +kernel
theorem d_M_goOnBehind_66 : decode b_M_goOnBehind 66 = .ok (.iconst 0, 1) := by decide +kernel
theorem d_M_goOnBehind_67 : decode b_M_goOnBehind 67 = .ok (.putfield 181, 3) := by decide +kernel
theorem d_M_goOnBehind_70 : decode b_M_goOnBehind 70 = .ok (.iconst 1, 1) := by decide +kernel
theorem d_M_goOnBehind_71 : decode b_M_goOnBehind 71 = .ok (.ireturn, 1) := by decide +kernel
theorem d_M_goOnBehind_72 : decode b_M_goOnBehind 72 = .ok (.iload_n 1, 1) := by decide +kernel
theorem d_M_goOnBehind_73 : decode b_M_goOnBehind 73 = .ok (.bipush (41), 2) := by decide +kernel
theorem d_M_goOnBehind_75 : decode b_M_goOnBehind 75 = .ok (.if_icmp .ne (47), 3) := by decide +kernel
theorem d_M_goOnBehind_78 : decode b_M_goOnBehind 78 = .ok (.aload_n 0, 1) := by decide +kernel
theorem d_M_goOnBehind_79 : decode b_M_goOnBehind 79 = .ok (.getfield 187, 3) := by decide +kernel
theorem d_M_goOnBehind_82 : decode b_M_goOnBehind 82 = .ok (.ifCond .le (40), 3) := by decide +kernel
theorem d_M_goOnBehind_85 : decode b_M_goOnBehind 85 = .ok (.aload_n 0, 1) := by decide +kernel
theorem d_M_goOnBehind_86 : decode b_M_goOnBehind 86 = .ok (.invokevirtual 223, 3) := by decide +kernel
theorem d_M_goOnBehind_89 : decode b_M_goOnBehind 89 = .ok (.aload_n 0, 1) := by decide +kernel
theorem d_M_goOnBehind_90 : decode b_M_goOnBehind 90 = .ok (.bipush (14), 2) := by decide +kernel
theorem d_M_goOnBehind_92 : decode b_M_goOnBehind 92 = .ok (.invokevirtual 226, 3) := by decide +kernel
theorem d_M_goOnBehind_95 : decode b_M_goOnBehind 95 = .ok (.aload_n 0, 1) := by decide +kernel
theorem d_M_goOnBehind_96 : decode b_M_goOnBehind 96 = .ok (.dup, 1) := by decide +kernel
theorem d_M_goOnBehind_97 : decode b_M_goOnBehind 97 = .ok (.getfield 190, 3) := by decide +kernel
theorem d_M_goOnBehind_100 : decode b_M_goOnBehind 100 = .ok (.iconst 1, 1) := by decide +kernel
theorem d_M_goOnBehind_101 : decode b_M_goOnBehind 101 = .ok (.isub, 1) := by decide +kernel
theorem d_M_goOnBehind_102 : decode b_M_goOnBehind 102 = .ok (.putfield 190, 3) := by decide +kernel
theorem d_M_goOnBehind_105 : decode b_M_goOnBehind 105 = .ok (.aload_n 0, 1) := by decide +kernel
theorem d_M_goOnBehind_106 : decode b_M_goOnBehind 106 = .ok (.dup, 1) := by decide +kernel
theorem d_M_goOnBehind_107 : decode b_M_goOnBehind 107 = .ok (.getfield 187, 3) := by decide +kernel
theorem d_M_goOnBehind_110 : decode b_M_goOnBehind 110 = .ok (.iconst 1, 1) := by decide +kernel
theorem d_M_goOnBehind_111 : decode b_M_goOnBehind 111 = .ok (.isub, 1) := by decide +kernel
theorem d_M_goOnBehind_112 : decode b_M_goOnBehind 112 = .ok (.putfield 187, 3) := by decide +kernel
theorem d_M_goOnBehind_115 : decode b_M_goOnBehind 115 = .ok (.aload_n 0, 1) := by decide +kernel
theorem d_M_goOnBehind_116 : decode b_M_goOnBehind 116 = .ok (.iconst 5, 1) := by decide +kernel
theorem d_M_goOnBehind_117 : decode b_M_goOnBehind 117 = .ok (.putfield 181, 3) := by decide +kernel
theorem d_M_goOnBehind_120 : decode b_M_goOnBehind 120 = .ok (.iconst 1, 1) := by decide +kernel
theorem d_M_goOnBehind_121 : decode b_M_goOnBehind 121 = .ok (.ireturn, 1) := by decide +kernel
theorem d_M_goOnBehind_122 : decode b_M_goOnBehind 122 = .ok (.iload_n 1, 1) := by decide +kernel
theorem d_M_goOnBehind_123 : decode b_M_goOnBehind 123 = .ok (.bipush (58), 2) := by decide +kernel
theorem d_M_goOnBehind_125 : decode b_M_goOnBehind 125 = .ok (.if_icmp .ne (40), 3) := by decide +kernel
theorem d_M_goOnBehind_128 : decode b_M_goOnBehind 128 = .ok (.aload_n 0, 1) := by decide +kernel
theorem d_M_goOnBehind_129 : decode b_M_goOnBehind 129 = .ok (.getfield 187, 3) := by decide +kernel
theorem d_M_goOnBehind_132 : decode b_M_goOnBehind 132 = .ok (.ifCond .ne (33), 3) := by decide +kernel
theorem d_M_goOnBehind_135 : decode b_M_goOnBehind 135 = .ok (.aload_n 0, 1) := by decide +kernel
theorem d_M_goOnBehind_136 : decode b_M_goOnBehind 136 = .ok (.getfield 184, 3) := by decide +kernel
theorem d_M_goOnBehind_139 : decode b_M_goOnBehind 139 = .ok (.ifCond .ne (26), 3) := by decide +kernel
theorem d_M_goOnBehind_142 : decode b_M_goOnBehind 142 = .ok (.aload_n 0, 1) := by decide +kernel
theorem d_M_goOnBehind_143 : decode b_M_goOnBehind 143 = .ok (.invokevirtual 223, 3) := by decide +kernel
theorem d_M_goOnBehind_146 : decode b_M_goOnBehind 146 = .ok (.aload_n 0, 1) := by decide +kernel
theorem d_M_goOnBehind_147 : decode b_M_goOnBehind 147 = .ok (.bipush (14), 2) := by decide +kernel
theorem d_M_goOnBehind_149 : decode b_M_goOnBehind 149 = .ok (.invokevirtual 226, 3) := by decide +kernel
theorem d_M_goOnBehind_152 : decode b_M_goOnBehind 152 = .ok (.aload_n 0, 1) := by decide +kernel
theorem d_M_goOnBehind_153 : decode b_M_goOnBehind 153 = .ok (.iconst 1, 1) := by decide +kernel
theorem d_M_goOnBehind_154 : decode b_M_goOnBehind 154 = .ok (.putfield 184, 3) := by decide +kernel
theorem d_M_goOnBehind_157 : decode b_M_goOnBehind 157 = .ok (.aload_n 0, 1) := by decide +kernel
theorem d_M_goOnBehind_158 : decode b_M_goOnBehind 158 = .ok (.bipush (6), 2) := by decide +kernel
theorem d_M_goOnBehind_160 : decode b_M_goOnBehind 160 = .ok (.putfield 181, 3) := by decide +kernel
theorem d_M_goOnBehind_163 : decode b_M_goOnBehind 163 = .ok (.iconst 1, 1) := by decide +kernel
theorem d_M_goOnBehind_164 : decode b_M_goOnBehind 164 = .ok (.ireturn, 1) := by decide +kernel
theorem d_M_goOnBehind_165 : decode b_M_goOnBehind 165 = .ok (.iload_n 1, 1) := by decide +kernel
theorem d_M_goOnBehind_166 : decode b_M_goOnBehind 166 = .ok (.bipush (64), 2) := by decide +kernel
theorem d_M_goOnBehind_168 : decode b_M_goOnBehind 168 = .ok (.if_icmp .ne (36), 3) := by decide +kernel
theorem d_M_goOnBehind_171 : decode b_M_goOnBehind 171 = .ok (.aload_n 0, 1) := by decide +kernel
theorem d_M_goOnBehind_172 : decode b_M_goOnBehind 172 = .ok (.getfield 187, 3) := by decide +kernel
theorem d_M_goOnBehind_175 : decode b_M_goOnBehind 175 = .ok (.ifCond .ne (29), 3) := by decide +kernel
theorem d_M_goOnBehind_178 : decode b_M_goOnBehind 178 = .ok (.aload_n 0, 1) := by decide +kernel
theorem d_M_goOnBehind_179 : decode b_M_goOnBehind 179 = .ok (.getfield 184, 3) := by decide +kernel
theorem d_M_goOnBehind_182 : decode b_M_goOnBehind 182 = .ok (.iconst 1, 1) := by decide +kernel
theorem d_M_goOnBehind_183 : decode b_M_goOnBehind 183 = .ok (.if_icmp .ne (21), 3) := by decide +kernel
theorem d_M_goOnBehind_186 : decode b_M_goOnBehind 186 = .ok (.aload_n 0, 1) := by decide +kernel
theorem d_M_goOnBehind_187 : decode b_M_goOnBehind 187 = .ok (.invokevirtual 223, 3) := by decide +kernel
theorem d_M_goOnBehind_190 : decode b_M_goOnBehind 190 = .ok (.aload_n 0, 1) := by decide +kernel
theorem d_M_goOnBehind_191 : decode b_M_goOnBehind 191 = .ok (.bipush (14), 2) := by decide +kernel
theorem d_M_goOnBehind_193 : decode b_M_goOnBehind 193 = .ok (.invokevirtual 226, 3) := by decide +kernel
theorem d_M_goOnBehind_196 : decode b_M_goOnBehind 196 = .ok (.aload_n 0, 1) := by decide +kernel
theorem d_M_goOnBehind_197 : decode b_M_goOnBehind 197 = .ok (.bipush (10), 2) := by decide +kernel
theorem d_M_goOnBehind_199 : decode b_M_goOnBehind 199 = .ok (.putfield 181, 3) := by decide +kernel
theorem d_M_goOnBehind_202 : decode b_M_goOnBehind 202 = .ok (.iconst 1, 1) := by decide +kernel
theorem d_M_goOnBehind_203 : decode b_M_goOnBehind 203 = .ok (.ireturn, 1) := by decide +kernel
theorem d_M_goOnBehind_204 : decode b_M_goOnBehind 204 = .ok (.iconst 0, 1) := by decide +kernel
theorem d_M_goOnBehind_205 : decode b_M_goOnBehind 205 = .ok (.ireturn, 1) := by decide +kernel
def F_M_goOnBehind_165 (a0 : Nat) (x1 : Int32) (w : AW) : Option (Int32 × AW) :=
  if x1 = (64 : Int32) then
    gd (wk w a0 == 13) <|
    if (wi w a0 12) = 0 then
      if (wi w a0 11) = (1 : Int32) then
        (F_M_endNumber a0 w).bind fun r2 =>
        gd (wk r2 a0 == 13) <|
        (F_M_layDown a0 (14 : Int32) r2).bind fun r5 =>
        gd (wk r5 a0 == 13) <|
        let w8 : AW := upI r5 a0 10 (10 : Int32)
        some ((1 : Int32), w8)
      else
        some ((0 : Int32), w)
    else
      some ((0 : Int32), w)
  else
    some ((0 : Int32), w)
theorem P_M_goOnBehind_165 {X : AX} {l : Launch} {G : AG} (hX : XOK X b_M_goOnBehind "RedSkyModel" 2) (hM : XM X l G { frames := 2, cells := 0, slots := 0, locals := 44 }) {o : Int32 × AW} (hR : XR X (some .boolean) 0 0 (some (vi o.1)) o.2) (a0 : Nat) (x1 : Int32) (w : AW) (h : F_M_goOnBehind_165 a0 x1 w = some o) : RJ X 2 0 0 165 [(0, vr a0), (1, vi x1)] [] w := by
  unfold F_M_goOnBehind_165 at h
  refine r_iload_n (i := 1) hX d_M_goOnBehind_165 1 rfl rfl ?_
  refine r_bipush (v := (64 : Int32)) hX d_M_goOnBehind_166 rfl ?_
  refine r_icmp_ne hX d_M_goOnBehind_168 rfl h (fun h => ?_) (fun h => ?_)
  · refine r_iconst (v := (0 : Int32)) hX d_M_goOnBehind_204 rfl ?_
    cases h; exact r_zret hX hR rfl d_M_goOnBehind_205
  · refine r_aload_n (i := 0) hX d_M_goOnBehind_171 0 rfl rfl ?_
    obtain ⟨hk1, h⟩ := gd_e h
    refine r_getI (i := 12) (f := 12) hX ci_12 (by decide) rfl fl_M_187 hk1 d_M_goOnBehind_172 ?_
    refine r_if_ne hX d_M_goOnBehind_175 rfl h (fun h => ?_) (fun h => ?_)
    · refine r_iconst (v := (0 : Int32)) hX d_M_goOnBehind_204 rfl ?_
      cases h; exact r_zret hX hR rfl d_M_goOnBehind_205
    · refine r_aload_n (i := 0) hX d_M_goOnBehind_178 0 rfl rfl ?_
      refine r_getI (i := 12) (f := 11) hX ci_12 (by decide) rfl fl_M_184 hk1 d_M_goOnBehind_179 ?_
      refine r_iconst (v := (1 : Int32)) hX d_M_goOnBehind_182 rfl ?_
      refine r_icmp_ne hX d_M_goOnBehind_183 rfl h (fun h => ?_) (fun h => ?_)
      · refine r_iconst (v := (0 : Int32)) hX d_M_goOnBehind_204 rfl ?_
        cases h; exact r_zret hX hR rfl d_M_goOnBehind_205
      · refine r_aload_n (i := 0) hX d_M_goOnBehind_186 0 rfl rfl ?_
        obtain ⟨r2, hr3, h⟩ := bd_e h
        refine r_callV0 (As := []) hX hM mw_M_223 (T_M_endNumber _ _ hr3) (rc_of ci_12 hk1) rfl rfl ⟨Nat.le_refl _, Nat.le_refl _⟩ rfl rfl d_M_goOnBehind_187 ?_
        refine r_aload_n (i := 0) hX d_M_goOnBehind_190 0 rfl rfl ?_
        refine r_bipush (v := (14 : Int32)) hX d_M_goOnBehind_191 rfl ?_
        obtain ⟨hk4, h⟩ := gd_e h
        obtain ⟨r5, hr6, h⟩ := bd_e h
        refine r_callV0 (As := [_]) hX hM mw_M_226 (T_M_layDown _ _ _ hr6) (rc_of ci_12 hk4) rfl rfl ⟨Nat.le_refl _, Nat.le_refl _⟩ rfl rfl d_M_goOnBehind_193 ?_
        refine r_aload_n (i := 0) hX d_M_goOnBehind_196 0 rfl rfl ?_
        refine r_bipush (v := (10 : Int32)) hX d_M_goOnBehind_197 rfl ?_
        obtain ⟨hk7, h⟩ := gd_e h
        refine r_putI (i := 12) (f := 10) hX ci_12 (by decide) rfl rfl (fun G => rfl) (fun G => rfl) fl_M_181 hk7 d_M_goOnBehind_199 ?_
        refine r_iconst (v := (1 : Int32)) hX d_M_goOnBehind_202 rfl ?_
        cases h; exact r_zret hX hR rfl d_M_goOnBehind_203
def F_M_goOnBehind_122 (a0 : Nat) (x1 : Int32) (w : AW) : Option (Int32 × AW) :=
  if x1 = (58 : Int32) then
    gd (wk w a0 == 13) <|
    if (wi w a0 12) = 0 then
      if (wi w a0 11) = 0 then
        (F_M_endNumber a0 w).bind fun r2 =>
        gd (wk r2 a0 == 13) <|
        (F_M_layDown a0 (14 : Int32) r2).bind fun r5 =>
        gd (wk r5 a0 == 13) <|
        let w8 : AW := upI r5 a0 11 (1 : Int32)
        let w9 : AW := upI w8 a0 10 (6 : Int32)
        some ((1 : Int32), w9)
      else
        F_M_goOnBehind_165 a0 x1 w
    else
      F_M_goOnBehind_165 a0 x1 w
  else
    F_M_goOnBehind_165 a0 x1 w
theorem P_M_goOnBehind_122 {X : AX} {l : Launch} {G : AG} (hX : XOK X b_M_goOnBehind "RedSkyModel" 2) (hM : XM X l G { frames := 2, cells := 0, slots := 0, locals := 44 }) {o : Int32 × AW} (hR : XR X (some .boolean) 0 0 (some (vi o.1)) o.2) (a0 : Nat) (x1 : Int32) (w : AW) (h : F_M_goOnBehind_122 a0 x1 w = some o) : RJ X 2 0 0 122 [(0, vr a0), (1, vi x1)] [] w := by
  unfold F_M_goOnBehind_122 at h
  refine r_iload_n (i := 1) hX d_M_goOnBehind_122 1 rfl rfl ?_
  refine r_bipush (v := (58 : Int32)) hX d_M_goOnBehind_123 rfl ?_
  refine r_icmp_ne hX d_M_goOnBehind_125 rfl h (fun h => ?_) (fun h => ?_)
  · exact rj_sub [0, 1] rfl (P_M_goOnBehind_165 hX hM hR _ _ _ h)
  · refine r_aload_n (i := 0) hX d_M_goOnBehind_128 0 rfl rfl ?_
    obtain ⟨hk1, h⟩ := gd_e h
    refine r_getI (i := 12) (f := 12) hX ci_12 (by decide) rfl fl_M_187 hk1 d_M_goOnBehind_129 ?_
    refine r_if_ne hX d_M_goOnBehind_132 rfl h (fun h => ?_) (fun h => ?_)
    · exact rj_sub [0, 1] rfl (P_M_goOnBehind_165 hX hM hR _ _ _ h)
    · refine r_aload_n (i := 0) hX d_M_goOnBehind_135 0 rfl rfl ?_
      refine r_getI (i := 12) (f := 11) hX ci_12 (by decide) rfl fl_M_184 hk1 d_M_goOnBehind_136 ?_
      refine r_if_ne hX d_M_goOnBehind_139 rfl h (fun h => ?_) (fun h => ?_)
      · exact rj_sub [0, 1] rfl (P_M_goOnBehind_165 hX hM hR _ _ _ h)
      · refine r_aload_n (i := 0) hX d_M_goOnBehind_142 0 rfl rfl ?_
        obtain ⟨r2, hr3, h⟩ := bd_e h
        refine r_callV0 (As := []) hX hM mw_M_223 (T_M_endNumber _ _ hr3) (rc_of ci_12 hk1) rfl rfl ⟨Nat.le_refl _, Nat.le_refl _⟩ rfl rfl d_M_goOnBehind_143 ?_
        refine r_aload_n (i := 0) hX d_M_goOnBehind_146 0 rfl rfl ?_
        refine r_bipush (v := (14 : Int32)) hX d_M_goOnBehind_147 rfl ?_
        obtain ⟨hk4, h⟩ := gd_e h
        obtain ⟨r5, hr6, h⟩ := bd_e h
        refine r_callV0 (As := [_]) hX hM mw_M_226 (T_M_layDown _ _ _ hr6) (rc_of ci_12 hk4) rfl rfl ⟨Nat.le_refl _, Nat.le_refl _⟩ rfl rfl d_M_goOnBehind_149 ?_
        refine r_aload_n (i := 0) hX d_M_goOnBehind_152 0 rfl rfl ?_
        refine r_iconst (v := (1 : Int32)) hX d_M_goOnBehind_153 rfl ?_
        obtain ⟨hk7, h⟩ := gd_e h
        refine r_putI (i := 12) (f := 11) hX ci_12 (by decide) rfl rfl (fun G => rfl) (fun G => rfl) fl_M_184 hk7 d_M_goOnBehind_154 ?_
        refine r_aload_n (i := 0) hX d_M_goOnBehind_157 0 rfl rfl ?_
        refine r_bipush (v := (6 : Int32)) hX d_M_goOnBehind_158 rfl ?_
        refine r_putI (i := 12) (f := 10) hX ci_12 (by decide) rfl rfl (fun G => rfl) (fun G => rfl) fl_M_181 (kI hk7) d_M_goOnBehind_160 ?_
        refine r_iconst (v := (1 : Int32)) hX d_M_goOnBehind_163 rfl ?_
        cases h; exact r_zret hX hR rfl d_M_goOnBehind_164
def F_M_goOnBehind_54 (a0 : Nat) (s2 : Int32) (s1 : Int32) (s0 : Nat) (w : AW) : Option (Int32 × AW) :=
  gd (wk w s0 == 100) <|
  gd (inb s1 (wn w s0)) <|
  let w3 : AW := upI w s0 (Int32.toNatClampNeg s1) s2
  gd (wk w3 a0 == 13) <|
  let w5 : AW := upI w3 a0 28 ((wi w3 a0 28) + (1 : Int32))
  let w6 : AW := upI w5 a0 10 (0 : Int32)
  some ((1 : Int32), w6)
theorem P_M_goOnBehind_54 {X : AX} {l : Launch} {G : AG} (hX : XOK X b_M_goOnBehind "RedSkyModel" 2) (hM : XM X l G { frames := 2, cells := 0, slots := 0, locals := 44 }) {o : Int32 × AW} (hR : XR X (some .boolean) 0 0 (some (vi o.1)) o.2) (a0 : Nat) (s2 : Int32) (s1 : Int32) (s0 : Nat) (w : AW) (h : F_M_goOnBehind_54 a0 s2 s1 s0 w = some o) : RJ X 2 0 0 54 [(0, vr a0)] [vi s2, vi s1, vr s0] w := by
  unfold F_M_goOnBehind_54 at h
  obtain ⟨hk1, h⟩ := gd_e h
  obtain ⟨hg2, h⟩ := gd_e h
  refine r_iast hX hk1 hg2 d_M_goOnBehind_54 ?_
  refine r_aload_n (i := 0) hX d_M_goOnBehind_55 0 rfl rfl ?_
  refine r_dup hX d_M_goOnBehind_56 rfl ?_
  obtain ⟨hk4, h⟩ := gd_e h
  refine r_getI (i := 12) (f := 28) hX ci_12 (by decide) rfl fl_M_190 hk4 d_M_goOnBehind_57 ?_
  refine r_iconst (v := (1 : Int32)) hX d_M_goOnBehind_60 rfl ?_
  refine r_iadd hX d_M_goOnBehind_61 ?_
  refine r_putI (i := 12) (f := 28) hX ci_12 (by decide) rfl rfl (fun G => rfl) (fun G => rfl) fl_M_190 hk4 d_M_goOnBehind_62 ?_
  refine r_aload_n (i := 0) hX d_M_goOnBehind_65 0 rfl rfl ?_
  refine r_iconst (v := (0 : Int32)) hX d_M_goOnBehind_66 rfl ?_
  refine r_putI (i := 12) (f := 10) hX ci_12 (by decide) rfl rfl (fun G => rfl) (fun G => rfl) fl_M_181 (kI hk4) d_M_goOnBehind_67 ?_
  refine r_iconst (v := (1 : Int32)) hX d_M_goOnBehind_70 rfl ?_
  cases h; exact r_zret hX hR rfl d_M_goOnBehind_71
def F_M_goOnBehind_30 (a0 : Nat) (x1 : Int32) (s1 : Int32) (s0 : Nat) (w : AW) : Option (Int32 × AW) :=
  gd (wk w s0 == 13) <|
  (F_M_layDown s0 s1 w).bind fun r2 =>
  gd (wk r2 a0 == 13) <|
  if x1 = (38 : Int32) then
    F_M_goOnBehind_54 a0 (13 : Int32) (wi r2 a0 28) (wr r2 a0 27) r2
  else
    F_M_goOnBehind_54 a0 (14 : Int32) (wi r2 a0 28) (wr r2 a0 27) r2
theorem P_M_goOnBehind_30 {X : AX} {l : Launch} {G : AG} (hX : XOK X b_M_goOnBehind "RedSkyModel" 2) (hM : XM X l G { frames := 2, cells := 0, slots := 0, locals := 44 }) {o : Int32 × AW} (hR : XR X (some .boolean) 0 0 (some (vi o.1)) o.2) (a0 : Nat) (x1 : Int32) (s1 : Int32) (s0 : Nat) (w : AW) (h : F_M_goOnBehind_30 a0 x1 s1 s0 w = some o) : RJ X 2 0 0 30 [(0, vr a0), (1, vi x1)] [vi s1, vr s0] w := by
  unfold F_M_goOnBehind_30 at h
  obtain ⟨hk1, h⟩ := gd_e h
  obtain ⟨r2, hr3, h⟩ := bd_e h
  refine r_callV0 (As := [_]) hX hM mw_M_226 (T_M_layDown _ _ _ hr3) (rc_of ci_12 hk1) rfl rfl ⟨Nat.le_refl _, Nat.le_refl _⟩ rfl rfl d_M_goOnBehind_30 ?_
  refine r_aload_n (i := 0) hX d_M_goOnBehind_33 0 rfl rfl ?_
  obtain ⟨hk4, h⟩ := gd_e h
  refine r_getR (i := 12) (f := 27) hX ci_12 (by decide) rfl fl_M_43 hk4 d_M_goOnBehind_34 ?_
  refine r_aload_n (i := 0) hX d_M_goOnBehind_37 0 rfl rfl ?_
  refine r_getI (i := 12) (f := 28) hX ci_12 (by decide) rfl fl_M_190 hk4 d_M_goOnBehind_38 ?_
  refine r_iload_n (i := 1) hX d_M_goOnBehind_41 1 rfl rfl ?_
  refine r_bipush (v := (38 : Int32)) hX d_M_goOnBehind_42 rfl ?_
  refine r_icmp_ne hX d_M_goOnBehind_44 rfl h (fun h => ?_) (fun h => ?_)
  · refine r_bipush (v := (14 : Int32)) hX d_M_goOnBehind_52 rfl ?_
    exact rj_sub [0] rfl (P_M_goOnBehind_54 hX hM hR _ _ _ _ _ h)
  · refine r_bipush (v := (13 : Int32)) hX d_M_goOnBehind_47 rfl ?_
    refine r_goto hX d_M_goOnBehind_49 rfl ?_
    exact rj_sub [0] rfl (P_M_goOnBehind_54 hX hM hR _ _ _ _ _ h)
def F_M_goOnBehind_12 (a0 : Nat) (x1 : Int32) (w : AW) : Option (Int32 × AW) :=
  gd (wk w a0 == 13) <|
  (F_M_endNumber a0 w).bind fun r2 =>
  if x1 = (38 : Int32) then
    F_M_goOnBehind_30 a0 x1 (13 : Int32) a0 r2
  else
    F_M_goOnBehind_30 a0 x1 (14 : Int32) a0 r2
theorem P_M_goOnBehind_12 {X : AX} {l : Launch} {G : AG} (hX : XOK X b_M_goOnBehind "RedSkyModel" 2) (hM : XM X l G { frames := 2, cells := 0, slots := 0, locals := 44 }) {o : Int32 × AW} (hR : XR X (some .boolean) 0 0 (some (vi o.1)) o.2) (a0 : Nat) (x1 : Int32) (w : AW) (h : F_M_goOnBehind_12 a0 x1 w = some o) : RJ X 2 0 0 12 [(0, vr a0), (1, vi x1)] [] w := by
  unfold F_M_goOnBehind_12 at h
  refine r_aload_n (i := 0) hX d_M_goOnBehind_12 0 rfl rfl ?_
  obtain ⟨hk1, h⟩ := gd_e h
  obtain ⟨r2, hr3, h⟩ := bd_e h
  refine r_callV0 (As := []) hX hM mw_M_223 (T_M_endNumber _ _ hr3) (rc_of ci_12 hk1) rfl rfl ⟨Nat.le_refl _, Nat.le_refl _⟩ rfl rfl d_M_goOnBehind_13 ?_
  refine r_aload_n (i := 0) hX d_M_goOnBehind_16 0 rfl rfl ?_
  refine r_iload_n (i := 1) hX d_M_goOnBehind_17 1 rfl rfl ?_
  refine r_bipush (v := (38 : Int32)) hX d_M_goOnBehind_18 rfl ?_
  refine r_icmp_ne hX d_M_goOnBehind_20 rfl h (fun h => ?_) (fun h => ?_)
  · refine r_bipush (v := (14 : Int32)) hX d_M_goOnBehind_28 rfl ?_
    exact rj_sub [0, 1] rfl (P_M_goOnBehind_30 hX hM hR _ _ _ _ _ h)
  · refine r_bipush (v := (13 : Int32)) hX d_M_goOnBehind_23 rfl ?_
    refine r_goto hX d_M_goOnBehind_25 rfl ?_
    exact rj_sub [0, 1] rfl (P_M_goOnBehind_30 hX hM hR _ _ _ _ _ h)
def F_M_goOnBehind (a0 : Nat) (x1 : Int32) (w : AW) : Option (Int32 × AW) :=
  if x1 = (38 : Int32) then
    F_M_goOnBehind_12 a0 x1 w
  else
    if x1 = (124 : Int32) then
      F_M_goOnBehind_12 a0 x1 w
    else
      if x1 = (41 : Int32) then
        gd (wk w a0 == 13) <|
        if (wi w a0 12) ≤ 0 then
          F_M_goOnBehind_122 a0 x1 w
        else
          (F_M_endNumber a0 w).bind fun r2 =>
          gd (wk r2 a0 == 13) <|
          (F_M_layDown a0 (14 : Int32) r2).bind fun r5 =>
          gd (wk r5 a0 == 13) <|
          let w8 : AW := upI r5 a0 28 ((wi r5 a0 28) - (1 : Int32))
          let w9 : AW := upI w8 a0 12 ((wi w8 a0 12) - (1 : Int32))
          let w10 : AW := upI w9 a0 10 (5 : Int32)
          some ((1 : Int32), w10)
      else
        F_M_goOnBehind_122 a0 x1 w
theorem P_M_goOnBehind_0 {X : AX} {l : Launch} {G : AG} (hX : XOK X b_M_goOnBehind "RedSkyModel" 2) (hM : XM X l G { frames := 2, cells := 0, slots := 0, locals := 44 }) {o : Int32 × AW} (hR : XR X (some .boolean) 0 0 (some (vi o.1)) o.2) (a0 : Nat) (x1 : Int32) (w : AW) (h : F_M_goOnBehind a0 x1 w = some o) : RJ X 2 0 0 0 [(0, vr a0), (1, vi x1)] [] w := by
  unfold F_M_goOnBehind at h
  refine r_iload_n (i := 1) hX d_M_goOnBehind_0 1 rfl rfl ?_
  refine r_bipush (v := (38 : Int32)) hX d_M_goOnBehind_1 rfl ?_
  refine r_icmp_eq hX d_M_goOnBehind_3 rfl h (fun h => ?_) (fun h => ?_)
  · exact rj_sub [0, 1] rfl (P_M_goOnBehind_12 hX hM hR _ _ _ h)
  · refine r_iload_n (i := 1) hX d_M_goOnBehind_6 1 rfl rfl ?_
    refine r_bipush (v := (124 : Int32)) hX d_M_goOnBehind_7 rfl ?_
    refine r_icmp_ne hX d_M_goOnBehind_9 rfl h (fun h => ?_) (fun h => ?_)
    · refine r_iload_n (i := 1) hX d_M_goOnBehind_72 1 rfl rfl ?_
      refine r_bipush (v := (41 : Int32)) hX d_M_goOnBehind_73 rfl ?_
      refine r_icmp_ne hX d_M_goOnBehind_75 rfl h (fun h => ?_) (fun h => ?_)
      · exact rj_sub [0, 1] rfl (P_M_goOnBehind_122 hX hM hR _ _ _ h)
      · refine r_aload_n (i := 0) hX d_M_goOnBehind_78 0 rfl rfl ?_
        obtain ⟨hk1, h⟩ := gd_e h
        refine r_getI (i := 12) (f := 12) hX ci_12 (by decide) rfl fl_M_187 hk1 d_M_goOnBehind_79 ?_
        refine r_if_le hX d_M_goOnBehind_82 rfl h (fun h => ?_) (fun h => ?_)
        · exact rj_sub [0, 1] rfl (P_M_goOnBehind_122 hX hM hR _ _ _ h)
        · refine r_aload_n (i := 0) hX d_M_goOnBehind_85 0 rfl rfl ?_
          obtain ⟨r2, hr3, h⟩ := bd_e h
          refine r_callV0 (As := []) hX hM mw_M_223 (T_M_endNumber _ _ hr3) (rc_of ci_12 hk1) rfl rfl ⟨Nat.le_refl _, Nat.le_refl _⟩ rfl rfl d_M_goOnBehind_86 ?_
          refine r_aload_n (i := 0) hX d_M_goOnBehind_89 0 rfl rfl ?_
          refine r_bipush (v := (14 : Int32)) hX d_M_goOnBehind_90 rfl ?_
          obtain ⟨hk4, h⟩ := gd_e h
          obtain ⟨r5, hr6, h⟩ := bd_e h
          refine r_callV0 (As := [_]) hX hM mw_M_226 (T_M_layDown _ _ _ hr6) (rc_of ci_12 hk4) rfl rfl ⟨Nat.le_refl _, Nat.le_refl _⟩ rfl rfl d_M_goOnBehind_92 ?_
          refine r_aload_n (i := 0) hX d_M_goOnBehind_95 0 rfl rfl ?_
          refine r_dup hX d_M_goOnBehind_96 rfl ?_
          obtain ⟨hk7, h⟩ := gd_e h
          refine r_getI (i := 12) (f := 28) hX ci_12 (by decide) rfl fl_M_190 hk7 d_M_goOnBehind_97 ?_
          refine r_iconst (v := (1 : Int32)) hX d_M_goOnBehind_100 rfl ?_
          refine r_isub hX d_M_goOnBehind_101 ?_
          refine r_putI (i := 12) (f := 28) hX ci_12 (by decide) rfl rfl (fun G => rfl) (fun G => rfl) fl_M_190 hk7 d_M_goOnBehind_102 ?_
          refine r_aload_n (i := 0) hX d_M_goOnBehind_105 0 rfl rfl ?_
          refine r_dup hX d_M_goOnBehind_106 rfl ?_
          refine r_getI (i := 12) (f := 12) hX ci_12 (by decide) rfl fl_M_187 (kI hk7) d_M_goOnBehind_107 ?_
          refine r_iconst (v := (1 : Int32)) hX d_M_goOnBehind_110 rfl ?_
          refine r_isub hX d_M_goOnBehind_111 ?_
          refine r_putI (i := 12) (f := 12) hX ci_12 (by decide) rfl rfl (fun G => rfl) (fun G => rfl) fl_M_187 (kI hk7) d_M_goOnBehind_112 ?_
          refine r_aload_n (i := 0) hX d_M_goOnBehind_115 0 rfl rfl ?_
          refine r_iconst (v := (5 : Int32)) hX d_M_goOnBehind_116 rfl ?_
          refine r_putI (i := 12) (f := 10) hX ci_12 (by decide) rfl rfl (fun G => rfl) (fun G => rfl) fl_M_181 (kI (kI hk7)) d_M_goOnBehind_117 ?_
          refine r_iconst (v := (1 : Int32)) hX d_M_goOnBehind_120 rfl ?_
          cases h; exact r_zret hX hR rfl d_M_goOnBehind_121
    · exact rj_sub [0, 1] rfl (P_M_goOnBehind_12 hX hM hR _ _ _ h)
theorem T_M_goOnBehind {l : Launch} {G : AG} (a0 : Nat) (x1 : Int32) (w : AW) {o : Int32 × AW} (h : F_M_goOnBehind a0 x1 w = some o) : Mt l G y_M_goOnBehind b_M_goOnBehind 2 (some (.boolean)) 2 44 0 0 [vr a0, vi x1] w (some (vi o.1)) o.2 := mt_of (by decide) (Nat.le_of_ble_eq_true rfl) (fun X hX hR hM hI => P_M_goOnBehind_0 hX hM hR _ _ _ h)
/-! RedSkyModel.goOnSpan(I)Z -/
theorem d_M_goOnSpan_0 : decode b_M_goOnSpan 0 = .ok (.aload_n 0, 1) := by decide +kernel
theorem d_M_goOnSpan_1 : decode b_M_goOnSpan 1 = .ok (.getfield 181, 3) := by decide +kernel
theorem d_M_goOnSpan_4 : decode b_M_goOnSpan 4 = .ok (.bipush (6), 2) := by decide +kernel
theorem d_M_goOnSpan_6 : decode b_M_goOnSpan 6 = .ok (.if_icmp .ne (30), 3) := by decide +kernel
theorem d_M_goOnSpan_9 : decode b_M_goOnSpan 9 = .ok (.aload_n 0, 1) := by decide +kernel
theorem d_M_goOnSpan_10 : decode b_M_goOnSpan 10 = .ok (.iload_n 1, 1) := by decide +kernel
theorem d_M_goOnSpan_11 : decode b_M_goOnSpan 11 = .ok (.bipush (48), 2) := by decide +kernel
theorem d_M_goOnSpan_13 : decode b_M_goOnSpan 13 = .ok (.isub, 1) := by decide +kernel
theorem d_M_goOnSpan_14 : decode b_M_goOnSpan 14 = .ok (.putfield 236, 3) := by decide +kernel
theorem d_M_goOnSpan_17 : decode b_M_goOnSpan 17 = .ok (.aload_n 0, 1) := by decide +kernel
theorem d_M_goOnSpan_18 : decode b_M_goOnSpan 18 = .ok (.aload_n 0, 1) := by decide +kernel
theorem d_M_goOnSpan_19 : decode b_M_goOnSpan 19 = .ok (.getfield 236, 3) := by decide +kernel
theorem d_M_goOnSpan_22 : decode b_M_goOnSpan 22 = .ok (.putfield 239, 3) := by decide +kernel
theorem d_M_goOnSpan_25 : decode b_M_goOnSpan 25 = .ok (.aload_n 0, 1) := by decide +kernel
theorem d_M_goOnSpan_26 : decode b_M_goOnSpan 26 = .ok (.bipush (7), 2) := by decide +kernel
theorem d_M_goOnSpan_28 : decode b_M_goOnSpan 28 = .ok (.putfield 181, 3) := by decide +kernel
theorem d_M_goOnSpan_31 : decode b_M_goOnSpan 31 = .ok (.iload_n 1, 1) := by decide +kernel
theorem d_M_goOnSpan_32 : decode b_M_goOnSpan 32 = .ok (.invokestatic 242, 3) := by decide +kernel
theorem d_M_goOnSpan_35 : decode b_M_goOnSpan 35 = .ok (.ireturn, 1) := by decide +kernel
theorem d_M_goOnSpan_36 : decode b_M_goOnSpan 36 = .ok (.aload_n 0, 1) := by decide +kernel
theorem d_M_goOnSpan_37 : decode b_M_goOnSpan 37 = .ok (.getfield 181, 3) := by decide +kernel
theorem d_M_goOnSpan_40 : decode b_M_goOnSpan 40 = .ok (.bipush (8), 2) := by decide +kernel
theorem d_M_goOnSpan_42 : decode b_M_goOnSpan 42 = .ok (.if_icmp .ne (41), 3) := by decide +kernel
theorem d_M_goOnSpan_45 : decode b_M_goOnSpan 45 = .ok (.aload_n 0, 1) := by decide +kernel
theorem d_M_goOnSpan_46 : decode b_M_goOnSpan 46 = .ok (.iload_n 1, 1) := by decide +kernel
theorem d_M_goOnSpan_47 : decode b_M_goOnSpan 47 = .ok (.bipush (48), 2) := by decide +kernel
theorem d_M_goOnSpan_49 : decode b_M_goOnSpan 49 = .ok (.isub, 1) := by decide +kernel
theorem d_M_goOnSpan_50 : decode b_M_goOnSpan 50 = .ok (.putfield 239, 3) := by decide +kernel
theorem d_M_goOnSpan_53 : decode b_M_goOnSpan 53 = .ok (.aload_n 0, 1) := by decide +kernel
theorem d_M_goOnSpan_54 : decode b_M_goOnSpan 54 = .ok (.bipush (9), 2) := by decide +kernel
theorem d_M_goOnSpan_56 : decode b_M_goOnSpan 56 = .ok (.putfield 181, 3) := by decide +kernel
theorem d_M_goOnSpan_59 : decode b_M_goOnSpan 59 = .ok (.iload_n 1, 1) := by decide +kernel
theorem d_M_goOnSpan_60 : decode b_M_goOnSpan 60 = .ok (.invokestatic 242, 3) := by decide +kernel
theorem d_M_goOnSpan_63 : decode b_M_goOnSpan 63 = .ok (.ifCond .eq (18), 3) := by decide +kernel
theorem d_M_goOnSpan_66 : decode b_M_goOnSpan 66 = .ok (.aload_n 0, 1) := by decide +kernel
theorem d_M_goOnSpan_67 : decode b_M_goOnSpan 67 = .ok (.getfield 239, 3) := by decide +kernel
theorem d_M_goOnSpan_70 : decode b_M_goOnSpan 70 = .ok (.aload_n 0, 1) := by decide +kernel
theorem d_M_goOnSpan_71 : decode b_M_goOnSpan 71 = .ok (.getfield 236, 3) := by decide +kernel
theorem d_M_goOnSpan_74 : decode b_M_goOnSpan 74 = .ok (.if_icmp .lt (7), 3) := by decide +kernel
theorem d_M_goOnSpan_77 : decode b_M_goOnSpan 77 = .ok (.iconst 1, 1) := by decide +kernel
theorem d_M_goOnSpan_78 : decode b_M_goOnSpan 78 = .ok (.goto (4), 3) := by decide +kernel
theorem d_M_goOnSpan_81 : decode b_M_goOnSpan 81 = .ok (.iconst 0, 1) := by decide +kernel
theorem d_M_goOnSpan_82 : decode b_M_goOnSpan 82 = .ok (.ireturn, 1) := by decide +kernel
theorem d_M_goOnSpan_83 : decode b_M_goOnSpan 83 = .ok (.iload_n 1, 1) := by decide +kernel
theorem d_M_goOnSpan_84 : decode b_M_goOnSpan 84 = .ok (.bipush (45), 2) := by decide +kernel
theorem d_M_goOnSpan_86 : decode b_M_goOnSpan 86 = .ok (.if_icmp .ne (20), 3) := by decide +kernel
theorem d_M_goOnSpan_89 : decode b_M_goOnSpan 89 = .ok (.aload_n 0, 1) := by decide +kernel
theorem d_M_goOnSpan_90 : decode b_M_goOnSpan 90 = .ok (.getfield 181, 3) := by decide +kernel
theorem d_M_goOnSpan_93 : decode b_M_goOnSpan 93 = .ok (.bipush (7), 2) := by decide +kernel
theorem d_M_goOnSpan_95 : decode b_M_goOnSpan 95 = .ok (.if_icmp .ne (11), 3) := by decide +kernel
theorem d_M_goOnSpan_98 : decode b_M_goOnSpan 98 = .ok (.aload_n 0, 1) := by decide +kernel
theorem d_M_goOnSpan_99 : decode b_M_goOnSpan 99 = .ok (.bipush (8), 2) := by decide +kernel
theorem d_M_goOnSpan_101 : decode b_M_goOnSpan 101 = .ok (.putfield 181, 3) := by decide +kernel
theorem d_M_goOnSpan_104 : decode b_M_goOnSpan 104 = .ok (.iconst 1, 1) := by decide +kernel
theorem d_M_goOnSpan_105 : decode b_M_goOnSpan 105 = .ok (.ireturn, 1) := by decide +kernel
theorem d_M_goOnSpan_106 : decode b_M_goOnSpan 106 = .ok (.aload_n 0, 1) := by decide +kernel
theorem d_M_goOnSpan_107 : decode b_M_goOnSpan 107 = .ok (.iload_n 1, 1) := by decide +kernel
theorem d_M_goOnSpan_108 : decode b_M_goOnSpan 108 = .ok (.bipush (94), 2) := by decide +kernel
theorem d_M_goOnSpan_110 : decode b_M_goOnSpan 110 = .ok (.if_icmp .ne (7), 3) := by decide +kernel
theorem d_M_goOnSpan_113 : decode b_M_goOnSpan 113 = .ok (.iconst 1, 1) := by decide +kernel
theorem d_M_goOnSpan_114 : decode b_M_goOnSpan 114 = .ok (.goto (4), 3) := by decide +kernel
theorem d_M_goOnSpan_117 : decode b_M_goOnSpan 117 = .ok (.iconst 0, 1) := by decide +kernel
theorem d_M_goOnSpan_118 : decode b_M_goOnSpan 118 = .ok (.putfield 245, 3) := by decide +kernel
theorem d_M_goOnSpan_121 : decode b_M_goOnSpan 121 = .ok (.aload_n 0, 1) := by decide +kernel
theorem d_M_goOnSpan_122 : decode b_M_goOnSpan 122 = .ok (.iconst 0, 1) := by decide +kernel
theorem d_M_goOnSpan_123 : decode b_M_goOnSpan 123 = .ok (.putfield 181, 3) := by decide +kernel
theorem d_M_goOnSpan_126 : decode b_M_goOnSpan 126 = .ok (.iload_n 1, 1) := by decide +kernel
theorem d_M_goOnSpan_127 : decode b_M_goOnSpan 127 = .ok (.bipush (126), 2) := by decide +kernel
theorem d_M_goOnSpan_129 : decode b_M_goOnSpan 129 = .ok (.if_icmp .eq (9), 3) := by decide +kernel
theorem d_M_goOnSpan_132 : decode b_M_goOnSpan 132 = .ok (.iload_n 1, 1) := by decide +kernel
theorem d_M_goOnSpan_133 : decode b_M_goOnSpan 133 = .ok (.bipush (94), 2) := by decide +kernel
theorem d_M_goOnSpan_135 : decode b_M_goOnSpan 135 = .ok (.if_icmp .ne (7), 3) := by decide +kernel
theorem d_M_goOnSpan_138 : decode b_M_goOnSpan 138 = .ok (.iconst 1, 1) := by decide +kernel
theorem d_M_goOnSpan_139 : decode b_M_goOnSpan 139 = .ok (.goto (4), 3) := by decide +kernel
theorem d_M_goOnSpan_142 : decode b_M_goOnSpan 142 = .ok (.iconst 0, 1) := by decide +kernel
theorem d_M_goOnSpan_143 : decode b_M_goOnSpan 143 = .ok (.ireturn, 1) := by decide +kernel
def F_M_goOnSpan_118 (a0 : Nat) (x1 : Int32) (s1 : Int32) (s0 : Nat) (w : AW) : Option (Int32 × AW) :=
  gd (wk w s0 == 13) <|
  gd (s1 == 0 || s1 == 1) <|
  let w3 : AW := upI w s0 20 s1
  gd (wk w3 a0 == 13) <|
  let w5 : AW := upI w3 a0 10 (0 : Int32)
  if x1 = (126 : Int32) then
    some ((1 : Int32), w5)
  else
    if x1 = (94 : Int32) then
      some ((1 : Int32), w5)
    else
      some ((0 : Int32), w5)
theorem P_M_goOnSpan_118 {X : AX} {l : Launch} {G : AG} (hX : XOK X b_M_goOnSpan "RedSkyModel" 2) (hM : XM X l G { frames := 2, cells := 0, slots := 0, locals := 45 }) {o : Int32 × AW} (hR : XR X (some .boolean) 0 0 (some (vi o.1)) o.2) (a0 : Nat) (x1 : Int32) (s1 : Int32) (s0 : Nat) (w : AW) (h : F_M_goOnSpan_118 a0 x1 s1 s0 w = some o) : RJ X 2 0 0 118 [(0, vr a0), (1, vi x1)] [vi s1, vr s0] w := by
  unfold F_M_goOnSpan_118 at h
  obtain ⟨hk1, h⟩ := gd_e h
  obtain ⟨hg2, h⟩ := gd_e h
  refine r_putI (i := 12) (f := 20) hX ci_12 (by decide) rfl rfl (fun G => nw_z _ hg2) (fun G => ft_z _ hg2) fl_M_245 hk1 d_M_goOnSpan_118 ?_
  refine r_aload_n (i := 0) hX d_M_goOnSpan_121 0 rfl rfl ?_
  refine r_iconst (v := (0 : Int32)) hX d_M_goOnSpan_122 rfl ?_
  obtain ⟨hk4, h⟩ := gd_e h
  refine r_putI (i := 12) (f := 10) hX ci_12 (by decide) rfl rfl (fun G => rfl) (fun G => rfl) fl_M_181 hk4 d_M_goOnSpan_123 ?_
  refine r_iload_n (i := 1) hX d_M_goOnSpan_126 1 rfl rfl ?_
  refine r_bipush (v := (126 : Int32)) hX d_M_goOnSpan_127 rfl ?_
  refine r_icmp_eq hX d_M_goOnSpan_129 rfl h (fun h => ?_) (fun h => ?_)
  · refine r_iconst (v := (1 : Int32)) hX d_M_goOnSpan_138 rfl ?_
    refine r_goto hX d_M_goOnSpan_139 rfl ?_
    cases h; exact r_zret hX hR rfl d_M_goOnSpan_143
  · refine r_iload_n (i := 1) hX d_M_goOnSpan_132 1 rfl rfl ?_
    refine r_bipush (v := (94 : Int32)) hX d_M_goOnSpan_133 rfl ?_
    refine r_icmp_ne hX d_M_goOnSpan_135 rfl h (fun h => ?_) (fun h => ?_)
    · refine r_iconst (v := (0 : Int32)) hX d_M_goOnSpan_142 rfl ?_
      cases h; exact r_zret hX hR rfl d_M_goOnSpan_143
    · refine r_iconst (v := (1 : Int32)) hX d_M_goOnSpan_138 rfl ?_
      refine r_goto hX d_M_goOnSpan_139 rfl ?_
      cases h; exact r_zret hX hR rfl d_M_goOnSpan_143
def F_M_goOnSpan_106 (a0 : Nat) (x1 : Int32) (w : AW) : Option (Int32 × AW) :=
  if x1 = (94 : Int32) then
    F_M_goOnSpan_118 a0 x1 (1 : Int32) a0 w
  else
    F_M_goOnSpan_118 a0 x1 (0 : Int32) a0 w
theorem P_M_goOnSpan_106 {X : AX} {l : Launch} {G : AG} (hX : XOK X b_M_goOnSpan "RedSkyModel" 2) (hM : XM X l G { frames := 2, cells := 0, slots := 0, locals := 45 }) {o : Int32 × AW} (hR : XR X (some .boolean) 0 0 (some (vi o.1)) o.2) (a0 : Nat) (x1 : Int32) (w : AW) (h : F_M_goOnSpan_106 a0 x1 w = some o) : RJ X 2 0 0 106 [(0, vr a0), (1, vi x1)] [] w := by
  unfold F_M_goOnSpan_106 at h
  refine r_aload_n (i := 0) hX d_M_goOnSpan_106 0 rfl rfl ?_
  refine r_iload_n (i := 1) hX d_M_goOnSpan_107 1 rfl rfl ?_
  refine r_bipush (v := (94 : Int32)) hX d_M_goOnSpan_108 rfl ?_
  refine r_icmp_ne hX d_M_goOnSpan_110 rfl h (fun h => ?_) (fun h => ?_)
  · refine r_iconst (v := (0 : Int32)) hX d_M_goOnSpan_117 rfl ?_
    exact rj_sub [0, 1] rfl (P_M_goOnSpan_118 hX hM hR _ _ _ _ _ h)
  · refine r_iconst (v := (1 : Int32)) hX d_M_goOnSpan_113 rfl ?_
    refine r_goto hX d_M_goOnSpan_114 rfl ?_
    exact rj_sub [0, 1] rfl (P_M_goOnSpan_118 hX hM hR _ _ _ _ _ h)
def F_M_goOnSpan (a0 : Nat) (x1 : Int32) (w : AW) : Option (Int32 × AW) :=
  gd (wk w a0 == 13) <|
  if (wi w a0 10) = (6 : Int32) then
    let w5 : AW := upI w a0 18 (x1 - (48 : Int32))
    let w6 : AW := upI w5 a0 19 (wi w5 a0 18)
    let w7 : AW := upI w6 a0 10 (7 : Int32)
    some ((F_M_isFigure x1), w7)
  else
    if (wi w a0 10) = (8 : Int32) then
      let w3 : AW := upI w a0 19 (x1 - (48 : Int32))
      let w4 : AW := upI w3 a0 10 (9 : Int32)
      if (F_M_isFigure x1) = 0 then
        some ((0 : Int32), w4)
      else
        if (wi w4 a0 19) < (wi w4 a0 18) then
          some ((0 : Int32), w4)
        else
          some ((1 : Int32), w4)
    else
      if x1 = (45 : Int32) then
        if (wi w a0 10) = (7 : Int32) then
          let w2 : AW := upI w a0 10 (8 : Int32)
          some ((1 : Int32), w2)
        else
          F_M_goOnSpan_106 a0 x1 w
      else
        F_M_goOnSpan_106 a0 x1 w
theorem P_M_goOnSpan_0 {X : AX} {l : Launch} {G : AG} (hX : XOK X b_M_goOnSpan "RedSkyModel" 2) (hM : XM X l G { frames := 2, cells := 0, slots := 0, locals := 45 }) {o : Int32 × AW} (hR : XR X (some .boolean) 0 0 (some (vi o.1)) o.2) (a0 : Nat) (x1 : Int32) (w : AW) (h : F_M_goOnSpan a0 x1 w = some o) : RJ X 2 0 0 0 [(0, vr a0), (1, vi x1)] [] w := by
  unfold F_M_goOnSpan at h
  refine r_aload_n (i := 0) hX d_M_goOnSpan_0 0 rfl rfl ?_
  obtain ⟨hk1, h⟩ := gd_e h
  refine r_getI (i := 12) (f := 10) hX ci_12 (by decide) rfl fl_M_181 hk1 d_M_goOnSpan_1 ?_
  refine r_bipush (v := (6 : Int32)) hX d_M_goOnSpan_4 rfl ?_
  refine r_icmp_ne hX d_M_goOnSpan_6 rfl h (fun h => ?_) (fun h => ?_)
  · refine r_aload_n (i := 0) hX d_M_goOnSpan_36 0 rfl rfl ?_
    refine r_getI (i := 12) (f := 10) hX ci_12 (by decide) rfl fl_M_181 hk1 d_M_goOnSpan_37 ?_
    refine r_bipush (v := (8 : Int32)) hX d_M_goOnSpan_40 rfl ?_
    refine r_icmp_ne hX d_M_goOnSpan_42 rfl h (fun h => ?_) (fun h => ?_)
    · refine r_iload_n (i := 1) hX d_M_goOnSpan_83 1 rfl rfl ?_
      refine r_bipush (v := (45 : Int32)) hX d_M_goOnSpan_84 rfl ?_
      refine r_icmp_ne hX d_M_goOnSpan_86 rfl h (fun h => ?_) (fun h => ?_)
      · exact rj_sub [0, 1] rfl (P_M_goOnSpan_106 hX hM hR _ _ _ h)
      · refine r_aload_n (i := 0) hX d_M_goOnSpan_89 0 rfl rfl ?_
        refine r_getI (i := 12) (f := 10) hX ci_12 (by decide) rfl fl_M_181 hk1 d_M_goOnSpan_90 ?_
        refine r_bipush (v := (7 : Int32)) hX d_M_goOnSpan_93 rfl ?_
        refine r_icmp_ne hX d_M_goOnSpan_95 rfl h (fun h => ?_) (fun h => ?_)
        · exact rj_sub [0, 1] rfl (P_M_goOnSpan_106 hX hM hR _ _ _ h)
        · refine r_aload_n (i := 0) hX d_M_goOnSpan_98 0 rfl rfl ?_
          refine r_bipush (v := (8 : Int32)) hX d_M_goOnSpan_99 rfl ?_
          refine r_putI (i := 12) (f := 10) hX ci_12 (by decide) rfl rfl (fun G => rfl) (fun G => rfl) fl_M_181 hk1 d_M_goOnSpan_101 ?_
          refine r_iconst (v := (1 : Int32)) hX d_M_goOnSpan_104 rfl ?_
          cases h; exact r_zret hX hR rfl d_M_goOnSpan_105
    · refine r_aload_n (i := 0) hX d_M_goOnSpan_45 0 rfl rfl ?_
      refine r_iload_n (i := 1) hX d_M_goOnSpan_46 1 rfl rfl ?_
      refine r_bipush (v := (48 : Int32)) hX d_M_goOnSpan_47 rfl ?_
      refine r_isub hX d_M_goOnSpan_49 ?_
      refine r_putI (i := 12) (f := 19) hX ci_12 (by decide) rfl rfl (fun G => rfl) (fun G => rfl) fl_M_239 hk1 d_M_goOnSpan_50 ?_
      refine r_aload_n (i := 0) hX d_M_goOnSpan_53 0 rfl rfl ?_
      refine r_bipush (v := (9 : Int32)) hX d_M_goOnSpan_54 rfl ?_
      refine r_putI (i := 12) (f := 10) hX ci_12 (by decide) rfl rfl (fun G => rfl) (fun G => rfl) fl_M_181 (kI hk1) d_M_goOnSpan_56 ?_
      refine r_iload_n (i := 1) hX d_M_goOnSpan_59 1 rfl rfl ?_
      refine r_callS1 (As := [_]) hX hM mw_M_242 (T_M_isFigure _ _) rfl rfl ⟨Nat.le_refl _, Nat.le_refl _⟩ rfl rfl d_M_goOnSpan_60 ?_
      refine r_if_eq hX d_M_goOnSpan_63 rfl h (fun h => ?_) (fun h => ?_)
      · refine r_iconst (v := (0 : Int32)) hX d_M_goOnSpan_81 rfl ?_
        cases h; exact r_zret hX hR rfl d_M_goOnSpan_82
      · refine r_aload_n (i := 0) hX d_M_goOnSpan_66 0 rfl rfl ?_
        refine r_getI (i := 12) (f := 19) hX ci_12 (by decide) rfl fl_M_239 (kI (kI hk1)) d_M_goOnSpan_67 ?_
        refine r_aload_n (i := 0) hX d_M_goOnSpan_70 0 rfl rfl ?_
        refine r_getI (i := 12) (f := 18) hX ci_12 (by decide) rfl fl_M_236 (kI (kI hk1)) d_M_goOnSpan_71 ?_
        refine r_icmp_lt hX d_M_goOnSpan_74 rfl h (fun h => ?_) (fun h => ?_)
        · refine r_iconst (v := (0 : Int32)) hX d_M_goOnSpan_81 rfl ?_
          cases h; exact r_zret hX hR rfl d_M_goOnSpan_82
        · refine r_iconst (v := (1 : Int32)) hX d_M_goOnSpan_77 rfl ?_
          refine r_goto hX d_M_goOnSpan_78 rfl ?_
          cases h; exact r_zret hX hR rfl d_M_goOnSpan_82
  · refine r_aload_n (i := 0) hX d_M_goOnSpan_9 0 rfl rfl ?_
    refine r_iload_n (i := 1) hX d_M_goOnSpan_10 1 rfl rfl ?_
    refine r_bipush (v := (48 : Int32)) hX d_M_goOnSpan_11 rfl ?_
    refine r_isub hX d_M_goOnSpan_13 ?_
    refine r_putI (i := 12) (f := 18) hX ci_12 (by decide) rfl rfl (fun G => rfl) (fun G => rfl) fl_M_236 hk1 d_M_goOnSpan_14 ?_
    refine r_aload_n (i := 0) hX d_M_goOnSpan_17 0 rfl rfl ?_
    refine r_aload_n (i := 0) hX d_M_goOnSpan_18 0 rfl rfl ?_
    refine r_getI (i := 12) (f := 18) hX ci_12 (by decide) rfl fl_M_236 (kI hk1) d_M_goOnSpan_19 ?_
    refine r_putI (i := 12) (f := 19) hX ci_12 (by decide) rfl rfl (fun G => rfl) (fun G => rfl) fl_M_239 (kI hk1) d_M_goOnSpan_22 ?_
    refine r_aload_n (i := 0) hX d_M_goOnSpan_25 0 rfl rfl ?_
    refine r_bipush (v := (7 : Int32)) hX d_M_goOnSpan_26 rfl ?_
    refine r_putI (i := 12) (f := 10) hX ci_12 (by decide) rfl rfl (fun G => rfl) (fun G => rfl) fl_M_181 (kI (kI hk1)) d_M_goOnSpan_28 ?_
    refine r_iload_n (i := 1) hX d_M_goOnSpan_31 1 rfl rfl ?_
    refine r_callS1 (As := [_]) hX hM mw_M_242 (T_M_isFigure _ _) rfl rfl ⟨Nat.le_refl _, Nat.le_refl _⟩ rfl rfl d_M_goOnSpan_32 ?_
    cases h; exact r_zret hX hR (zn_ok (z_M_isFigure _)) d_M_goOnSpan_35
theorem T_M_goOnSpan {l : Launch} {G : AG} (a0 : Nat) (x1 : Int32) (w : AW) {o : Int32 × AW} (h : F_M_goOnSpan a0 x1 w = some o) : Mt l G y_M_goOnSpan b_M_goOnSpan 2 (some (.boolean)) 2 45 0 0 [vr a0, vi x1] w (some (vi o.1)) o.2 := mt_of (by decide) (Nat.le_of_ble_eq_true rfl) (fun X hX hR hM hI => P_M_goOnSpan_0 hX hM hR _ _ _ h)
/-! RedSkyModel.mayBeMonth()Z -/
theorem d_M_mayBeMonth_0 : decode b_M_mayBeMonth 0 = .ok (.aload_n 0, 1) := by decide +kernel
theorem d_M_mayBeMonth_1 : decode b_M_mayBeMonth 1 = .ok (.getfield 230, 3) := by decide +kernel
theorem d_M_mayBeMonth_4 : decode b_M_mayBeMonth 4 = .ok (.iconst 4, 1) := by decide +kernel
theorem d_M_mayBeMonth_5 : decode b_M_mayBeMonth 5 = .ok (.if_icmp .ge (31), 3) := by decide +kernel
theorem d_M_mayBeMonth_8 : decode b_M_mayBeMonth 8 = .ok (.aload_n 0, 1) := by decide +kernel
theorem d_M_mayBeMonth_9 : decode b_M_mayBeMonth 9 = .ok (.getfield 216, 3) := by decide +kernel
theorem d_M_mayBeMonth_12 : decode b_M_mayBeMonth 12 = .ok (.bipush (13), 2) := by decide +kernel
theorem d_M_mayBeMonth_14 : decode b_M_mayBeMonth 14 = .ok (.if_icmp .ge (22), 3) := by decide +kernel
theorem d_M_mayBeMonth_17 : decode b_M_mayBeMonth 17 = .ok (.aload_n 0, 1) := by decide +kernel
theorem d_M_mayBeMonth_18 : decode b_M_mayBeMonth 18 = .ok (.getfield 216, 3) := by decide +kernel
theorem d_M_mayBeMonth_21 : decode b_M_mayBeMonth 21 = .ok (.ifCond .gt (11), 3) := by decide +kernel
theorem d_M_mayBeMonth_24 : decode b_M_mayBeMonth 24 = .ok (.aload_n 0, 1) := by decide +kernel
theorem d_M_mayBeMonth_25 : decode b_M_mayBeMonth 25 = .ok (.getfield 230, 3) := by decide +kernel
theorem d_M_mayBeMonth_28 : decode b_M_mayBeMonth 28 = .ok (.iconst 3, 1) := by decide +kernel
theorem d_M_mayBeMonth_29 : decode b_M_mayBeMonth 29 = .ok (.if_icmp .ge (7), 3) := by decide +kernel
theorem d_M_mayBeMonth_32 : decode b_M_mayBeMonth 32 = .ok (.iconst 1, 1) := by decide +kernel
theorem d_M_mayBeMonth_33 : decode b_M_mayBeMonth 33 = .ok (.goto (4), 3) := by decide +kernel
theorem d_M_mayBeMonth_36 : decode b_M_mayBeMonth 36 = .ok (.iconst 0, 1) := by decide +kernel
theorem d_M_mayBeMonth_37 : decode b_M_mayBeMonth 37 = .ok (.ireturn, 1) := by decide +kernel
def F_M_mayBeMonth (w : AW) (a0 : Nat) : Option (Int32) :=
  gd (wk w a0 == 13) <|
  if (4 : Int32) ≤ (wi w a0 13) then
    some (0 : Int32)
  else
    if (13 : Int32) ≤ (wi w a0 14) then
      some (0 : Int32)
    else
      if 0 < (wi w a0 14) then
        some (1 : Int32)
      else
        if (3 : Int32) ≤ (wi w a0 13) then
          some (0 : Int32)
        else
          some (1 : Int32)
theorem P_M_mayBeMonth_0 {X : AX} {l : Launch} {G : AG} {w : AW} (hX : XOK X b_M_mayBeMonth "RedSkyModel" 1) (hM : XM X l G { frames := 0, cells := 0, slots := 0, locals := 0 }) {o : Int32} (hR : XR X (some .boolean) 0 0 (some (vi o)) w) (a0 : Nat) (h : F_M_mayBeMonth w a0 = some o) : RJ X 1 0 0 0 [(0, vr a0)] [] w := by
  unfold F_M_mayBeMonth at h
  refine r_aload_n (i := 0) hX d_M_mayBeMonth_0 0 rfl rfl ?_
  obtain ⟨hk1, h⟩ := gd_e h
  refine r_getI (i := 12) (f := 13) hX ci_12 (by decide) rfl fl_M_230 hk1 d_M_mayBeMonth_1 ?_
  refine r_iconst (v := (4 : Int32)) hX d_M_mayBeMonth_4 rfl ?_
  refine r_icmp_ge hX d_M_mayBeMonth_5 rfl h (fun h => ?_) (fun h => ?_)
  · refine r_iconst (v := (0 : Int32)) hX d_M_mayBeMonth_36 rfl ?_
    cases h; exact r_zret hX hR rfl d_M_mayBeMonth_37
  · refine r_aload_n (i := 0) hX d_M_mayBeMonth_8 0 rfl rfl ?_
    refine r_getI (i := 12) (f := 14) hX ci_12 (by decide) rfl fl_M_216 hk1 d_M_mayBeMonth_9 ?_
    refine r_bipush (v := (13 : Int32)) hX d_M_mayBeMonth_12 rfl ?_
    refine r_icmp_ge hX d_M_mayBeMonth_14 rfl h (fun h => ?_) (fun h => ?_)
    · refine r_iconst (v := (0 : Int32)) hX d_M_mayBeMonth_36 rfl ?_
      cases h; exact r_zret hX hR rfl d_M_mayBeMonth_37
    · refine r_aload_n (i := 0) hX d_M_mayBeMonth_17 0 rfl rfl ?_
      refine r_getI (i := 12) (f := 14) hX ci_12 (by decide) rfl fl_M_216 hk1 d_M_mayBeMonth_18 ?_
      refine r_if_gt hX d_M_mayBeMonth_21 rfl h (fun h => ?_) (fun h => ?_)
      · refine r_iconst (v := (1 : Int32)) hX d_M_mayBeMonth_32 rfl ?_
        refine r_goto hX d_M_mayBeMonth_33 rfl ?_
        cases h; exact r_zret hX hR rfl d_M_mayBeMonth_37
      · refine r_aload_n (i := 0) hX d_M_mayBeMonth_24 0 rfl rfl ?_
        refine r_getI (i := 12) (f := 13) hX ci_12 (by decide) rfl fl_M_230 hk1 d_M_mayBeMonth_25 ?_
        refine r_iconst (v := (3 : Int32)) hX d_M_mayBeMonth_28 rfl ?_
        refine r_icmp_ge hX d_M_mayBeMonth_29 rfl h (fun h => ?_) (fun h => ?_)
        · refine r_iconst (v := (0 : Int32)) hX d_M_mayBeMonth_36 rfl ?_
          cases h; exact r_zret hX hR rfl d_M_mayBeMonth_37
        · refine r_iconst (v := (1 : Int32)) hX d_M_mayBeMonth_32 rfl ?_
          refine r_goto hX d_M_mayBeMonth_33 rfl ?_
          cases h; exact r_zret hX hR rfl d_M_mayBeMonth_37
theorem T_M_mayBeMonth {l : Launch} {G : AG} (w : AW) (a0 : Nat) {o : Int32} (h : F_M_mayBeMonth w a0 = some o) : Mt l G y_M_mayBeMonth b_M_mayBeMonth 1 (some (.boolean)) 0 0 0 0 [vr a0] w (some (vi o)) w := mt_of (by decide) (Nat.le_of_ble_eq_true rfl) (fun X hX hR hM hI => P_M_mayBeMonth_0 hX hM hR _ h)
/-! RedSkyModel.isMonth()Z -/
theorem d_M_isMonth_0 : decode b_M_isMonth 0 = .ok (.aload_n 0, 1) := by decide +kernel
theorem d_M_isMonth_1 : decode b_M_isMonth 1 = .ok (.getfield 230, 3) := by decide +kernel
theorem d_M_isMonth_4 : decode b_M_isMonth 4 = .ok (.ifCond .le (22), 3) := by decide +kernel
theorem d_M_isMonth_7 : decode b_M_isMonth 7 = .ok (.aload_n 0, 1) := by decide +kernel
theorem d_M_isMonth_8 : decode b_M_isMonth 8 = .ok (.getfield 216, 3) := by decide +kernel
theorem d_M_isMonth_11 : decode b_M_isMonth 11 = .ok (.i2l, 1) := by decide +kernel
theorem d_M_isMonth_12 : decode b_M_isMonth 12 = .ok (.lconst 1, 1) := by decide +kernel
theorem d_M_isMonth_13 : decode b_M_isMonth 13 = .ok (.ldc2_w 128, 3) := by decide +kernel
theorem d_M_isMonth_16 : decode b_M_isMonth 16 = .ok (.invokestatic 122, 3) := by decide +kernel
theorem d_M_isMonth_19 : decode b_M_isMonth 19 = .ok (.ifCond .eq (7), 3) := by decide +kernel
theorem d_M_isMonth_22 : decode b_M_isMonth 22 = .ok (.iconst 1, 1) := by decide +kernel
theorem d_M_isMonth_23 : decode b_M_isMonth 23 = .ok (.goto (4), 3) := by decide +kernel
theorem d_M_isMonth_26 : decode b_M_isMonth 26 = .ok (.iconst 0, 1) := by decide +kernel
theorem d_M_isMonth_27 : decode b_M_isMonth 27 = .ok (.ireturn, 1) := by decide +kernel
def F_M_isMonth (w : AW) (a0 : Nat) : Option (Int32) :=
  gd (wk w a0 == 13) <|
  if (wi w a0 13) ≤ 0 then
    some (0 : Int32)
  else
    if (F_M_in (Int32.toInt64 (wi w a0 14)) (1 : Int64) (12 : Int64)) = 0 then
      some (0 : Int32)
    else
      some (1 : Int32)
theorem P_M_isMonth_0 {X : AX} {l : Launch} {G : AG} {w : AW} (hX : XOK X b_M_isMonth "RedSkyModel" 1) (hM : XM X l G { frames := 1, cells := 0, slots := 0, locals := 25 }) {o : Int32} (hR : XR X (some .boolean) 0 0 (some (vi o)) w) (a0 : Nat) (h : F_M_isMonth w a0 = some o) : RJ X 1 0 0 0 [(0, vr a0)] [] w := by
  unfold F_M_isMonth at h
  refine r_aload_n (i := 0) hX d_M_isMonth_0 0 rfl rfl ?_
  obtain ⟨hk1, h⟩ := gd_e h
  refine r_getI (i := 12) (f := 13) hX ci_12 (by decide) rfl fl_M_230 hk1 d_M_isMonth_1 ?_
  refine r_if_le hX d_M_isMonth_4 rfl h (fun h => ?_) (fun h => ?_)
  · refine r_iconst (v := (0 : Int32)) hX d_M_isMonth_26 rfl ?_
    cases h; exact r_zret hX hR rfl d_M_isMonth_27
  · refine r_aload_n (i := 0) hX d_M_isMonth_7 0 rfl rfl ?_
    refine r_getI (i := 12) (f := 14) hX ci_12 (by decide) rfl fl_M_216 hk1 d_M_isMonth_8 ?_
    refine r_i2l hX d_M_isMonth_11 ?_
    refine r_lconst (v := (1 : Int64)) hX d_M_isMonth_12 rfl ?_
    refine r_ldc2 hX d_M_isMonth_13 cw_M_128 ?_
    refine r_callS1 (As := [_, _, _]) hX hM mw_M_122 (T_M_in _ _ _ _) rfl rfl ⟨Nat.le_refl _, Nat.le_refl _⟩ rfl rfl d_M_isMonth_16 ?_
    refine r_if_eq hX d_M_isMonth_19 rfl h (fun h => ?_) (fun h => ?_)
    · refine r_iconst (v := (0 : Int32)) hX d_M_isMonth_26 rfl ?_
      cases h; exact r_zret hX hR rfl d_M_isMonth_27
    · refine r_iconst (v := (1 : Int32)) hX d_M_isMonth_22 rfl ?_
      refine r_goto hX d_M_isMonth_23 rfl ?_
      cases h; exact r_zret hX hR rfl d_M_isMonth_27
theorem T_M_isMonth {l : Launch} {G : AG} (w : AW) (a0 : Nat) {o : Int32} (h : F_M_isMonth w a0 = some o) : Mt l G y_M_isMonth b_M_isMonth 1 (some (.boolean)) 1 25 0 0 [vr a0] w (some (vi o)) w := mt_of (by decide) (Nat.le_of_ble_eq_true rfl) (fun X hX hR hM hI => P_M_isMonth_0 hX hM hR _ h)
/-! RedSkyModel.goOnSeason(I)Z -/
theorem d_M_goOnSeason_0 : decode b_M_goOnSeason 0 = .ok (.aload_n 0, 1) := by decide +kernel
theorem d_M_goOnSeason_1 : decode b_M_goOnSeason 1 = .ok (.getfield 181, 3) := by decide +kernel
theorem d_M_goOnSeason_4 : decode b_M_goOnSeason 4 = .ok (.bipush (10), 2) := by decide +kernel
theorem d_M_goOnSeason_6 : decode b_M_goOnSeason 6 = .ok (.if_icmp .ne (17), 3) := by decide +kernel
theorem d_M_goOnSeason_9 : decode b_M_goOnSeason 9 = .ok (.iload_n 1, 1) := by decide +kernel
theorem d_M_goOnSeason_10 : decode b_M_goOnSeason 10 = .ok (.bipush (35), 2) := by decide +kernel
theorem d_M_goOnSeason_12 : decode b_M_goOnSeason 12 = .ok (.if_icmp .ne (11), 3) := by decide +kernel
theorem d_M_goOnSeason_15 : decode b_M_goOnSeason 15 = .ok (.aload_n 0, 1) := by decide +kernel
theorem d_M_goOnSeason_16 : decode b_M_goOnSeason 16 = .ok (.bipush (13), 2) := by decide +kernel
theorem d_M_goOnSeason_18 : decode b_M_goOnSeason 18 = .ok (.putfield 181, 3) := by decide +kernel
theorem d_M_goOnSeason_21 : decode b_M_goOnSeason 21 = .ok (.iconst 1, 1) := by decide +kernel
theorem d_M_goOnSeason_22 : decode b_M_goOnSeason 22 = .ok (.ireturn, 1) := by decide +kernel
theorem d_M_goOnSeason_23 : decode b_M_goOnSeason 23 = .ok (.aload_n 0, 1) := by decide +kernel
theorem d_M_goOnSeason_24 : decode b_M_goOnSeason 24 = .ok (.getfield 181, 3) := by decide +kernel
theorem d_M_goOnSeason_27 : decode b_M_goOnSeason 27 = .ok (.bipush (13), 2) := by decide +kernel
theorem d_M_goOnSeason_29 : decode b_M_goOnSeason 29 = .ok (.if_icmp .ne (29), 3) := by decide +kernel
theorem d_M_goOnSeason_32 : decode b_M_goOnSeason 32 = .ok (.aload_n 0, 1) := by decide +kernel
theorem d_M_goOnSeason_33 : decode b_M_goOnSeason 33 = .ok (.iload_n 1, 1) := by decide +kernel
theorem d_M_goOnSeason_34 : decode b_M_goOnSeason 34 = .ok (.bipush (48), 2) := by decide +kernel
theorem d_M_goOnSeason_36 : decode b_M_goOnSeason 36 = .ok (.isub, 1) := by decide +kernel
theorem d_M_goOnSeason_37 : decode b_M_goOnSeason 37 = .ok (.putfield 199, 3) := by decide +kernel
theorem d_M_goOnSeason_40 : decode b_M_goOnSeason 40 = .ok (.aload_n 0, 1) := by decide +kernel
theorem d_M_goOnSeason_41 : decode b_M_goOnSeason 41 = .ok (.bipush (14), 2) := by decide +kernel
theorem d_M_goOnSeason_43 : decode b_M_goOnSeason 43 = .ok (.putfield 181, 3) := by decide +kernel
theorem d_M_goOnSeason_46 : decode b_M_goOnSeason 46 = .ok (.iload_n 1, 1) := by decide +kernel
theorem d_M_goOnSeason_47 : decode b_M_goOnSeason 47 = .ok (.i2l, 1) := by decide +kernel
theorem d_M_goOnSeason_48 : decode b_M_goOnSeason 48 = .ok (.ldc2_w 219, 3) := by decide +kernel
theorem d_M_goOnSeason_51 : decode b_M_goOnSeason 51 = .ok (.ldc2_w 248, 3) := by decide +kernel
theorem d_M_goOnSeason_54 : decode b_M_goOnSeason 54 = .ok (.invokestatic 122, 3) := by decide +kernel
theorem d_M_goOnSeason_57 : decode b_M_goOnSeason 57 = .ok (.ireturn, 1) := by decide +kernel
theorem d_M_goOnSeason_58 : decode b_M_goOnSeason 58 = .ok (.aload_n 0, 1) := by decide +kernel
theorem d_M_goOnSeason_59 : decode b_M_goOnSeason 59 = .ok (.getfield 181, 3) := by decide +kernel
theorem d_M_goOnSeason_62 : decode b_M_goOnSeason 62 = .ok (.bipush (10), 2) := by decide +kernel
theorem d_M_goOnSeason_64 : decode b_M_goOnSeason 64 = .ok (.if_icmp .ne (19), 3) := by decide +kernel
theorem d_M_goOnSeason_67 : decode b_M_goOnSeason 67 = .ok (.aload_n 0, 1) := by decide +kernel
theorem d_M_goOnSeason_68 : decode b_M_goOnSeason 68 = .ok (.iconst 0, 1) := by decide +kernel
theorem d_M_goOnSeason_69 : decode b_M_goOnSeason 69 = .ok (.putfield 230, 3) := by decide +kernel
theorem d_M_goOnSeason_72 : decode b_M_goOnSeason 72 = .ok (.aload_n 0, 1) := by decide +kernel
theorem d_M_goOnSeason_73 : decode b_M_goOnSeason 73 = .ok (.iconst 0, 1) := by decide +kernel
theorem d_M_goOnSeason_74 : decode b_M_goOnSeason 74 = .ok (.putfield 216, 3) := by decide +kernel
theorem d_M_goOnSeason_77 : decode b_M_goOnSeason 77 = .ok (.aload_n 0, 1) := by decide +kernel
theorem d_M_goOnSeason_78 : decode b_M_goOnSeason 78 = .ok (.bipush (11), 2) := by decide +kernel
theorem d_M_goOnSeason_80 : decode b_M_goOnSeason 80 = .ok (.putfield 181, 3) := by decide +kernel
theorem d_M_goOnSeason_83 : decode b_M_goOnSeason 83 = .ok (.iload_n 1, 1) := by decide +kernel
theorem d_M_goOnSeason_84 : decode b_M_goOnSeason 84 = .ok (.invokestatic 242, 3) := by decide +kernel
theorem d_M_goOnSeason_87 : decode b_M_goOnSeason 87 = .ok (.ifCond .eq (34), 3) := by decide +kernel
theorem d_M_goOnSeason_90 : decode b_M_goOnSeason 90 = .ok (.aload_n 0, 1) := by decide +kernel
theorem d_M_goOnSeason_91 : decode b_M_goOnSeason 91 = .ok (.dup, 1) := by decide +kernel
theorem d_M_goOnSeason_92 : decode b_M_goOnSeason 92 = .ok (.getfield 230, 3) := by decide +kernel
theorem d_M_goOnSeason_95 : decode b_M_goOnSeason 95 = .ok (.iconst 1, 1) := by decide +kernel
theorem d_M_goOnSeason_96 : decode b_M_goOnSeason 96 = .ok (.iadd, 1) := by decide +kernel
theorem d_M_goOnSeason_97 : decode b_M_goOnSeason 97 = .ok (.putfield 230, 3) := by decide +kernel
theorem d_M_goOnSeason_100 : decode b_M_goOnSeason 100 = .ok (.aload_n 0, 1) := by decide +kernel
theorem d_M_goOnSeason_101 : decode b_M_goOnSeason 101 = .ok (.bipush (10), 2) := by decide +kernel
theorem d_M_goOnSeason_103 : decode b_M_goOnSeason 103 = .ok (.aload_n 0, 1) := by decide +kernel
theorem d_M_goOnSeason_104 : decode b_M_goOnSeason 104 = .ok (.getfield 216, 3) := by decide +kernel
theorem d_M_goOnSeason_107 : decode b_M_goOnSeason 107 = .ok (.imul, 1) := by decide +kernel
theorem d_M_goOnSeason_108 : decode b_M_goOnSeason 108 = .ok (.iload_n 1, 1) := by decide +kernel
theorem d_M_goOnSeason_109 : decode b_M_goOnSeason 109 = .ok (.iadd, 1) := by decide +kernel
theorem d_M_goOnSeason_110 : decode b_M_goOnSeason 110 = .ok (.bipush (48), 2) := by decide +kernel
theorem d_M_goOnSeason_112 : decode b_M_goOnSeason 112 = .ok (.isub, 1) := by decide +kernel
theorem d_M_goOnSeason_113 : decode b_M_goOnSeason 113 = .ok (.putfield 216, 3) := by decide +kernel
theorem d_M_goOnSeason_116 : decode b_M_goOnSeason 116 = .ok (.aload_n 0, 1) := by decide +kernel
theorem d_M_goOnSeason_117 : decode b_M_goOnSeason 117 = .ok (.invokevirtual 250, 3) := by decide +kernel
theorem d_M_goOnSeason_120 : decode b_M_goOnSeason 120 = .ok (.ireturn, 1) := by decide +kernel
theorem d_M_goOnSeason_121 : decode b_M_goOnSeason 121 = .ok (.aload_n 0, 1) := by decide +kernel
theorem d_M_goOnSeason_122 : decode b_M_goOnSeason 122 = .ok (.getfield 181, 3) := by decide +kernel
theorem d_M_goOnSeason_125 : decode b_M_goOnSeason 125 = .ok (.bipush (11), 2) := by decide +kernel
theorem d_M_goOnSeason_127 : decode b_M_goOnSeason 127 = .ok (.if_icmp .ne (42), 3) := by decide +kernel
theorem d_M_goOnSeason_130 : decode b_M_goOnSeason 130 = .ok (.iload_n 1, 1) := by decide +kernel
theorem d_M_goOnSeason_131 : decode b_M_goOnSeason 131 = .ok (.bipush (45), 2) := by decide +kernel
theorem d_M_goOnSeason_133 : decode b_M_goOnSeason 133 = .ok (.if_icmp .ne (36), 3) := by decide +kernel
theorem d_M_goOnSeason_136 : decode b_M_goOnSeason 136 = .ok (.aload_n 0, 1) := by decide +kernel
theorem d_M_goOnSeason_137 : decode b_M_goOnSeason 137 = .ok (.invokevirtual 254, 3) := by decide +kernel
theorem d_M_goOnSeason_140 : decode b_M_goOnSeason 140 = .ok (.ifCond .eq (29), 3) := by decide +kernel
theorem d_M_goOnSeason_143 : decode b_M_goOnSeason 143 = .ok (.aload_n 0, 1) := by decide +kernel
theorem d_M_goOnSeason_144 : decode b_M_goOnSeason 144 = .ok (.aload_n 0, 1) := by decide +kernel
theorem d_M_goOnSeason_145 : decode b_M_goOnSeason 145 = .ok (.getfield 216, 3) := by decide +kernel
theorem d_M_goOnSeason_148 : decode b_M_goOnSeason 148 = .ok (.putfield 193, 3) := by decide +kernel
theorem d_M_goOnSeason_151 : decode b_M_goOnSeason 151 = .ok (.aload_n 0, 1) := by decide +kernel
theorem d_M_goOnSeason_152 : decode b_M_goOnSeason 152 = .ok (.iconst 0, 1) := by decide +kernel
theorem d_M_goOnSeason_153 : decode b_M_goOnSeason 153 = .ok (.putfield 230, 3) := by decide +kernel
theorem d_M_goOnSeason_156 : decode b_M_goOnSeason 156 = .ok (.aload_n 0, 1) := by decide +kernel
theorem d_M_goOnSeason_157 : decode b_M_goOnSeason 157 = .ok (.iconst 0, 1) := by decide +kernel
theorem d_M_goOnSeason_158 : decode b_M_goOnSeason 158 = .ok (.putfield 216, 3) := by decide +kernel
theorem d_M_goOnSeason_161 : decode b_M_goOnSeason 161 = .ok (.aload_n 0, 1) := by decide +kernel
theorem d_M_goOnSeason_162 : decode b_M_goOnSeason 162 = .ok (.bipush (12), 2) := by decide +kernel
theorem d_M_goOnSeason_164 : decode b_M_goOnSeason 164 = .ok (.putfield 181, 3) := by decide +kernel
theorem d_M_goOnSeason_167 : decode b_M_goOnSeason 167 = .ok (.iconst 1, 1) := by decide +kernel
theorem d_M_goOnSeason_168 : decode b_M_goOnSeason 168 = .ok (.ireturn, 1) := by decide +kernel
theorem d_M_goOnSeason_169 : decode b_M_goOnSeason 169 = .ok (.iconst 0, 1) := by decide +kernel
theorem d_M_goOnSeason_170 : decode b_M_goOnSeason 170 = .ok (.ireturn, 1) := by decide +kernel
def F_M_goOnSeason_83 (a0 : Nat) (x1 : Int32) (w : AW) : Option (Int32 × AW) :=
  if (F_M_isFigure x1) = 0 then
    gd (wk w a0 == 13) <|
    if (wi w a0 10) = (11 : Int32) then
      if x1 = (45 : Int32) then
        (F_M_isMonth w a0).bind fun r2 =>
        if r2 = 0 then
          some ((0 : Int32), w)
        else
          let w4 : AW := upI w a0 21 (wi w a0 14)
          let w5 : AW := upI w4 a0 13 (0 : Int32)
          let w6 : AW := upI w5 a0 14 (0 : Int32)
          let w7 : AW := upI w6 a0 10 (12 : Int32)
          some ((1 : Int32), w7)
      else
        some ((0 : Int32), w)
    else
      some ((0 : Int32), w)
  else
    gd (wk w a0 == 13) <|
    let w9 : AW := upI w a0 13 ((wi w a0 13) + (1 : Int32))
    let w10 : AW := upI w9 a0 14 ((((10 : Int32) * (wi w9 a0 14)) + x1) - (48 : Int32))
    (F_M_mayBeMonth w10 a0).bind fun r11 =>
    gd (r11 == 0 || r11 == 1) <|
    some (r11, w10)
theorem P_M_goOnSeason_83 {X : AX} {l : Launch} {G : AG} (hX : XOK X b_M_goOnSeason "RedSkyModel" 2) (hM : XM X l G { frames := 2, cells := 0, slots := 0, locals := 45 }) {o : Int32 × AW} (hR : XR X (some .boolean) 0 0 (some (vi o.1)) o.2) (a0 : Nat) (x1 : Int32) (w : AW) (h : F_M_goOnSeason_83 a0 x1 w = some o) : RJ X 2 0 0 83 [(0, vr a0), (1, vi x1)] [] w := by
  unfold F_M_goOnSeason_83 at h
  refine r_iload_n (i := 1) hX d_M_goOnSeason_83 1 rfl rfl ?_
  refine r_callS1 (As := [_]) hX hM mw_M_242 (T_M_isFigure _ _) rfl rfl ⟨Nat.le_refl _, Nat.le_refl _⟩ rfl rfl d_M_goOnSeason_84 ?_
  refine r_if_eq hX d_M_goOnSeason_87 rfl h (fun h => ?_) (fun h => ?_)
  · refine r_aload_n (i := 0) hX d_M_goOnSeason_121 0 rfl rfl ?_
    obtain ⟨hk1, h⟩ := gd_e h
    refine r_getI (i := 12) (f := 10) hX ci_12 (by decide) rfl fl_M_181 hk1 d_M_goOnSeason_122 ?_
    refine r_bipush (v := (11 : Int32)) hX d_M_goOnSeason_125 rfl ?_
    refine r_icmp_ne hX d_M_goOnSeason_127 rfl h (fun h => ?_) (fun h => ?_)
    · refine r_iconst (v := (0 : Int32)) hX d_M_goOnSeason_169 rfl ?_
      cases h; exact r_zret hX hR rfl d_M_goOnSeason_170
    · refine r_iload_n (i := 1) hX d_M_goOnSeason_130 1 rfl rfl ?_
      refine r_bipush (v := (45 : Int32)) hX d_M_goOnSeason_131 rfl ?_
      refine r_icmp_ne hX d_M_goOnSeason_133 rfl h (fun h => ?_) (fun h => ?_)
      · refine r_iconst (v := (0 : Int32)) hX d_M_goOnSeason_169 rfl ?_
        cases h; exact r_zret hX hR rfl d_M_goOnSeason_170
      · refine r_aload_n (i := 0) hX d_M_goOnSeason_136 0 rfl rfl ?_
        obtain ⟨r2, hr3, h⟩ := bd_e h
        refine r_callV1 (As := []) hX hM mw_M_254 (T_M_isMonth _ _ hr3) (rc_of ci_12 hk1) rfl rfl ⟨Nat.le_refl _, Nat.le_refl _⟩ rfl rfl d_M_goOnSeason_137 ?_
        refine r_if_eq hX d_M_goOnSeason_140 rfl h (fun h => ?_) (fun h => ?_)
        · refine r_iconst (v := (0 : Int32)) hX d_M_goOnSeason_169 rfl ?_
          cases h; exact r_zret hX hR rfl d_M_goOnSeason_170
        · refine r_aload_n (i := 0) hX d_M_goOnSeason_143 0 rfl rfl ?_
          refine r_aload_n (i := 0) hX d_M_goOnSeason_144 0 rfl rfl ?_
          refine r_getI (i := 12) (f := 14) hX ci_12 (by decide) rfl fl_M_216 hk1 d_M_goOnSeason_145 ?_
          refine r_putI (i := 12) (f := 21) hX ci_12 (by decide) rfl rfl (fun G => rfl) (fun G => rfl) fl_M_193 hk1 d_M_goOnSeason_148 ?_
          refine r_aload_n (i := 0) hX d_M_goOnSeason_151 0 rfl rfl ?_
          refine r_iconst (v := (0 : Int32)) hX d_M_goOnSeason_152 rfl ?_
          refine r_putI (i := 12) (f := 13) hX ci_12 (by decide) rfl rfl (fun G => rfl) (fun G => rfl) fl_M_230 (kI hk1) d_M_goOnSeason_153 ?_
          refine r_aload_n (i := 0) hX d_M_goOnSeason_156 0 rfl rfl ?_
          refine r_iconst (v := (0 : Int32)) hX d_M_goOnSeason_157 rfl ?_
          refine r_putI (i := 12) (f := 14) hX ci_12 (by decide) rfl rfl (fun G => rfl) (fun G => rfl) fl_M_216 (kI (kI hk1)) d_M_goOnSeason_158 ?_
          refine r_aload_n (i := 0) hX d_M_goOnSeason_161 0 rfl rfl ?_
          refine r_bipush (v := (12 : Int32)) hX d_M_goOnSeason_162 rfl ?_
          refine r_putI (i := 12) (f := 10) hX ci_12 (by decide) rfl rfl (fun G => rfl) (fun G => rfl) fl_M_181 (kI (kI (kI hk1))) d_M_goOnSeason_164 ?_
          refine r_iconst (v := (1 : Int32)) hX d_M_goOnSeason_167 rfl ?_
          cases h; exact r_zret hX hR rfl d_M_goOnSeason_168
  · refine r_aload_n (i := 0) hX d_M_goOnSeason_90 0 rfl rfl ?_
    refine r_dup hX d_M_goOnSeason_91 rfl ?_
    obtain ⟨hk8, h⟩ := gd_e h
    refine r_getI (i := 12) (f := 13) hX ci_12 (by decide) rfl fl_M_230 hk8 d_M_goOnSeason_92 ?_
    refine r_iconst (v := (1 : Int32)) hX d_M_goOnSeason_95 rfl ?_
    refine r_iadd hX d_M_goOnSeason_96 ?_
    refine r_putI (i := 12) (f := 13) hX ci_12 (by decide) rfl rfl (fun G => rfl) (fun G => rfl) fl_M_230 hk8 d_M_goOnSeason_97 ?_
    refine r_aload_n (i := 0) hX d_M_goOnSeason_100 0 rfl rfl ?_
    refine r_bipush (v := (10 : Int32)) hX d_M_goOnSeason_101 rfl ?_
    refine r_aload_n (i := 0) hX d_M_goOnSeason_103 0 rfl rfl ?_
    refine r_getI (i := 12) (f := 14) hX ci_12 (by decide) rfl fl_M_216 (kI hk8) d_M_goOnSeason_104 ?_
    refine r_imul hX d_M_goOnSeason_107 ?_
    refine r_iload_n (i := 1) hX d_M_goOnSeason_108 1 rfl rfl ?_
    refine r_iadd hX d_M_goOnSeason_109 ?_
    refine r_bipush (v := (48 : Int32)) hX d_M_goOnSeason_110 rfl ?_
    refine r_isub hX d_M_goOnSeason_112 ?_
    refine r_putI (i := 12) (f := 14) hX ci_12 (by decide) rfl rfl (fun G => rfl) (fun G => rfl) fl_M_216 (kI hk8) d_M_goOnSeason_113 ?_
    refine r_aload_n (i := 0) hX d_M_goOnSeason_116 0 rfl rfl ?_
    obtain ⟨r11, hr12, h⟩ := bd_e h
    refine r_callV1 (As := []) hX hM mw_M_250 (T_M_mayBeMonth _ _ hr12) (rc_of ci_12 (kI (kI hk8))) rfl rfl ⟨Nat.le_refl _, Nat.le_refl _⟩ rfl rfl d_M_goOnSeason_117 ?_
    obtain ⟨hg13, h⟩ := gd_e h
    cases h; exact r_zret hX hR (zn_ok hg13) d_M_goOnSeason_120
def F_M_goOnSeason_23 (a0 : Nat) (x1 : Int32) (w : AW) : Option (Int32 × AW) :=
  gd (wk w a0 == 13) <|
  if (wi w a0 10) = (13 : Int32) then
    let w5 : AW := upI w a0 23 (x1 - (48 : Int32))
    let w6 : AW := upI w5 a0 10 (14 : Int32)
    some ((F_M_in (Int32.toInt64 x1) (48 : Int64) (55 : Int64)), w6)
  else
    if (wi w a0 10) = (10 : Int32) then
      let w2 : AW := upI w a0 13 (0 : Int32)
      let w3 : AW := upI w2 a0 14 (0 : Int32)
      let w4 : AW := upI w3 a0 10 (11 : Int32)
      F_M_goOnSeason_83 a0 x1 w4
    else
      F_M_goOnSeason_83 a0 x1 w
theorem P_M_goOnSeason_23 {X : AX} {l : Launch} {G : AG} (hX : XOK X b_M_goOnSeason "RedSkyModel" 2) (hM : XM X l G { frames := 2, cells := 0, slots := 0, locals := 45 }) {o : Int32 × AW} (hR : XR X (some .boolean) 0 0 (some (vi o.1)) o.2) (a0 : Nat) (x1 : Int32) (w : AW) (h : F_M_goOnSeason_23 a0 x1 w = some o) : RJ X 2 0 0 23 [(0, vr a0), (1, vi x1)] [] w := by
  unfold F_M_goOnSeason_23 at h
  refine r_aload_n (i := 0) hX d_M_goOnSeason_23 0 rfl rfl ?_
  obtain ⟨hk1, h⟩ := gd_e h
  refine r_getI (i := 12) (f := 10) hX ci_12 (by decide) rfl fl_M_181 hk1 d_M_goOnSeason_24 ?_
  refine r_bipush (v := (13 : Int32)) hX d_M_goOnSeason_27 rfl ?_
  refine r_icmp_ne hX d_M_goOnSeason_29 rfl h (fun h => ?_) (fun h => ?_)
  · refine r_aload_n (i := 0) hX d_M_goOnSeason_58 0 rfl rfl ?_
    refine r_getI (i := 12) (f := 10) hX ci_12 (by decide) rfl fl_M_181 hk1 d_M_goOnSeason_59 ?_
    refine r_bipush (v := (10 : Int32)) hX d_M_goOnSeason_62 rfl ?_
    refine r_icmp_ne hX d_M_goOnSeason_64 rfl h (fun h => ?_) (fun h => ?_)
    · exact rj_sub [0, 1] rfl (P_M_goOnSeason_83 hX hM hR _ _ _ h)
    · refine r_aload_n (i := 0) hX d_M_goOnSeason_67 0 rfl rfl ?_
      refine r_iconst (v := (0 : Int32)) hX d_M_goOnSeason_68 rfl ?_
      refine r_putI (i := 12) (f := 13) hX ci_12 (by decide) rfl rfl (fun G => rfl) (fun G => rfl) fl_M_230 hk1 d_M_goOnSeason_69 ?_
      refine r_aload_n (i := 0) hX d_M_goOnSeason_72 0 rfl rfl ?_
      refine r_iconst (v := (0 : Int32)) hX d_M_goOnSeason_73 rfl ?_
      refine r_putI (i := 12) (f := 14) hX ci_12 (by decide) rfl rfl (fun G => rfl) (fun G => rfl) fl_M_216 (kI hk1) d_M_goOnSeason_74 ?_
      refine r_aload_n (i := 0) hX d_M_goOnSeason_77 0 rfl rfl ?_
      refine r_bipush (v := (11 : Int32)) hX d_M_goOnSeason_78 rfl ?_
      refine r_putI (i := 12) (f := 10) hX ci_12 (by decide) rfl rfl (fun G => rfl) (fun G => rfl) fl_M_181 (kI (kI hk1)) d_M_goOnSeason_80 ?_
      exact rj_sub [0, 1] rfl (P_M_goOnSeason_83 hX hM hR _ _ _ h)
  · refine r_aload_n (i := 0) hX d_M_goOnSeason_32 0 rfl rfl ?_
    refine r_iload_n (i := 1) hX d_M_goOnSeason_33 1 rfl rfl ?_
    refine r_bipush (v := (48 : Int32)) hX d_M_goOnSeason_34 rfl ?_
    refine r_isub hX d_M_goOnSeason_36 ?_
    refine r_putI (i := 12) (f := 23) hX ci_12 (by decide) rfl rfl (fun G => rfl) (fun G => rfl) fl_M_199 hk1 d_M_goOnSeason_37 ?_
    refine r_aload_n (i := 0) hX d_M_goOnSeason_40 0 rfl rfl ?_
    refine r_bipush (v := (14 : Int32)) hX d_M_goOnSeason_41 rfl ?_
    refine r_putI (i := 12) (f := 10) hX ci_12 (by decide) rfl rfl (fun G => rfl) (fun G => rfl) fl_M_181 (kI hk1) d_M_goOnSeason_43 ?_
    refine r_iload_n (i := 1) hX d_M_goOnSeason_46 1 rfl rfl ?_
    refine r_i2l hX d_M_goOnSeason_47 ?_
    refine r_ldc2 hX d_M_goOnSeason_48 cw_M_219 ?_
    refine r_ldc2 hX d_M_goOnSeason_51 cw_M_248 ?_
    refine r_callS1 (As := [_, _, _]) hX hM mw_M_122 (T_M_in _ _ _ _) rfl rfl ⟨Nat.le_refl _, Nat.le_refl _⟩ rfl rfl d_M_goOnSeason_54 ?_
    cases h; exact r_zret hX hR (zn_ok (z_M_in _ _ _)) d_M_goOnSeason_57
def F_M_goOnSeason (a0 : Nat) (x1 : Int32) (w : AW) : Option (Int32 × AW) :=
  gd (wk w a0 == 13) <|
  if (wi w a0 10) = (10 : Int32) then
    if x1 = (35 : Int32) then
      let w2 : AW := upI w a0 10 (13 : Int32)
      some ((1 : Int32), w2)
    else
      F_M_goOnSeason_23 a0 x1 w
  else
    F_M_goOnSeason_23 a0 x1 w
theorem P_M_goOnSeason_0 {X : AX} {l : Launch} {G : AG} (hX : XOK X b_M_goOnSeason "RedSkyModel" 2) (hM : XM X l G { frames := 2, cells := 0, slots := 0, locals := 45 }) {o : Int32 × AW} (hR : XR X (some .boolean) 0 0 (some (vi o.1)) o.2) (a0 : Nat) (x1 : Int32) (w : AW) (h : F_M_goOnSeason a0 x1 w = some o) : RJ X 2 0 0 0 [(0, vr a0), (1, vi x1)] [] w := by
  unfold F_M_goOnSeason at h
  refine r_aload_n (i := 0) hX d_M_goOnSeason_0 0 rfl rfl ?_
  obtain ⟨hk1, h⟩ := gd_e h
  refine r_getI (i := 12) (f := 10) hX ci_12 (by decide) rfl fl_M_181 hk1 d_M_goOnSeason_1 ?_
  refine r_bipush (v := (10 : Int32)) hX d_M_goOnSeason_4 rfl ?_
  refine r_icmp_ne hX d_M_goOnSeason_6 rfl h (fun h => ?_) (fun h => ?_)
  · exact rj_sub [0, 1] rfl (P_M_goOnSeason_23 hX hM hR _ _ _ h)
  · refine r_iload_n (i := 1) hX d_M_goOnSeason_9 1 rfl rfl ?_
    refine r_bipush (v := (35 : Int32)) hX d_M_goOnSeason_10 rfl ?_
    refine r_icmp_ne hX d_M_goOnSeason_12 rfl h (fun h => ?_) (fun h => ?_)
    · exact rj_sub [0, 1] rfl (P_M_goOnSeason_23 hX hM hR _ _ _ h)
    · refine r_aload_n (i := 0) hX d_M_goOnSeason_15 0 rfl rfl ?_
      refine r_bipush (v := (13 : Int32)) hX d_M_goOnSeason_16 rfl ?_
      refine r_putI (i := 12) (f := 10) hX ci_12 (by decide) rfl rfl (fun G => rfl) (fun G => rfl) fl_M_181 hk1 d_M_goOnSeason_18 ?_
      refine r_iconst (v := (1 : Int32)) hX d_M_goOnSeason_21 rfl ?_
      cases h; exact r_zret hX hR rfl d_M_goOnSeason_22
theorem T_M_goOnSeason {l : Launch} {G : AG} (a0 : Nat) (x1 : Int32) (w : AW) {o : Int32 × AW} (h : F_M_goOnSeason a0 x1 w = some o) : Mt l G y_M_goOnSeason b_M_goOnSeason 2 (some (.boolean)) 2 45 0 0 [vr a0, vi x1] w (some (vi o.1)) o.2 := mt_of (by decide) (Nat.le_of_ble_eq_true rfl) (fun X hX hR hM hI => P_M_goOnSeason_0 hX hM hR _ _ _ h)
/-! RedSkyModel.goOn(I)Z -/
theorem d_M_goOn_0 : decode b_M_goOn 0 = .ok (.aload_n 0, 1) := by decide +kernel
theorem d_M_goOn_1 : decode b_M_goOn 1 = .ok (.getfield 181, 3) := by decide +kernel
theorem d_M_goOn_4 : decode b_M_goOn 4 = .ok (.tableswitch (308) 0 13 #[72, 78, 132, 218, 241, 290, 296, 296, 296, 296, 302, 302, 302, 302], 72) := by decide +kernel
theorem d_M_goOn_76 : decode b_M_goOn 76 = .ok (.aload_n 0, 1) := by decide +kernel
theorem d_M_goOn_77 : decode b_M_goOn 77 = .ok (.iload_n 1, 1) := by decide +kernel
theorem d_M_goOn_78 : decode b_M_goOn 78 = .ok (.invokevirtual 257, 3) := by decide +kernel
theorem d_M_goOn_81 : decode b_M_goOn 81 = .ok (.ireturn, 1) := by decide +kernel
theorem d_M_goOn_82 : decode b_M_goOn 82 = .ok (.aload_n 0, 1) := by decide +kernel
theorem d_M_goOn_83 : decode b_M_goOn 83 = .ok (.iload_n 1, 1) := by decide +kernel
theorem d_M_goOn_84 : decode b_M_goOn 84 = .ok (.bipush (60), 2) := by decide +kernel
theorem d_M_goOn_86 : decode b_M_goOn 86 = .ok (.if_icmp .ne (7), 3) := by decide +kernel
theorem d_M_goOn_89 : decode b_M_goOn 89 = .ok (.iconst 0, 1) := by decide +kernel
theorem d_M_goOn_90 : decode b_M_goOn 90 = .ok (.goto (14), 3) := by decide +kernel
theorem d_M_goOn_93 : decode b_M_goOn 93 = .ok (.iload_n 1, 1) := by decide +kernel
theorem d_M_goOn_94 : decode b_M_goOn 94 = .ok (.bipush (61), 2) := by decide +kernel
theorem d_M_goOn_96 : decode b_M_goOn 96 = .ok (.if_icmp .ne (7), 3) := by decide +kernel
theorem d_M_goOn_99 : decode b_M_goOn 99 = .ok (.iconst 1, 1) := by decide +kernel
theorem d_M_goOn_100 : decode b_M_goOn 100 = .ok (.goto (4), 3) := by decide +kernel
theorem d_M_goOn_103 : decode b_M_goOn 103 = .ok (.iconst 2, 1) := by decide +kernel
theorem d_M_goOn_104 : decode b_M_goOn 104 = .ok (.putfield 209, 3) := by decide +kernel
theorem d_M_goOn_107 : decode b_M_goOn 107 = .ok (.aload_n 0, 1) := by decide +kernel
theorem d_M_goOn_108 : decode b_M_goOn 108 = .ok (.iconst 2, 1) := by decide +kernel
theorem d_M_goOn_109 : decode b_M_goOn 109 = .ok (.putfield 181, 3) := by decide +kernel
theorem d_M_goOn_112 : decode b_M_goOn 112 = .ok (.iload_n 1, 1) := by decide +kernel
theorem d_M_goOn_113 : decode b_M_goOn 113 = .ok (.bipush (60), 2) := by decide +kernel
theorem d_M_goOn_115 : decode b_M_goOn 115 = .ok (.if_icmp .eq (15), 3) := by decide +kernel
theorem d_M_goOn_118 : decode b_M_goOn 118 = .ok (.iload_n 1, 1) := by decide +kernel
theorem d_M_goOn_119 : decode b_M_goOn 119 = .ok (.bipush (61), 2) := by decide +kernel
theorem d_M_goOn_121 : decode b_M_goOn 121 = .ok (.if_icmp .eq (9), 3) := by decide +kernel
theorem d_M_goOn_124 : decode b_M_goOn 124 = .ok (.iload_n 1, 1) := by decide +kernel
theorem d_M_goOn_125 : decode b_M_goOn 125 = .ok (.bipush (62), 2) := by decide +kernel
theorem d_M_goOn_127 : decode b_M_goOn 127 = .ok (.if_icmp .ne (7), 3) := by decide +kernel
theorem d_M_goOn_130 : decode b_M_goOn 130 = .ok (.iconst 1, 1) := by decide +kernel
theorem d_M_goOn_131 : decode b_M_goOn 131 = .ok (.goto (4), 3) := by decide +kernel
theorem d_M_goOn_134 : decode b_M_goOn 134 = .ok (.iconst 0, 1) := by decide +kernel
theorem d_M_goOn_135 : decode b_M_goOn 135 = .ok (.ireturn, 1) := by decide +kernel
theorem d_M_goOn_136 : decode b_M_goOn 136 = .ok (.aload_n 0, 1) := by decide +kernel
theorem d_M_goOn_137 : decode b_M_goOn 137 = .ok (.iload_n 1, 1) := by decide +kernel
theorem d_M_goOn_138 : decode b_M_goOn 138 = .ok (.bipush (45), 2) := by decide +kernel
theorem d_M_goOn_140 : decode b_M_goOn 140 = .ok (.if_icmp .ne (7), 3) := by decide +kernel
theorem d_M_goOn_143 : decode b_M_goOn 143 = .ok (.iconst 1, 1) := by decide +kernel
theorem d_M_goOn_144 : decode b_M_goOn 144 = .ok (.goto (4), 3) := by decide +kernel
theorem d_M_goOn_147 : decode b_M_goOn 147 = .ok (.iconst 0, 1) := by decide +kernel
theorem d_M_goOn_148 : decode b_M_goOn 148 = .ok (.putfield 212, 3) := by decide +kernel
theorem d_M_goOn_151 : decode b_M_goOn 151 = .ok (.aload_n 0, 1) := by decide +kernel
theorem d_M_goOn_152 : decode b_M_goOn 152 = .ok (.aload_n 0, 1) := by decide +kernel
theorem d_M_goOn_153 : decode b_M_goOn 153 = .ok (.getfield 212, 3) := by decide +kernel
theorem d_M_goOn_156 : decode b_M_goOn 156 = .ok (.ifCond .eq (7), 3) := by decide +kernel
theorem d_M_goOn_159 : decode b_M_goOn 159 = .ok (.iconst 0, 1) := by decide +kernel
theorem d_M_goOn_160 : decode b_M_goOn 160 = .ok (.goto (4), 3) := by decide +kernel
theorem d_M_goOn_163 : decode b_M_goOn 163 = .ok (.iconst 1, 1) := by decide +kernel
theorem d_M_goOn_164 : decode b_M_goOn 164 = .ok (.putfield 230, 3) := by decide +kernel
theorem d_M_goOn_167 : decode b_M_goOn 167 = .ok (.aload_n 0, 1) := by decide +kernel
theorem d_M_goOn_168 : decode b_M_goOn 168 = .ok (.aload_n 0, 1) := by decide +kernel
theorem d_M_goOn_169 : decode b_M_goOn 169 = .ok (.getfield 212, 3) := by decide +kernel
theorem d_M_goOn_172 : decode b_M_goOn 172 = .ok (.ifCond .eq (7), 3) := by decide +kernel
theorem d_M_goOn_175 : decode b_M_goOn 175 = .ok (.iconst 0, 1) := by decide +kernel
theorem d_M_goOn_176 : decode b_M_goOn 176 = .ok (.goto (7), 3) := by decide +kernel
theorem d_M_goOn_179 : decode b_M_goOn 179 = .ok (.iload_n 1, 1) := by decide +kernel
theorem d_M_goOn_180 : decode b_M_goOn 180 = .ok (.bipush (48), 2) := by decide +kernel
theorem d_M_goOn_182 : decode b_M_goOn 182 = .ok (.isub, 1) := by decide +kernel
theorem d_M_goOn_183 : decode b_M_goOn 183 = .ok (.putfield 216, 3) := by decide +kernel
theorem d_M_goOn_186 : decode b_M_goOn 186 = .ok (.aload_n 0, 1) := by decide +kernel
theorem d_M_goOn_187 : decode b_M_goOn 187 = .ok (.aload_n 0, 1) := by decide +kernel
theorem d_M_goOn_188 : decode b_M_goOn 188 = .ok (.getfield 212, 3) := by decide +kernel
theorem d_M_goOn_191 : decode b_M_goOn 191 = .ok (.ifCond .eq (7), 3) := by decide +kernel
theorem d_M_goOn_194 : decode b_M_goOn 194 = .ok (.iconst 3, 1) := by decide +kernel
theorem d_M_goOn_195 : decode b_M_goOn 195 = .ok (.goto (4), 3) := by decide +kernel
theorem d_M_goOn_198 : decode b_M_goOn 198 = .ok (.iconst 4, 1) := by decide +kernel
theorem d_M_goOn_199 : decode b_M_goOn 199 = .ok (.putfield 181, 3) := by decide +kernel
theorem d_M_goOn_202 : decode b_M_goOn 202 = .ok (.aload_n 0, 1) := by decide +kernel
theorem d_M_goOn_203 : decode b_M_goOn 203 = .ok (.getfield 212, 3) := by decide +kernel
theorem d_M_goOn_206 : decode b_M_goOn 206 = .ok (.ifCond .ne (10), 3) := by decide +kernel
theorem d_M_goOn_209 : decode b_M_goOn 209 = .ok (.iload_n 1, 1) := by decide +kernel
theorem d_M_goOn_210 : decode b_M_goOn 210 = .ok (.invokestatic 242, 3) := by decide +kernel
theorem d_M_goOn_213 : decode b_M_goOn 213 = .ok (.ifCond .eq (7), 3) := by decide +kernel
theorem d_M_goOn_216 : decode b_M_goOn 216 = .ok (.iconst 1, 1) := by decide +kernel
theorem d_M_goOn_217 : decode b_M_goOn 217 = .ok (.goto (4), 3) := by decide +kernel
theorem d_M_goOn_220 : decode b_M_goOn 220 = .ok (.iconst 0, 1) := by decide +kernel
theorem d_M_goOn_221 : decode b_M_goOn 221 = .ok (.ireturn, 1) := by decide +kernel
theorem d_M_goOn_222 : decode b_M_goOn 222 = .ok (.aload_n 0, 1) := by decide +kernel
theorem d_M_goOn_223 : decode b_M_goOn 223 = .ok (.iconst 1, 1) := by decide +kernel
theorem d_M_goOn_224 : decode b_M_goOn 224 = .ok (.putfield 230, 3) := by decide +kernel
theorem d_M_goOn_227 : decode b_M_goOn 227 = .ok (.aload_n 0, 1) := by decide +kernel
theorem d_M_goOn_228 : decode b_M_goOn 228 = .ok (.iload_n 1, 1) := by decide +kernel
theorem d_M_goOn_229 : decode b_M_goOn 229 = .ok (.bipush (48), 2) := by decide +kernel
theorem d_M_goOn_231 : decode b_M_goOn 231 = .ok (.isub, 1) := by decide +kernel
theorem d_M_goOn_232 : decode b_M_goOn 232 = .ok (.putfield 216, 3) := by decide +kernel
theorem d_M_goOn_235 : decode b_M_goOn 235 = .ok (.aload_n 0, 1) := by decide +kernel
theorem d_M_goOn_236 : decode b_M_goOn 236 = .ok (.iconst 4, 1) := by decide +kernel
theorem d_M_goOn_237 : decode b_M_goOn 237 = .ok (.putfield 181, 3) := by decide +kernel
theorem d_M_goOn_240 : decode b_M_goOn 240 = .ok (.iload_n 1, 1) := by decide +kernel
theorem d_M_goOn_241 : decode b_M_goOn 241 = .ok (.invokestatic 242, 3) := by decide +kernel
theorem d_M_goOn_244 : decode b_M_goOn 244 = .ok (.ireturn, 1) := by decide +kernel
theorem d_M_goOn_245 : decode b_M_goOn 245 = .ok (.iload_n 1, 1) := by decide +kernel
theorem d_M_goOn_246 : decode b_M_goOn 246 = .ok (.invokestatic 242, 3) := by decide +kernel
theorem d_M_goOn_249 : decode b_M_goOn 249 = .ok (.ifCond .eq (39), 3) := by decide +kernel
theorem d_M_goOn_252 : decode b_M_goOn 252 = .ok (.aload_n 0, 1) := by decide +kernel
theorem d_M_goOn_253 : decode b_M_goOn 253 = .ok (.getfield 230, 3) := by decide +kernel
theorem d_M_goOn_256 : decode b_M_goOn 256 = .ok (.iconst 3, 1) := by decide +kernel
theorem d_M_goOn_257 : decode b_M_goOn 257 = .ok (.if_icmp .ge (31), 3) := by decide +kernel
theorem d_M_goOn_260 : decode b_M_goOn 260 = .ok (.aload_n 0, 1) := by decide +kernel
theorem d_M_goOn_261 : decode b_M_goOn 261 = .ok (.dup, 1) := by decide +kernel
theorem d_M_goOn_262 : decode b_M_goOn 262 = .ok (.getfield 230, 3) := by decide +kernel
theorem d_M_goOn_265 : decode b_M_goOn 265 = .ok (.iconst 1, 1) := by decide +kernel
theorem d_M_goOn_266 : decode b_M_goOn 266 = .ok (.iadd, 1) := by decide +kernel
theorem d_M_goOn_267 : decode b_M_goOn 267 = .ok (.putfield 230, 3) := by decide +kernel
theorem d_M_goOn_270 : decode b_M_goOn 270 = .ok (.aload_n 0, 1) := by decide +kernel
theorem d_M_goOn_271 : decode b_M_goOn 271 = .ok (.bipush (10), 2) := by decide +kernel
theorem d_M_goOn_273 : decode b_M_goOn 273 = .ok (.aload_n 0, 1) := by decide +kernel
theorem d_M_goOn_274 : decode b_M_goOn 274 = .ok (.getfield 216, 3) := by decide +kernel
theorem d_M_goOn_277 : decode b_M_goOn 277 = .ok (.imul, 1) := by decide +kernel
theorem d_M_goOn_278 : decode b_M_goOn 278 = .ok (.iload_n 1, 1) := by decide +kernel
theorem d_M_goOn_279 : decode b_M_goOn 279 = .ok (.iadd, 1) := by decide +kernel
theorem d_M_goOn_280 : decode b_M_goOn 280 = .ok (.bipush (48), 2) := by decide +kernel
theorem d_M_goOn_282 : decode b_M_goOn 282 = .ok (.isub, 1) := by decide +kernel
theorem d_M_goOn_283 : decode b_M_goOn 283 = .ok (.putfield 216, 3) := by decide +kernel
theorem d_M_goOn_286 : decode b_M_goOn 286 = .ok (.iconst 1, 1) := by decide +kernel
theorem d_M_goOn_287 : decode b_M_goOn 287 = .ok (.ireturn, 1) := by decide +kernel
theorem d_M_goOn_288 : decode b_M_goOn 288 = .ok (.aload_n 0, 1) := by decide +kernel
theorem d_M_goOn_289 : decode b_M_goOn 289 = .ok (.iload_n 1, 1) := by decide +kernel
theorem d_M_goOn_290 : decode b_M_goOn 290 = .ok (.invokevirtual 260, 3) := by decide +kernel
theorem d_M_goOn_293 : decode b_M_goOn 293 = .ok (.ireturn, 1) := by decide +kernel
theorem d_M_goOn_294 : decode b_M_goOn 294 = .ok (.aload_n 0, 1) := by decide +kernel
theorem d_M_goOn_295 : decode b_M_goOn 295 = .ok (.iload_n 1, 1) := by decide +kernel
theorem d_M_goOn_296 : decode b_M_goOn 296 = .ok (.invokevirtual 260, 3) := by decide +kernel
theorem d_M_goOn_299 : decode b_M_goOn 299 = .ok (.ireturn, 1) := by decide +kernel
theorem d_M_goOn_300 : decode b_M_goOn 300 = .ok (.aload_n 0, 1) := by decide +kernel
theorem d_M_goOn_301 : decode b_M_goOn 301 = .ok (.iload_n 1, 1) := by decide +kernel
theorem d_M_goOn_302 : decode b_M_goOn 302 = .ok (.invokevirtual 263, 3) := by decide +kernel
theorem d_M_goOn_305 : decode b_M_goOn 305 = .ok (.ireturn, 1) := by decide +kernel
theorem d_M_goOn_306 : decode b_M_goOn 306 = .ok (.aload_n 0, 1) := by decide +kernel
theorem d_M_goOn_307 : decode b_M_goOn 307 = .ok (.iload_n 1, 1) := by decide +kernel
theorem d_M_goOn_308 : decode b_M_goOn 308 = .ok (.invokevirtual 266, 3) := by decide +kernel
theorem d_M_goOn_311 : decode b_M_goOn 311 = .ok (.ireturn, 1) := by decide +kernel
theorem d_M_goOn_312 : decode b_M_goOn 312 = .ok (.iconst 0, 1) := by decide +kernel
theorem d_M_goOn_313 : decode b_M_goOn 313 = .ok (.ireturn, 1) := by decide +kernel
def F_M_goOn_306 (a0 : Nat) (x1 : Int32) (w : AW) : Option (Int32 × AW) :=
  gd (wk w a0 == 13) <|
  (F_M_goOnSeason a0 x1 w).bind fun r2 =>
  gd (r2.1 == 0 || r2.1 == 1) <|
  some (r2.1, r2.2)
theorem P_M_goOn_306 {X : AX} {l : Launch} {G : AG} (hX : XOK X b_M_goOn "RedSkyModel" 2) (hM : XM X l G { frames := 3, cells := 0, slots := 0, locals := 66 }) {o : Int32 × AW} (hR : XR X (some .boolean) 0 0 (some (vi o.1)) o.2) (a0 : Nat) (x1 : Int32) (w : AW) (h : F_M_goOn_306 a0 x1 w = some o) : RJ X 2 0 0 306 [(0, vr a0), (1, vi x1)] [] w := by
  unfold F_M_goOn_306 at h
  refine r_aload_n (i := 0) hX d_M_goOn_306 0 rfl rfl ?_
  refine r_iload_n (i := 1) hX d_M_goOn_307 1 rfl rfl ?_
  obtain ⟨hk1, h⟩ := gd_e h
  obtain ⟨r2, hr3, h⟩ := bd_e h
  refine r_callV1 (As := [_]) hX hM mw_M_266 (T_M_goOnSeason _ _ _ hr3) (rc_of ci_12 hk1) rfl rfl ⟨Nat.le_refl _, Nat.le_refl _⟩ rfl rfl d_M_goOn_308 ?_
  obtain ⟨hg4, h⟩ := gd_e h
  cases h; exact r_zret hX hR (zn_ok hg4) d_M_goOn_311
def F_M_goOn_300 (a0 : Nat) (x1 : Int32) (w : AW) : Option (Int32 × AW) :=
  gd (wk w a0 == 13) <|
  (F_M_goOnSpan a0 x1 w).bind fun r2 =>
  gd (r2.1 == 0 || r2.1 == 1) <|
  some (r2.1, r2.2)
theorem P_M_goOn_300 {X : AX} {l : Launch} {G : AG} (hX : XOK X b_M_goOn "RedSkyModel" 2) (hM : XM X l G { frames := 3, cells := 0, slots := 0, locals := 66 }) {o : Int32 × AW} (hR : XR X (some .boolean) 0 0 (some (vi o.1)) o.2) (a0 : Nat) (x1 : Int32) (w : AW) (h : F_M_goOn_300 a0 x1 w = some o) : RJ X 2 0 0 300 [(0, vr a0), (1, vi x1)] [] w := by
  unfold F_M_goOn_300 at h
  refine r_aload_n (i := 0) hX d_M_goOn_300 0 rfl rfl ?_
  refine r_iload_n (i := 1) hX d_M_goOn_301 1 rfl rfl ?_
  obtain ⟨hk1, h⟩ := gd_e h
  obtain ⟨r2, hr3, h⟩ := bd_e h
  refine r_callV1 (As := [_]) hX hM mw_M_263 (T_M_goOnSpan _ _ _ hr3) (rc_of ci_12 hk1) rfl rfl ⟨Nat.le_refl _, Nat.le_refl _⟩ rfl rfl d_M_goOn_302 ?_
  obtain ⟨hg4, h⟩ := gd_e h
  cases h; exact r_zret hX hR (zn_ok hg4) d_M_goOn_305
def F_M_goOn_288 (a0 : Nat) (x1 : Int32) (w : AW) : Option (Int32 × AW) :=
  gd (wk w a0 == 13) <|
  (F_M_goOnBehind a0 x1 w).bind fun r2 =>
  gd (r2.1 == 0 || r2.1 == 1) <|
  some (r2.1, r2.2)
theorem P_M_goOn_288 {X : AX} {l : Launch} {G : AG} (hX : XOK X b_M_goOn "RedSkyModel" 2) (hM : XM X l G { frames := 3, cells := 0, slots := 0, locals := 66 }) {o : Int32 × AW} (hR : XR X (some .boolean) 0 0 (some (vi o.1)) o.2) (a0 : Nat) (x1 : Int32) (w : AW) (h : F_M_goOn_288 a0 x1 w = some o) : RJ X 2 0 0 288 [(0, vr a0), (1, vi x1)] [] w := by
  unfold F_M_goOn_288 at h
  refine r_aload_n (i := 0) hX d_M_goOn_288 0 rfl rfl ?_
  refine r_iload_n (i := 1) hX d_M_goOn_289 1 rfl rfl ?_
  obtain ⟨hk1, h⟩ := gd_e h
  obtain ⟨r2, hr3, h⟩ := bd_e h
  refine r_callV1 (As := [_]) hX hM mw_M_260 (T_M_goOnBehind _ _ _ hr3) (rc_of ci_12 hk1) rfl rfl ⟨Nat.le_refl _, Nat.le_refl _⟩ rfl rfl d_M_goOn_290 ?_
  obtain ⟨hg4, h⟩ := gd_e h
  cases h; exact r_zret hX hR (zn_ok hg4) d_M_goOn_293
def F_M_goOn_199 (a0 : Nat) (x1 : Int32) (s1 : Int32) (s0 : Nat) (w : AW) : Option (Int32 × AW) :=
  gd (wk w s0 == 13) <|
  let w2 : AW := upI w s0 10 s1
  gd (wk w2 a0 == 13) <|
  if (wi w2 a0 15) = 0 then
    if (F_M_isFigure x1) = 0 then
      some ((0 : Int32), w2)
    else
      some ((1 : Int32), w2)
  else
    some ((1 : Int32), w2)
theorem P_M_goOn_199 {X : AX} {l : Launch} {G : AG} (hX : XOK X b_M_goOn "RedSkyModel" 2) (hM : XM X l G { frames := 3, cells := 0, slots := 0, locals := 66 }) {o : Int32 × AW} (hR : XR X (some .boolean) 0 0 (some (vi o.1)) o.2) (a0 : Nat) (x1 : Int32) (s1 : Int32) (s0 : Nat) (w : AW) (h : F_M_goOn_199 a0 x1 s1 s0 w = some o) : RJ X 2 0 0 199 [(0, vr a0), (1, vi x1)] [vi s1, vr s0] w := by
  unfold F_M_goOn_199 at h
  obtain ⟨hk1, h⟩ := gd_e h
  refine r_putI (i := 12) (f := 10) hX ci_12 (by decide) rfl rfl (fun G => rfl) (fun G => rfl) fl_M_181 hk1 d_M_goOn_199 ?_
  refine r_aload_n (i := 0) hX d_M_goOn_202 0 rfl rfl ?_
  obtain ⟨hk3, h⟩ := gd_e h
  refine r_getI (i := 12) (f := 15) hX ci_12 (by decide) rfl fl_M_212 hk3 d_M_goOn_203 ?_
  refine r_if_ne hX d_M_goOn_206 rfl h (fun h => ?_) (fun h => ?_)
  · refine r_iconst (v := (1 : Int32)) hX d_M_goOn_216 rfl ?_
    refine r_goto hX d_M_goOn_217 rfl ?_
    cases h; exact r_zret hX hR rfl d_M_goOn_221
  · refine r_iload_n (i := 1) hX d_M_goOn_209 1 rfl rfl ?_
    refine r_callS1 (As := [_]) hX hM mw_M_242 (T_M_isFigure _ _) rfl rfl ⟨Nat.le_refl _, Nat.le_refl _⟩ rfl rfl d_M_goOn_210 ?_
    refine r_if_eq hX d_M_goOn_213 rfl h (fun h => ?_) (fun h => ?_)
    · refine r_iconst (v := (0 : Int32)) hX d_M_goOn_220 rfl ?_
      cases h; exact r_zret hX hR rfl d_M_goOn_221
    · refine r_iconst (v := (1 : Int32)) hX d_M_goOn_216 rfl ?_
      refine r_goto hX d_M_goOn_217 rfl ?_
      cases h; exact r_zret hX hR rfl d_M_goOn_221
def F_M_goOn_183 (a0 : Nat) (x1 : Int32) (s1 : Int32) (s0 : Nat) (w : AW) : Option (Int32 × AW) :=
  gd (wk w s0 == 13) <|
  let w2 : AW := upI w s0 14 s1
  gd (wk w2 a0 == 13) <|
  if (wi w2 a0 15) = 0 then
    F_M_goOn_199 a0 x1 (4 : Int32) a0 w2
  else
    F_M_goOn_199 a0 x1 (3 : Int32) a0 w2
theorem P_M_goOn_183 {X : AX} {l : Launch} {G : AG} (hX : XOK X b_M_goOn "RedSkyModel" 2) (hM : XM X l G { frames := 3, cells := 0, slots := 0, locals := 66 }) {o : Int32 × AW} (hR : XR X (some .boolean) 0 0 (some (vi o.1)) o.2) (a0 : Nat) (x1 : Int32) (s1 : Int32) (s0 : Nat) (w : AW) (h : F_M_goOn_183 a0 x1 s1 s0 w = some o) : RJ X 2 0 0 183 [(0, vr a0), (1, vi x1)] [vi s1, vr s0] w := by
  unfold F_M_goOn_183 at h
  obtain ⟨hk1, h⟩ := gd_e h
  refine r_putI (i := 12) (f := 14) hX ci_12 (by decide) rfl rfl (fun G => rfl) (fun G => rfl) fl_M_216 hk1 d_M_goOn_183 ?_
  refine r_aload_n (i := 0) hX d_M_goOn_186 0 rfl rfl ?_
  refine r_aload_n (i := 0) hX d_M_goOn_187 0 rfl rfl ?_
  obtain ⟨hk3, h⟩ := gd_e h
  refine r_getI (i := 12) (f := 15) hX ci_12 (by decide) rfl fl_M_212 hk3 d_M_goOn_188 ?_
  refine r_if_eq hX d_M_goOn_191 rfl h (fun h => ?_) (fun h => ?_)
  · refine r_iconst (v := (4 : Int32)) hX d_M_goOn_198 rfl ?_
    exact rj_sub [0, 1] rfl (P_M_goOn_199 hX hM hR _ _ _ _ _ h)
  · refine r_iconst (v := (3 : Int32)) hX d_M_goOn_194 rfl ?_
    refine r_goto hX d_M_goOn_195 rfl ?_
    exact rj_sub [0, 1] rfl (P_M_goOn_199 hX hM hR _ _ _ _ _ h)
def F_M_goOn_164 (a0 : Nat) (x1 : Int32) (s1 : Int32) (s0 : Nat) (w : AW) : Option (Int32 × AW) :=
  gd (wk w s0 == 13) <|
  let w2 : AW := upI w s0 13 s1
  gd (wk w2 a0 == 13) <|
  if (wi w2 a0 15) = 0 then
    F_M_goOn_183 a0 x1 (x1 - (48 : Int32)) a0 w2
  else
    F_M_goOn_183 a0 x1 (0 : Int32) a0 w2
theorem P_M_goOn_164 {X : AX} {l : Launch} {G : AG} (hX : XOK X b_M_goOn "RedSkyModel" 2) (hM : XM X l G { frames := 3, cells := 0, slots := 0, locals := 66 }) {o : Int32 × AW} (hR : XR X (some .boolean) 0 0 (some (vi o.1)) o.2) (a0 : Nat) (x1 : Int32) (s1 : Int32) (s0 : Nat) (w : AW) (h : F_M_goOn_164 a0 x1 s1 s0 w = some o) : RJ X 2 0 0 164 [(0, vr a0), (1, vi x1)] [vi s1, vr s0] w := by
  unfold F_M_goOn_164 at h
  obtain ⟨hk1, h⟩ := gd_e h
  refine r_putI (i := 12) (f := 13) hX ci_12 (by decide) rfl rfl (fun G => rfl) (fun G => rfl) fl_M_230 hk1 d_M_goOn_164 ?_
  refine r_aload_n (i := 0) hX d_M_goOn_167 0 rfl rfl ?_
  refine r_aload_n (i := 0) hX d_M_goOn_168 0 rfl rfl ?_
  obtain ⟨hk3, h⟩ := gd_e h
  refine r_getI (i := 12) (f := 15) hX ci_12 (by decide) rfl fl_M_212 hk3 d_M_goOn_169 ?_
  refine r_if_eq hX d_M_goOn_172 rfl h (fun h => ?_) (fun h => ?_)
  · refine r_iload_n (i := 1) hX d_M_goOn_179 1 rfl rfl ?_
    refine r_bipush (v := (48 : Int32)) hX d_M_goOn_180 rfl ?_
    refine r_isub hX d_M_goOn_182 ?_
    exact rj_sub [0, 1] rfl (P_M_goOn_183 hX hM hR _ _ _ _ _ h)
  · refine r_iconst (v := (0 : Int32)) hX d_M_goOn_175 rfl ?_
    refine r_goto hX d_M_goOn_176 rfl ?_
    exact rj_sub [0, 1] rfl (P_M_goOn_183 hX hM hR _ _ _ _ _ h)
def F_M_goOn_148 (a0 : Nat) (x1 : Int32) (s1 : Int32) (s0 : Nat) (w : AW) : Option (Int32 × AW) :=
  gd (wk w s0 == 13) <|
  gd (s1 == 0 || s1 == 1) <|
  let w3 : AW := upI w s0 15 s1
  gd (wk w3 a0 == 13) <|
  if (wi w3 a0 15) = 0 then
    F_M_goOn_164 a0 x1 (1 : Int32) a0 w3
  else
    F_M_goOn_164 a0 x1 (0 : Int32) a0 w3
theorem P_M_goOn_148 {X : AX} {l : Launch} {G : AG} (hX : XOK X b_M_goOn "RedSkyModel" 2) (hM : XM X l G { frames := 3, cells := 0, slots := 0, locals := 66 }) {o : Int32 × AW} (hR : XR X (some .boolean) 0 0 (some (vi o.1)) o.2) (a0 : Nat) (x1 : Int32) (s1 : Int32) (s0 : Nat) (w : AW) (h : F_M_goOn_148 a0 x1 s1 s0 w = some o) : RJ X 2 0 0 148 [(0, vr a0), (1, vi x1)] [vi s1, vr s0] w := by
  unfold F_M_goOn_148 at h
  obtain ⟨hk1, h⟩ := gd_e h
  obtain ⟨hg2, h⟩ := gd_e h
  refine r_putI (i := 12) (f := 15) hX ci_12 (by decide) rfl rfl (fun G => nw_z _ hg2) (fun G => ft_z _ hg2) fl_M_212 hk1 d_M_goOn_148 ?_
  refine r_aload_n (i := 0) hX d_M_goOn_151 0 rfl rfl ?_
  refine r_aload_n (i := 0) hX d_M_goOn_152 0 rfl rfl ?_
  obtain ⟨hk4, h⟩ := gd_e h
  refine r_getI (i := 12) (f := 15) hX ci_12 (by decide) rfl fl_M_212 hk4 d_M_goOn_153 ?_
  refine r_if_eq hX d_M_goOn_156 rfl h (fun h => ?_) (fun h => ?_)
  · refine r_iconst (v := (1 : Int32)) hX d_M_goOn_163 rfl ?_
    exact rj_sub [0, 1] rfl (P_M_goOn_164 hX hM hR _ _ _ _ _ h)
  · refine r_iconst (v := (0 : Int32)) hX d_M_goOn_159 rfl ?_
    refine r_goto hX d_M_goOn_160 rfl ?_
    exact rj_sub [0, 1] rfl (P_M_goOn_164 hX hM hR _ _ _ _ _ h)
def F_M_goOn_104 (a0 : Nat) (x1 : Int32) (s1 : Int32) (s0 : Nat) (w : AW) : Option (Int32 × AW) :=
  gd (wk w s0 == 13) <|
  let w2 : AW := upI w s0 17 s1
  gd (wk w2 a0 == 13) <|
  let w4 : AW := upI w2 a0 10 (2 : Int32)
  if x1 = (60 : Int32) then
    some ((1 : Int32), w4)
  else
    if x1 = (61 : Int32) then
      some ((1 : Int32), w4)
    else
      if x1 = (62 : Int32) then
        some ((1 : Int32), w4)
      else
        some ((0 : Int32), w4)
theorem P_M_goOn_104 {X : AX} {l : Launch} {G : AG} (hX : XOK X b_M_goOn "RedSkyModel" 2) (hM : XM X l G { frames := 3, cells := 0, slots := 0, locals := 66 }) {o : Int32 × AW} (hR : XR X (some .boolean) 0 0 (some (vi o.1)) o.2) (a0 : Nat) (x1 : Int32) (s1 : Int32) (s0 : Nat) (w : AW) (h : F_M_goOn_104 a0 x1 s1 s0 w = some o) : RJ X 2 0 0 104 [(0, vr a0), (1, vi x1)] [vi s1, vr s0] w := by
  unfold F_M_goOn_104 at h
  obtain ⟨hk1, h⟩ := gd_e h
  refine r_putI (i := 12) (f := 17) hX ci_12 (by decide) rfl rfl (fun G => rfl) (fun G => rfl) fl_M_209 hk1 d_M_goOn_104 ?_
  refine r_aload_n (i := 0) hX d_M_goOn_107 0 rfl rfl ?_
  refine r_iconst (v := (2 : Int32)) hX d_M_goOn_108 rfl ?_
  obtain ⟨hk3, h⟩ := gd_e h
  refine r_putI (i := 12) (f := 10) hX ci_12 (by decide) rfl rfl (fun G => rfl) (fun G => rfl) fl_M_181 hk3 d_M_goOn_109 ?_
  refine r_iload_n (i := 1) hX d_M_goOn_112 1 rfl rfl ?_
  refine r_bipush (v := (60 : Int32)) hX d_M_goOn_113 rfl ?_
  refine r_icmp_eq hX d_M_goOn_115 rfl h (fun h => ?_) (fun h => ?_)
  · refine r_iconst (v := (1 : Int32)) hX d_M_goOn_130 rfl ?_
    refine r_goto hX d_M_goOn_131 rfl ?_
    cases h; exact r_zret hX hR rfl d_M_goOn_135
  · refine r_iload_n (i := 1) hX d_M_goOn_118 1 rfl rfl ?_
    refine r_bipush (v := (61 : Int32)) hX d_M_goOn_119 rfl ?_
    refine r_icmp_eq hX d_M_goOn_121 rfl h (fun h => ?_) (fun h => ?_)
    · refine r_iconst (v := (1 : Int32)) hX d_M_goOn_130 rfl ?_
      refine r_goto hX d_M_goOn_131 rfl ?_
      cases h; exact r_zret hX hR rfl d_M_goOn_135
    · refine r_iload_n (i := 1) hX d_M_goOn_124 1 rfl rfl ?_
      refine r_bipush (v := (62 : Int32)) hX d_M_goOn_125 rfl ?_
      refine r_icmp_ne hX d_M_goOn_127 rfl h (fun h => ?_) (fun h => ?_)
      · refine r_iconst (v := (0 : Int32)) hX d_M_goOn_134 rfl ?_
        cases h; exact r_zret hX hR rfl d_M_goOn_135
      · refine r_iconst (v := (1 : Int32)) hX d_M_goOn_130 rfl ?_
        refine r_goto hX d_M_goOn_131 rfl ?_
        cases h; exact r_zret hX hR rfl d_M_goOn_135
def F_M_goOn (a0 : Nat) (x1 : Int32) (w : AW) : Option (Int32 × AW) :=
  gd (wk w a0 == 13) <|
  let v2 : Int32 := (wi w a0 10)
  if Int32.toInt v2 < 0 ∨ 13 < Int32.toInt v2 then
    some ((0 : Int32), w)
  else if v2 = (0 : Int32) then
    (F_M_goOnFactor a0 x1 w).bind fun r3 =>
    gd (r3.1 == 0 || r3.1 == 1) <|
    some (r3.1, r3.2)
  else if v2 = (1 : Int32) then
    if x1 = (60 : Int32) then
      F_M_goOn_104 a0 x1 (0 : Int32) a0 w
    else
      if x1 = (61 : Int32) then
        F_M_goOn_104 a0 x1 (1 : Int32) a0 w
      else
        F_M_goOn_104 a0 x1 (2 : Int32) a0 w
  else if v2 = (2 : Int32) then
    if x1 = (45 : Int32) then
      F_M_goOn_148 a0 x1 (1 : Int32) a0 w
    else
      F_M_goOn_148 a0 x1 (0 : Int32) a0 w
  else if v2 = (3 : Int32) then
    let w6 : AW := upI w a0 13 (1 : Int32)
    let w7 : AW := upI w6 a0 14 (x1 - (48 : Int32))
    let w8 : AW := upI w7 a0 10 (4 : Int32)
    some ((F_M_isFigure x1), w8)
  else if v2 = (4 : Int32) then
    if (F_M_isFigure x1) = 0 then
      F_M_goOn_288 a0 x1 w
    else
      if (3 : Int32) ≤ (wi w a0 13) then
        F_M_goOn_288 a0 x1 w
      else
        let w9 : AW := upI w a0 13 ((wi w a0 13) + (1 : Int32))
        let w10 : AW := upI w9 a0 14 ((((10 : Int32) * (wi w9 a0 14)) + x1) - (48 : Int32))
        some ((1 : Int32), w10)
  else if v2 = (5 : Int32) then
    (F_M_goOnBehind a0 x1 w).bind fun r11 =>
    gd (r11.1 == 0 || r11.1 == 1) <|
    some (r11.1, r11.2)
  else if v2 = (6 : Int32) then
    F_M_goOn_300 a0 x1 w
  else if v2 = (7 : Int32) then
    F_M_goOn_300 a0 x1 w
  else if v2 = (8 : Int32) then
    F_M_goOn_300 a0 x1 w
  else if v2 = (9 : Int32) then
    F_M_goOn_300 a0 x1 w
  else if v2 = (10 : Int32) then
    F_M_goOn_306 a0 x1 w
  else if v2 = (11 : Int32) then
    F_M_goOn_306 a0 x1 w
  else if v2 = (12 : Int32) then
    F_M_goOn_306 a0 x1 w
  else if v2 = (13 : Int32) then
    F_M_goOn_306 a0 x1 w
  else none
theorem P_M_goOn_0 {X : AX} {l : Launch} {G : AG} (hX : XOK X b_M_goOn "RedSkyModel" 2) (hM : XM X l G { frames := 3, cells := 0, slots := 0, locals := 66 }) {o : Int32 × AW} (hR : XR X (some .boolean) 0 0 (some (vi o.1)) o.2) (a0 : Nat) (x1 : Int32) (w : AW) (h : F_M_goOn a0 x1 w = some o) : RJ X 2 0 0 0 [(0, vr a0), (1, vi x1)] [] w := by
  unfold F_M_goOn at h
  refine r_aload_n (i := 0) hX d_M_goOn_0 0 rfl rfl ?_
  obtain ⟨hk1, h⟩ := gd_e h
  refine r_getI (i := 12) (f := 10) hX ci_12 (by decide) rfl fl_M_181 hk1 d_M_goOn_1 ?_
  rcases it_e h with ⟨hc, h⟩ | ⟨-, h⟩
  · refine r_tsOut hX hc d_M_goOn_4 rfl ?_
    refine r_iconst (v := (0 : Int32)) hX d_M_goOn_312 rfl ?_
    cases h; exact r_zret hX hR rfl d_M_goOn_313
  rcases it_e h with ⟨hc, h⟩ | ⟨-, h⟩
  · refine r_tsIn (v := (0 : Int32)) hX hc d_M_goOn_4 (by decide) (by decide) rfl rfl ?_
    refine r_aload_n (i := 0) hX d_M_goOn_76 0 rfl rfl ?_
    refine r_iload_n (i := 1) hX d_M_goOn_77 1 rfl rfl ?_
    obtain ⟨r3, hr4, h⟩ := bd_e h
    refine r_callV1 (As := [_]) hX hM mw_M_257 (T_M_goOnFactor _ _ _ hr4) (rc_of ci_12 hk1) rfl rfl ⟨Nat.le_refl _, Nat.le_refl _⟩ rfl rfl d_M_goOn_78 ?_
    obtain ⟨hg5, h⟩ := gd_e h
    cases h; exact r_zret hX hR (zn_ok hg5) d_M_goOn_81
  rcases it_e h with ⟨hc, h⟩ | ⟨-, h⟩
  · refine r_tsIn (v := (1 : Int32)) hX hc d_M_goOn_4 (by decide) (by decide) rfl rfl ?_
    refine r_aload_n (i := 0) hX d_M_goOn_82 0 rfl rfl ?_
    refine r_iload_n (i := 1) hX d_M_goOn_83 1 rfl rfl ?_
    refine r_bipush (v := (60 : Int32)) hX d_M_goOn_84 rfl ?_
    refine r_icmp_ne hX d_M_goOn_86 rfl h (fun h => ?_) (fun h => ?_)
    · refine r_iload_n (i := 1) hX d_M_goOn_93 1 rfl rfl ?_
      refine r_bipush (v := (61 : Int32)) hX d_M_goOn_94 rfl ?_
      refine r_icmp_ne hX d_M_goOn_96 rfl h (fun h => ?_) (fun h => ?_)
      · refine r_iconst (v := (2 : Int32)) hX d_M_goOn_103 rfl ?_
        exact rj_sub [0, 1] rfl (P_M_goOn_104 hX hM hR _ _ _ _ _ h)
      · refine r_iconst (v := (1 : Int32)) hX d_M_goOn_99 rfl ?_
        refine r_goto hX d_M_goOn_100 rfl ?_
        exact rj_sub [0, 1] rfl (P_M_goOn_104 hX hM hR _ _ _ _ _ h)
    · refine r_iconst (v := (0 : Int32)) hX d_M_goOn_89 rfl ?_
      refine r_goto hX d_M_goOn_90 rfl ?_
      exact rj_sub [0, 1] rfl (P_M_goOn_104 hX hM hR _ _ _ _ _ h)
  rcases it_e h with ⟨hc, h⟩ | ⟨-, h⟩
  · refine r_tsIn (v := (2 : Int32)) hX hc d_M_goOn_4 (by decide) (by decide) rfl rfl ?_
    refine r_aload_n (i := 0) hX d_M_goOn_136 0 rfl rfl ?_
    refine r_iload_n (i := 1) hX d_M_goOn_137 1 rfl rfl ?_
    refine r_bipush (v := (45 : Int32)) hX d_M_goOn_138 rfl ?_
    refine r_icmp_ne hX d_M_goOn_140 rfl h (fun h => ?_) (fun h => ?_)
    · refine r_iconst (v := (0 : Int32)) hX d_M_goOn_147 rfl ?_
      exact rj_sub [0, 1] rfl (P_M_goOn_148 hX hM hR _ _ _ _ _ h)
    · refine r_iconst (v := (1 : Int32)) hX d_M_goOn_143 rfl ?_
      refine r_goto hX d_M_goOn_144 rfl ?_
      exact rj_sub [0, 1] rfl (P_M_goOn_148 hX hM hR _ _ _ _ _ h)
  rcases it_e h with ⟨hc, h⟩ | ⟨-, h⟩
  · refine r_tsIn (v := (3 : Int32)) hX hc d_M_goOn_4 (by decide) (by decide) rfl rfl ?_
    refine r_aload_n (i := 0) hX d_M_goOn_222 0 rfl rfl ?_
    refine r_iconst (v := (1 : Int32)) hX d_M_goOn_223 rfl ?_
    refine r_putI (i := 12) (f := 13) hX ci_12 (by decide) rfl rfl (fun G => rfl) (fun G => rfl) fl_M_230 hk1 d_M_goOn_224 ?_
    refine r_aload_n (i := 0) hX d_M_goOn_227 0 rfl rfl ?_
    refine r_iload_n (i := 1) hX d_M_goOn_228 1 rfl rfl ?_
    refine r_bipush (v := (48 : Int32)) hX d_M_goOn_229 rfl ?_
    refine r_isub hX d_M_goOn_231 ?_
    refine r_putI (i := 12) (f := 14) hX ci_12 (by decide) rfl rfl (fun G => rfl) (fun G => rfl) fl_M_216 (kI hk1) d_M_goOn_232 ?_
    refine r_aload_n (i := 0) hX d_M_goOn_235 0 rfl rfl ?_
    refine r_iconst (v := (4 : Int32)) hX d_M_goOn_236 rfl ?_
    refine r_putI (i := 12) (f := 10) hX ci_12 (by decide) rfl rfl (fun G => rfl) (fun G => rfl) fl_M_181 (kI (kI hk1)) d_M_goOn_237 ?_
    refine r_iload_n (i := 1) hX d_M_goOn_240 1 rfl rfl ?_
    refine r_callS1 (As := [_]) hX hM mw_M_242 (T_M_isFigure _ _) rfl rfl ⟨Nat.le_refl _, Nat.le_refl _⟩ rfl rfl d_M_goOn_241 ?_
    cases h; exact r_zret hX hR (zn_ok (z_M_isFigure _)) d_M_goOn_244
  rcases it_e h with ⟨hc, h⟩ | ⟨-, h⟩
  · refine r_tsIn (v := (4 : Int32)) hX hc d_M_goOn_4 (by decide) (by decide) rfl rfl ?_
    refine r_iload_n (i := 1) hX d_M_goOn_245 1 rfl rfl ?_
    refine r_callS1 (As := [_]) hX hM mw_M_242 (T_M_isFigure _ _) rfl rfl ⟨Nat.le_refl _, Nat.le_refl _⟩ rfl rfl d_M_goOn_246 ?_
    refine r_if_eq hX d_M_goOn_249 rfl h (fun h => ?_) (fun h => ?_)
    · exact rj_sub [0, 1] rfl (P_M_goOn_288 hX hM hR _ _ _ h)
    · refine r_aload_n (i := 0) hX d_M_goOn_252 0 rfl rfl ?_
      refine r_getI (i := 12) (f := 13) hX ci_12 (by decide) rfl fl_M_230 hk1 d_M_goOn_253 ?_
      refine r_iconst (v := (3 : Int32)) hX d_M_goOn_256 rfl ?_
      refine r_icmp_ge hX d_M_goOn_257 rfl h (fun h => ?_) (fun h => ?_)
      · exact rj_sub [0, 1] rfl (P_M_goOn_288 hX hM hR _ _ _ h)
      · refine r_aload_n (i := 0) hX d_M_goOn_260 0 rfl rfl ?_
        refine r_dup hX d_M_goOn_261 rfl ?_
        refine r_getI (i := 12) (f := 13) hX ci_12 (by decide) rfl fl_M_230 hk1 d_M_goOn_262 ?_
        refine r_iconst (v := (1 : Int32)) hX d_M_goOn_265 rfl ?_
        refine r_iadd hX d_M_goOn_266 ?_
        refine r_putI (i := 12) (f := 13) hX ci_12 (by decide) rfl rfl (fun G => rfl) (fun G => rfl) fl_M_230 hk1 d_M_goOn_267 ?_
        refine r_aload_n (i := 0) hX d_M_goOn_270 0 rfl rfl ?_
        refine r_bipush (v := (10 : Int32)) hX d_M_goOn_271 rfl ?_
        refine r_aload_n (i := 0) hX d_M_goOn_273 0 rfl rfl ?_
        refine r_getI (i := 12) (f := 14) hX ci_12 (by decide) rfl fl_M_216 (kI hk1) d_M_goOn_274 ?_
        refine r_imul hX d_M_goOn_277 ?_
        refine r_iload_n (i := 1) hX d_M_goOn_278 1 rfl rfl ?_
        refine r_iadd hX d_M_goOn_279 ?_
        refine r_bipush (v := (48 : Int32)) hX d_M_goOn_280 rfl ?_
        refine r_isub hX d_M_goOn_282 ?_
        refine r_putI (i := 12) (f := 14) hX ci_12 (by decide) rfl rfl (fun G => rfl) (fun G => rfl) fl_M_216 (kI hk1) d_M_goOn_283 ?_
        refine r_iconst (v := (1 : Int32)) hX d_M_goOn_286 rfl ?_
        cases h; exact r_zret hX hR rfl d_M_goOn_287
  rcases it_e h with ⟨hc, h⟩ | ⟨-, h⟩
  · refine r_tsIn (v := (5 : Int32)) hX hc d_M_goOn_4 (by decide) (by decide) rfl rfl ?_
    refine r_aload_n (i := 0) hX d_M_goOn_294 0 rfl rfl ?_
    refine r_iload_n (i := 1) hX d_M_goOn_295 1 rfl rfl ?_
    obtain ⟨r11, hr12, h⟩ := bd_e h
    refine r_callV1 (As := [_]) hX hM mw_M_260 (T_M_goOnBehind _ _ _ hr12) (rc_of ci_12 hk1) rfl rfl ⟨Nat.le_refl _, Nat.le_refl _⟩ rfl rfl d_M_goOn_296 ?_
    obtain ⟨hg13, h⟩ := gd_e h
    cases h; exact r_zret hX hR (zn_ok hg13) d_M_goOn_299
  rcases it_e h with ⟨hc, h⟩ | ⟨-, h⟩
  · refine r_tsIn (v := (6 : Int32)) hX hc d_M_goOn_4 (by decide) (by decide) rfl rfl ?_
    exact rj_sub [0, 1] rfl (P_M_goOn_300 hX hM hR _ _ _ h)
  rcases it_e h with ⟨hc, h⟩ | ⟨-, h⟩
  · refine r_tsIn (v := (7 : Int32)) hX hc d_M_goOn_4 (by decide) (by decide) rfl rfl ?_
    exact rj_sub [0, 1] rfl (P_M_goOn_300 hX hM hR _ _ _ h)
  rcases it_e h with ⟨hc, h⟩ | ⟨-, h⟩
  · refine r_tsIn (v := (8 : Int32)) hX hc d_M_goOn_4 (by decide) (by decide) rfl rfl ?_
    exact rj_sub [0, 1] rfl (P_M_goOn_300 hX hM hR _ _ _ h)
  rcases it_e h with ⟨hc, h⟩ | ⟨-, h⟩
  · refine r_tsIn (v := (9 : Int32)) hX hc d_M_goOn_4 (by decide) (by decide) rfl rfl ?_
    exact rj_sub [0, 1] rfl (P_M_goOn_300 hX hM hR _ _ _ h)
  rcases it_e h with ⟨hc, h⟩ | ⟨-, h⟩
  · refine r_tsIn (v := (10 : Int32)) hX hc d_M_goOn_4 (by decide) (by decide) rfl rfl ?_
    exact rj_sub [0, 1] rfl (P_M_goOn_306 hX hM hR _ _ _ h)
  rcases it_e h with ⟨hc, h⟩ | ⟨-, h⟩
  · refine r_tsIn (v := (11 : Int32)) hX hc d_M_goOn_4 (by decide) (by decide) rfl rfl ?_
    exact rj_sub [0, 1] rfl (P_M_goOn_306 hX hM hR _ _ _ h)
  rcases it_e h with ⟨hc, h⟩ | ⟨-, h⟩
  · refine r_tsIn (v := (12 : Int32)) hX hc d_M_goOn_4 (by decide) (by decide) rfl rfl ?_
    exact rj_sub [0, 1] rfl (P_M_goOn_306 hX hM hR _ _ _ h)
  rcases it_e h with ⟨hc, h⟩ | ⟨-, h⟩
  · refine r_tsIn (v := (13 : Int32)) hX hc d_M_goOn_4 (by decide) (by decide) rfl rfl ?_
    exact rj_sub [0, 1] rfl (P_M_goOn_306 hX hM hR _ _ _ h)
  cases h
theorem T_M_goOn {l : Launch} {G : AG} (a0 : Nat) (x1 : Int32) (w : AW) {o : Int32 × AW} (h : F_M_goOn a0 x1 w = some o) : Mt l G y_M_goOn b_M_goOn 2 (some (.boolean)) 3 66 0 0 [vr a0, vi x1] w (some (vi o.1)) o.2 := mt_of (by decide) (Nat.le_of_ble_eq_true rfl) (fun X hX hR hM hI => P_M_goOn_0 hX hM hR _ _ _ h)
/-! RedSkyModel.readPage()I -/
theorem d_M_readPage_0 : decode b_M_readPage 0 = .ok (.aload_n 0, 1) := by decide +kernel
theorem d_M_readPage_1 : decode b_M_readPage 1 = .ok (.invokevirtual 269, 3) := by decide +kernel
theorem d_M_readPage_4 : decode b_M_readPage 4 = .ok (.iconst 0, 1) := by decide +kernel
theorem d_M_readPage_5 : decode b_M_readPage 5 = .ok (.istore_n 1, 1) := by decide +kernel
theorem d_M_readPage_6 : decode b_M_readPage 6 = .ok (.iload_n 1, 1) := by decide +kernel
theorem d_M_readPage_7 : decode b_M_readPage 7 = .ok (.aload_n 0, 1) := by decide +kernel
theorem d_M_readPage_8 : decode b_M_readPage 8 = .ok (.getfield 178, 3) := by decide +kernel
theorem d_M_readPage_11 : decode b_M_readPage 11 = .ok (.if_icmp .ge (22), 3) := by decide +kernel
theorem d_M_readPage_14 : decode b_M_readPage 14 = .ok (.aload_n 0, 1) := by decide +kernel
theorem d_M_readPage_15 : decode b_M_readPage 15 = .ok (.aload_n 0, 1) := by decide +kernel
theorem d_M_readPage_16 : decode b_M_readPage 16 = .ok (.getfield 31, 3) := by decide +kernel
theorem d_M_readPage_19 : decode b_M_readPage 19 = .ok (.iload_n 1, 1) := by decide +kernel
theorem d_M_readPage_20 : decode b_M_readPage 20 = .ok (.iaload, 1) := by decide +kernel
theorem d_M_readPage_21 : decode b_M_readPage 21 = .ok (.invokevirtual 272, 3) := by decide +kernel
theorem d_M_readPage_24 : decode b_M_readPage 24 = .ok (.ifCond .eq (9), 3) := by decide +kernel
theorem d_M_readPage_27 : decode b_M_readPage 27 = .ok (.iinc 1 (1), 3) := by decide +kernel
theorem d_M_readPage_30 : decode b_M_readPage 30 = .ok (.goto (-24), 3) := by decide +kernel
theorem d_M_readPage_33 : decode b_M_readPage 33 = .ok (.iload_n 1, 1) := by decide +kernel
theorem d_M_readPage_34 : decode b_M_readPage 34 = .ok (.ireturn, 1) := by decide +kernel
def F_M_readPage_6_B (rec6 : Nat → Int32 → AW → Option (Int32 × AW)) (a0 : Nat) (x1 : Int32) (w : AW) : Option (Int32 × AW) :=
  gd (wk w a0 == 13) <|
  if (wi w a0 9) ≤ x1 then
    some (x1, w)
  else
    gd (wk w (wr w a0 8) == 100) <|
    gd (inb x1 (wn w (wr w a0 8))) <|
    (F_M_goOn a0 (wi w (wr w a0 8) (Int32.toNatClampNeg x1)) w).bind fun r4 =>
    if r4.1 = 0 then
      some (x1, r4.2)
    else
      let v6 : Int32 := (x1 + (1 : Int32))
      rec6 a0 v6 r4.2
theorem P_M_readPage_6_B {X : AX} {l : Launch} {G : AG} {rec6 : Nat → Int32 → AW → Option (Int32 × AW)} (hX : XOK X b_M_readPage "RedSkyModel" 2) (hM : XM X l G { frames := 4, cells := 0, slots := 0, locals := 87 }) {o : Int32 × AW} (hR : XR X (some .int) 0 0 (some (vi o.1)) o.2) (hrec6 : ∀ (a0 : Nat) (x1 : Int32) (w : AW), rec6 a0 x1 w = some o → RJ X 2 0 0 6 [(0, vr a0), (1, vi x1)] [] w) (a0 : Nat) (x1 : Int32) (w : AW) (h : F_M_readPage_6_B rec6 a0 x1 w = some o) : RJ X 2 0 0 6 [(0, vr a0), (1, vi x1)] [] w := by
  unfold F_M_readPage_6_B at h
  refine r_iload_n (i := 1) hX d_M_readPage_6 1 rfl rfl ?_
  refine r_aload_n (i := 0) hX d_M_readPage_7 0 rfl rfl ?_
  obtain ⟨hk1, h⟩ := gd_e h
  refine r_getI (i := 12) (f := 9) hX ci_12 (by decide) rfl fl_M_178 hk1 d_M_readPage_8 ?_
  refine r_icmp_ge hX d_M_readPage_11 rfl h (fun h => ?_) (fun h => ?_)
  · refine r_iload_n (i := 1) hX d_M_readPage_33 1 rfl rfl ?_
    cases h; exact r_iret hX hR d_M_readPage_34
  · refine r_aload_n (i := 0) hX d_M_readPage_14 0 rfl rfl ?_
    refine r_aload_n (i := 0) hX d_M_readPage_15 0 rfl rfl ?_
    refine r_getR (i := 12) (f := 8) hX ci_12 (by decide) rfl fl_M_31 hk1 d_M_readPage_16 ?_
    refine r_iload_n (i := 1) hX d_M_readPage_19 1 rfl rfl ?_
    obtain ⟨hk2, h⟩ := gd_e h
    obtain ⟨hg3, h⟩ := gd_e h
    refine r_iald hX hk2 hg3 d_M_readPage_20 ?_
    obtain ⟨r4, hr5, h⟩ := bd_e h
    refine r_callV1 (As := [_]) hX hM mw_M_272 (T_M_goOn _ _ _ hr5) (rc_of ci_12 hk1) rfl rfl ⟨Nat.le_refl _, Nat.le_refl _⟩ rfl rfl d_M_readPage_21 ?_
    refine r_if_eq hX d_M_readPage_24 rfl h (fun h => ?_) (fun h => ?_)
    · refine r_iload_n (i := 1) hX d_M_readPage_33 1 rfl rfl ?_
      cases h; exact r_iret hX hR d_M_readPage_34
    · refine r_iinc (i := 1) (v := (1 : Int32)) hX d_M_readPage_27 1 rfl rfl (by decide) ?_
      refine r_goto hX d_M_readPage_30 rfl ?_
      exact rj_sub [1, 0] rfl (hrec6 _ _ _ h)
def F_M_readPage_6 : Nat → Nat → Int32 → AW → Option (Int32 × AW)
  | 0 => fun _ _ _ => none
  | n + 1 => fun a0 x1 w => F_M_readPage_6_B (F_M_readPage_6 n) a0 x1 w
theorem P_M_readPage_6 {X : AX} {l : Launch} {G : AG} (hX : XOK X b_M_readPage "RedSkyModel" 2) (hM : XM X l G { frames := 4, cells := 0, slots := 0, locals := 87 }) {o : Int32 × AW} (hR : XR X (some .int) 0 0 (some (vi o.1)) o.2) (fu : Nat) : ∀ (a0 : Nat) (x1 : Int32) (w : AW), F_M_readPage_6 fu a0 x1 w = some o → RJ X 2 0 0 6 [(0, vr a0), (1, vi x1)] [] w := by
  induction fu with
  | zero => intro a0 x1 w h; cases h
  | succ n9 ih => intro a0 x1 w h; exact P_M_readPage_6_B hX hM hR ih _ _ _ h
def F_M_readPage (a0 : Nat) (w : AW) : Option (Int32 × AW) :=
  gd (wk w a0 == 13) <|
  (F_M_beginReading a0 w).bind fun r2 =>
  F_M_readPage_6 FUEL a0 (0 : Int32) r2
theorem P_M_readPage_0 {X : AX} {l : Launch} {G : AG} (hX : XOK X b_M_readPage "RedSkyModel" 2) (hM : XM X l G { frames := 4, cells := 0, slots := 0, locals := 87 }) {o : Int32 × AW} (hR : XR X (some .int) 0 0 (some (vi o.1)) o.2) (a0 : Nat) (w : AW) (h : F_M_readPage a0 w = some o) : RJ X 2 0 0 0 [(0, vr a0)] [] w := by
  unfold F_M_readPage at h
  refine r_aload_n (i := 0) hX d_M_readPage_0 0 rfl rfl ?_
  obtain ⟨hk1, h⟩ := gd_e h
  obtain ⟨r2, hr3, h⟩ := bd_e h
  refine r_callV0 (As := []) hX hM mw_M_269 (T_M_beginReading _ _ hr3) (rc_of ci_12 hk1) rfl rfl ⟨Nat.le_refl _, Nat.le_refl _⟩ rfl rfl d_M_readPage_1 ?_
  refine r_iconst (v := (0 : Int32)) hX d_M_readPage_4 rfl ?_
  refine r_istore_n (i := 1) hX d_M_readPage_5 rfl (by decide) ?_
  exact rj_sub [1, 0] rfl (P_M_readPage_6 hX hM hR FUEL _ _ _ h)
theorem T_M_readPage {l : Launch} {G : AG} (a0 : Nat) (w : AW) {o : Int32 × AW} (h : F_M_readPage a0 w = some o) : Mt l G y_M_readPage b_M_readPage 2 (some (.int)) 4 87 0 0 [vr a0] w (some (vi o.1)) o.2 := mt_of (by decide) (Nat.le_of_ble_eq_true rfl) (fun X hX hR hM hI => P_M_readPage_0 hX hM hR _ _ h)
/-! RedSkyModel.isWhole()Z -/
theorem d_M_isWhole_0 : decode b_M_isWhole 0 = .ok (.aload_n 0, 1) := by decide +kernel
theorem d_M_isWhole_1 : decode b_M_isWhole 1 = .ok (.getfield 184, 3) := by decide +kernel
theorem d_M_isWhole_4 : decode b_M_isWhole 4 = .ok (.iconst 1, 1) := by decide +kernel
theorem d_M_isWhole_5 : decode b_M_isWhole 5 = .ok (.if_icmp .ne (38), 3) := by decide +kernel
theorem d_M_isWhole_8 : decode b_M_isWhole 8 = .ok (.aload_n 0, 1) := by decide +kernel
theorem d_M_isWhole_9 : decode b_M_isWhole 9 = .ok (.getfield 187, 3) := by decide +kernel
theorem d_M_isWhole_12 : decode b_M_isWhole 12 = .ok (.ifCond .ne (31), 3) := by decide +kernel
theorem d_M_isWhole_15 : decode b_M_isWhole 15 = .ok (.aload_n 0, 1) := by decide +kernel
theorem d_M_isWhole_16 : decode b_M_isWhole 16 = .ok (.getfield 181, 3) := by decide +kernel
theorem d_M_isWhole_19 : decode b_M_isWhole 19 = .ok (.iconst 4, 1) := by decide +kernel
theorem d_M_isWhole_20 : decode b_M_isWhole 20 = .ok (.if_icmp .eq (11), 3) := by decide +kernel
theorem d_M_isWhole_23 : decode b_M_isWhole 23 = .ok (.aload_n 0, 1) := by decide +kernel
theorem d_M_isWhole_24 : decode b_M_isWhole 24 = .ok (.getfield 181, 3) := by decide +kernel
theorem d_M_isWhole_27 : decode b_M_isWhole 27 = .ok (.iconst 5, 1) := by decide +kernel
theorem d_M_isWhole_28 : decode b_M_isWhole 28 = .ok (.if_icmp .ne (15), 3) := by decide +kernel
theorem d_M_isWhole_31 : decode b_M_isWhole 31 = .ok (.aload_n 0, 1) := by decide +kernel
theorem d_M_isWhole_32 : decode b_M_isWhole 32 = .ok (.invokevirtual 223, 3) := by decide +kernel
theorem d_M_isWhole_35 : decode b_M_isWhole 35 = .ok (.aload_n 0, 1) := by decide +kernel
theorem d_M_isWhole_36 : decode b_M_isWhole 36 = .ok (.bipush (14), 2) := by decide +kernel
theorem d_M_isWhole_38 : decode b_M_isWhole 38 = .ok (.invokevirtual 226, 3) := by decide +kernel
theorem d_M_isWhole_41 : decode b_M_isWhole 41 = .ok (.iconst 1, 1) := by decide +kernel
theorem d_M_isWhole_42 : decode b_M_isWhole 42 = .ok (.ireturn, 1) := by decide +kernel
theorem d_M_isWhole_43 : decode b_M_isWhole 43 = .ok (.aload_n 0, 1) := by decide +kernel
theorem d_M_isWhole_44 : decode b_M_isWhole 44 = .ok (.getfield 181, 3) := by decide +kernel
theorem d_M_isWhole_47 : decode b_M_isWhole 47 = .ok (.bipush (12), 2) := by decide +kernel
theorem d_M_isWhole_49 : decode b_M_isWhole 49 = .ok (.if_icmp .ne (20), 3) := by decide +kernel
theorem d_M_isWhole_52 : decode b_M_isWhole 52 = .ok (.aload_n 0, 1) := by decide +kernel
theorem d_M_isWhole_53 : decode b_M_isWhole 53 = .ok (.invokevirtual 254, 3) := by decide +kernel
theorem d_M_isWhole_56 : decode b_M_isWhole 56 = .ok (.ifCond .eq (13), 3) := by decide +kernel
theorem d_M_isWhole_59 : decode b_M_isWhole 59 = .ok (.aload_n 0, 1) := by decide +kernel
theorem d_M_isWhole_60 : decode b_M_isWhole 60 = .ok (.aload_n 0, 1) := by decide +kernel
theorem d_M_isWhole_61 : decode b_M_isWhole 61 = .ok (.getfield 216, 3) := by decide +kernel
theorem d_M_isWhole_64 : decode b_M_isWhole 64 = .ok (.putfield 196, 3) := by decide +kernel
theorem d_M_isWhole_67 : decode b_M_isWhole 67 = .ok (.iconst 1, 1) := by decide +kernel
theorem d_M_isWhole_68 : decode b_M_isWhole 68 = .ok (.ireturn, 1) := by decide +kernel
theorem d_M_isWhole_69 : decode b_M_isWhole 69 = .ok (.aload_n 0, 1) := by decide +kernel
theorem d_M_isWhole_70 : decode b_M_isWhole 70 = .ok (.getfield 181, 3) := by decide +kernel
theorem d_M_isWhole_73 : decode b_M_isWhole 73 = .ok (.bipush (14), 2) := by decide +kernel
theorem d_M_isWhole_75 : decode b_M_isWhole 75 = .ok (.if_icmp .ne (7), 3) := by decide +kernel
theorem d_M_isWhole_78 : decode b_M_isWhole 78 = .ok (.iconst 1, 1) := by decide +kernel
theorem d_M_isWhole_79 : decode b_M_isWhole 79 = .ok (.goto (4), 3) := by decide +kernel
theorem d_M_isWhole_82 : decode b_M_isWhole 82 = .ok (.iconst 0, 1) := by decide +kernel
theorem d_M_isWhole_83 : decode b_M_isWhole 83 = .ok (.ireturn, 1) := by decide +kernel
def F_M_isWhole_69 (a0 : Nat) (w : AW) : Option (Int32 × AW) :=
  gd (wk w a0 == 13) <|
  if (wi w a0 10) = (14 : Int32) then
    some ((1 : Int32), w)
  else
    some ((0 : Int32), w)
theorem P_M_isWhole_69 {X : AX} {l : Launch} {G : AG} (hX : XOK X b_M_isWhole "RedSkyModel" 1) (hM : XM X l G { frames := 2, cells := 0, slots := 0, locals := 45 }) {o : Int32 × AW} (hR : XR X (some .boolean) 0 0 (some (vi o.1)) o.2) (a0 : Nat) (w : AW) (h : F_M_isWhole_69 a0 w = some o) : RJ X 1 0 0 69 [(0, vr a0)] [] w := by
  unfold F_M_isWhole_69 at h
  refine r_aload_n (i := 0) hX d_M_isWhole_69 0 rfl rfl ?_
  obtain ⟨hk1, h⟩ := gd_e h
  refine r_getI (i := 12) (f := 10) hX ci_12 (by decide) rfl fl_M_181 hk1 d_M_isWhole_70 ?_
  refine r_bipush (v := (14 : Int32)) hX d_M_isWhole_73 rfl ?_
  refine r_icmp_ne hX d_M_isWhole_75 rfl h (fun h => ?_) (fun h => ?_)
  · refine r_iconst (v := (0 : Int32)) hX d_M_isWhole_82 rfl ?_
    cases h; exact r_zret hX hR rfl d_M_isWhole_83
  · refine r_iconst (v := (1 : Int32)) hX d_M_isWhole_78 rfl ?_
    refine r_goto hX d_M_isWhole_79 rfl ?_
    cases h; exact r_zret hX hR rfl d_M_isWhole_83
def F_M_isWhole_43 (a0 : Nat) (w : AW) : Option (Int32 × AW) :=
  gd (wk w a0 == 13) <|
  if (wi w a0 10) = (12 : Int32) then
    (F_M_isMonth w a0).bind fun r2 =>
    if r2 = 0 then
      F_M_isWhole_69 a0 w
    else
      let w4 : AW := upI w a0 22 (wi w a0 14)
      some ((1 : Int32), w4)
  else
    F_M_isWhole_69 a0 w
theorem P_M_isWhole_43 {X : AX} {l : Launch} {G : AG} (hX : XOK X b_M_isWhole "RedSkyModel" 1) (hM : XM X l G { frames := 2, cells := 0, slots := 0, locals := 45 }) {o : Int32 × AW} (hR : XR X (some .boolean) 0 0 (some (vi o.1)) o.2) (a0 : Nat) (w : AW) (h : F_M_isWhole_43 a0 w = some o) : RJ X 1 0 0 43 [(0, vr a0)] [] w := by
  unfold F_M_isWhole_43 at h
  refine r_aload_n (i := 0) hX d_M_isWhole_43 0 rfl rfl ?_
  obtain ⟨hk1, h⟩ := gd_e h
  refine r_getI (i := 12) (f := 10) hX ci_12 (by decide) rfl fl_M_181 hk1 d_M_isWhole_44 ?_
  refine r_bipush (v := (12 : Int32)) hX d_M_isWhole_47 rfl ?_
  refine r_icmp_ne hX d_M_isWhole_49 rfl h (fun h => ?_) (fun h => ?_)
  · exact rj_sub [0] rfl (P_M_isWhole_69 hX hM hR _ _ h)
  · refine r_aload_n (i := 0) hX d_M_isWhole_52 0 rfl rfl ?_
    obtain ⟨r2, hr3, h⟩ := bd_e h
    refine r_callV1 (As := []) hX hM mw_M_254 (T_M_isMonth _ _ hr3) (rc_of ci_12 hk1) rfl rfl ⟨Nat.le_refl _, Nat.le_refl _⟩ rfl rfl d_M_isWhole_53 ?_
    refine r_if_eq hX d_M_isWhole_56 rfl h (fun h => ?_) (fun h => ?_)
    · exact rj_sub [0] rfl (P_M_isWhole_69 hX hM hR _ _ h)
    · refine r_aload_n (i := 0) hX d_M_isWhole_59 0 rfl rfl ?_
      refine r_aload_n (i := 0) hX d_M_isWhole_60 0 rfl rfl ?_
      refine r_getI (i := 12) (f := 14) hX ci_12 (by decide) rfl fl_M_216 hk1 d_M_isWhole_61 ?_
      refine r_putI (i := 12) (f := 22) hX ci_12 (by decide) rfl rfl (fun G => rfl) (fun G => rfl) fl_M_196 hk1 d_M_isWhole_64 ?_
      refine r_iconst (v := (1 : Int32)) hX d_M_isWhole_67 rfl ?_
      cases h; exact r_zret hX hR rfl d_M_isWhole_68
def F_M_isWhole_31 (a0 : Nat) (w : AW) : Option (Int32 × AW) :=
  gd (wk w a0 == 13) <|
  (F_M_endNumber a0 w).bind fun r2 =>
  gd (wk r2 a0 == 13) <|
  (F_M_layDown a0 (14 : Int32) r2).bind fun r5 =>
  some ((1 : Int32), r5)
theorem P_M_isWhole_31 {X : AX} {l : Launch} {G : AG} (hX : XOK X b_M_isWhole "RedSkyModel" 1) (hM : XM X l G { frames := 2, cells := 0, slots := 0, locals := 45 }) {o : Int32 × AW} (hR : XR X (some .boolean) 0 0 (some (vi o.1)) o.2) (a0 : Nat) (w : AW) (h : F_M_isWhole_31 a0 w = some o) : RJ X 1 0 0 31 [(0, vr a0)] [] w := by
  unfold F_M_isWhole_31 at h
  refine r_aload_n (i := 0) hX d_M_isWhole_31 0 rfl rfl ?_
  obtain ⟨hk1, h⟩ := gd_e h
  obtain ⟨r2, hr3, h⟩ := bd_e h
  refine r_callV0 (As := []) hX hM mw_M_223 (T_M_endNumber _ _ hr3) (rc_of ci_12 hk1) rfl rfl ⟨Nat.le_refl _, Nat.le_refl _⟩ rfl rfl d_M_isWhole_32 ?_
  refine r_aload_n (i := 0) hX d_M_isWhole_35 0 rfl rfl ?_
  refine r_bipush (v := (14 : Int32)) hX d_M_isWhole_36 rfl ?_
  obtain ⟨hk4, h⟩ := gd_e h
  obtain ⟨r5, hr6, h⟩ := bd_e h
  refine r_callV0 (As := [_]) hX hM mw_M_226 (T_M_layDown _ _ _ hr6) (rc_of ci_12 hk4) rfl rfl ⟨Nat.le_refl _, Nat.le_refl _⟩ rfl rfl d_M_isWhole_38 ?_
  refine r_iconst (v := (1 : Int32)) hX d_M_isWhole_41 rfl ?_
  cases h; exact r_zret hX hR rfl d_M_isWhole_42
def F_M_isWhole (a0 : Nat) (w : AW) : Option (Int32 × AW) :=
  gd (wk w a0 == 13) <|
  if (wi w a0 11) = (1 : Int32) then
    if (wi w a0 12) = 0 then
      if (wi w a0 10) = (4 : Int32) then
        F_M_isWhole_31 a0 w
      else
        if (wi w a0 10) = (5 : Int32) then
          F_M_isWhole_31 a0 w
        else
          F_M_isWhole_43 a0 w
    else
      F_M_isWhole_43 a0 w
  else
    F_M_isWhole_43 a0 w
theorem P_M_isWhole_0 {X : AX} {l : Launch} {G : AG} (hX : XOK X b_M_isWhole "RedSkyModel" 1) (hM : XM X l G { frames := 2, cells := 0, slots := 0, locals := 45 }) {o : Int32 × AW} (hR : XR X (some .boolean) 0 0 (some (vi o.1)) o.2) (a0 : Nat) (w : AW) (h : F_M_isWhole a0 w = some o) : RJ X 1 0 0 0 [(0, vr a0)] [] w := by
  unfold F_M_isWhole at h
  refine r_aload_n (i := 0) hX d_M_isWhole_0 0 rfl rfl ?_
  obtain ⟨hk1, h⟩ := gd_e h
  refine r_getI (i := 12) (f := 11) hX ci_12 (by decide) rfl fl_M_184 hk1 d_M_isWhole_1 ?_
  refine r_iconst (v := (1 : Int32)) hX d_M_isWhole_4 rfl ?_
  refine r_icmp_ne hX d_M_isWhole_5 rfl h (fun h => ?_) (fun h => ?_)
  · exact rj_sub [0] rfl (P_M_isWhole_43 hX hM hR _ _ h)
  · refine r_aload_n (i := 0) hX d_M_isWhole_8 0 rfl rfl ?_
    refine r_getI (i := 12) (f := 12) hX ci_12 (by decide) rfl fl_M_187 hk1 d_M_isWhole_9 ?_
    refine r_if_ne hX d_M_isWhole_12 rfl h (fun h => ?_) (fun h => ?_)
    · exact rj_sub [0] rfl (P_M_isWhole_43 hX hM hR _ _ h)
    · refine r_aload_n (i := 0) hX d_M_isWhole_15 0 rfl rfl ?_
      refine r_getI (i := 12) (f := 10) hX ci_12 (by decide) rfl fl_M_181 hk1 d_M_isWhole_16 ?_
      refine r_iconst (v := (4 : Int32)) hX d_M_isWhole_19 rfl ?_
      refine r_icmp_eq hX d_M_isWhole_20 rfl h (fun h => ?_) (fun h => ?_)
      · exact rj_sub [0] rfl (P_M_isWhole_31 hX hM hR _ _ h)
      · refine r_aload_n (i := 0) hX d_M_isWhole_23 0 rfl rfl ?_
        refine r_getI (i := 12) (f := 10) hX ci_12 (by decide) rfl fl_M_181 hk1 d_M_isWhole_24 ?_
        refine r_iconst (v := (5 : Int32)) hX d_M_isWhole_27 rfl ?_
        refine r_icmp_ne hX d_M_isWhole_28 rfl h (fun h => ?_) (fun h => ?_)
        · exact rj_sub [0] rfl (P_M_isWhole_43 hX hM hR _ _ h)
        · exact rj_sub [0] rfl (P_M_isWhole_31 hX hM hR _ _ h)
theorem T_M_isWhole {l : Launch} {G : AG} (a0 : Nat) (w : AW) {o : Int32 × AW} (h : F_M_isWhole a0 w = some o) : Mt l G y_M_isWhole b_M_isWhole 1 (some (.boolean)) 2 45 0 0 [vr a0] w (some (vi o.1)) o.2 := mt_of (by decide) (Nat.le_of_ble_eq_true rfl) (fun X hX hR hM hI => P_M_isWhole_0 hX hM hR _ _ h)
/-! RedSkyModel.fieldsOf(I)I -/
theorem d_M_fieldsOf_0 : decode b_M_fieldsOf 0 = .ok (.iconst 0, 1) := by decide +kernel
theorem d_M_fieldsOf_1 : decode b_M_fieldsOf 1 = .ok (.istore_n 2, 1) := by decide +kernel
theorem d_M_fieldsOf_2 : decode b_M_fieldsOf 2 = .ok (.iconst 0, 1) := by decide +kernel
theorem d_M_fieldsOf_3 : decode b_M_fieldsOf 3 = .ok (.istore_n 3, 1) := by decide +kernel
theorem d_M_fieldsOf_4 : decode b_M_fieldsOf 4 = .ok (.iload_n 3, 1) := by decide +kernel
theorem d_M_fieldsOf_5 : decode b_M_fieldsOf 5 = .ok (.aload_n 0, 1) := by decide +kernel
theorem d_M_fieldsOf_6 : decode b_M_fieldsOf 6 = .ok (.getfield 40, 3) := by decide +kernel
theorem d_M_fieldsOf_9 : decode b_M_fieldsOf 9 = .ok (.iload_n 1, 1) := by decide +kernel
theorem d_M_fieldsOf_10 : decode b_M_fieldsOf 10 = .ok (.iaload, 1) := by decide +kernel
theorem d_M_fieldsOf_11 : decode b_M_fieldsOf 11 = .ok (.if_icmp .ge (42), 3) := by decide +kernel
theorem d_M_fieldsOf_14 : decode b_M_fieldsOf 14 = .ok (.aload_n 0, 1) := by decide +kernel
theorem d_M_fieldsOf_15 : decode b_M_fieldsOf 15 = .ok (.getfield 34, 3) := by decide +kernel
theorem d_M_fieldsOf_18 : decode b_M_fieldsOf 18 = .ok (.bipush (80), 2) := by decide +kernel
theorem d_M_fieldsOf_20 : decode b_M_fieldsOf 20 = .ok (.iload_n 1, 1) := by decide +kernel
theorem d_M_fieldsOf_21 : decode b_M_fieldsOf 21 = .ok (.imul, 1) := by decide +kernel
theorem d_M_fieldsOf_22 : decode b_M_fieldsOf 22 = .ok (.iload_n 3, 1) := by decide +kernel
theorem d_M_fieldsOf_23 : decode b_M_fieldsOf 23 = .ok (.iadd, 1) := by decide +kernel
theorem d_M_fieldsOf_24 : decode b_M_fieldsOf 24 = .ok (.iaload, 1) := by decide +kernel
theorem d_M_fieldsOf_25 : decode b_M_fieldsOf 25 = .ok (.istore 4, 2) := by decide +kernel
theorem d_M_fieldsOf_27 : decode b_M_fieldsOf 27 = .ok (.iload_n 2, 1) := by decide +kernel
theorem d_M_fieldsOf_28 : decode b_M_fieldsOf 28 = .ok (.iload 4, 2) := by decide +kernel
theorem d_M_fieldsOf_30 : decode b_M_fieldsOf 30 = .ok (.bipush (12), 2) := by decide +kernel
theorem d_M_fieldsOf_32 : decode b_M_fieldsOf 32 = .ok (.if_icmp .ge (12), 3) := by decide +kernel
theorem d_M_fieldsOf_35 : decode b_M_fieldsOf 35 = .ok (.iconst 1, 1) := by decide +kernel
theorem d_M_fieldsOf_36 : decode b_M_fieldsOf 36 = .ok (.iload 4, 2) := by decide +kernel
theorem d_M_fieldsOf_38 : decode b_M_fieldsOf 38 = .ok (.iconst 3, 1) := by decide +kernel
theorem d_M_fieldsOf_39 : decode b_M_fieldsOf 39 = .ok (.idiv, 1) := by decide +kernel
theorem d_M_fieldsOf_40 : decode b_M_fieldsOf 40 = .ok (.ishl, 1) := by decide +kernel
theorem d_M_fieldsOf_41 : decode b_M_fieldsOf 41 = .ok (.goto (4), 3) := by decide +kernel
theorem d_M_fieldsOf_44 : decode b_M_fieldsOf 44 = .ok (.iconst 0, 1) := by decide +kernel
theorem d_M_fieldsOf_45 : decode b_M_fieldsOf 45 = .ok (.ior, 1) := by decide +kernel
theorem d_M_fieldsOf_46 : decode b_M_fieldsOf 46 = .ok (.istore_n 2, 1) := by decide +kernel
theorem d_M_fieldsOf_47 : decode b_M_fieldsOf 47 = .ok (.iinc 3 (1), 3) := by decide +kernel
theorem d_M_fieldsOf_50 : decode b_M_fieldsOf 50 = .ok (.goto (-46), 3) := by decide +kernel
theorem d_M_fieldsOf_53 : decode b_M_fieldsOf 53 = .ok (.iload_n 2, 1) := by decide +kernel
theorem d_M_fieldsOf_54 : decode b_M_fieldsOf 54 = .ok (.ireturn, 1) := by decide +kernel
def F_M_fieldsOf_4_B (rec4 : Nat → Int32 → Int32 → Int32 → Option (Int32)) (w : AW) (a0 : Nat) (x1 : Int32) (x2 : Int32) (x3 : Int32) : Option (Int32) :=
  gd (wk w a0 == 13) <|
  gd (wk w (wr w a0 26) == 100) <|
  gd (inb x1 (wn w (wr w a0 26))) <|
  if (wi w (wr w a0 26) (Int32.toNatClampNeg x1)) ≤ x3 then
    some x2
  else
    gd (wk w (wr w a0 24) == 100) <|
    gd (inb (((80 : Int32) * x1) + x3) (wn w (wr w a0 24))) <|
    let v6 : Int32 := (wi w (wr w a0 24) (Int32.toNatClampNeg (((80 : Int32) * x1) + x3)))
    if (12 : Int32) ≤ v6 then
      let v7 : Int32 := (x2 ||| (0 : Int32))
      let v8 : Int32 := (x3 + (1 : Int32))
      rec4 a0 x1 v7 v8
    else
      let v9 : Int32 := (x2 ||| ((1 : Int32) <<< ((v6 / (3 : Int32)) &&& 31)))
      let v10 : Int32 := (x3 + (1 : Int32))
      rec4 a0 x1 v9 v10
theorem P_M_fieldsOf_4_B {X : AX} {l : Launch} {G : AG} {w : AW} {rec4 : Nat → Int32 → Int32 → Int32 → Option (Int32)} (hX : XOK X b_M_fieldsOf "RedSkyModel" 5) (hM : XM X l G { frames := 0, cells := 0, slots := 0, locals := 0 }) {o : Int32} (hR : XR X (some .int) 0 0 (some (vi o)) w) (hrec4 : ∀ (a0 : Nat) (x1 : Int32) (x2 : Int32) (x3 : Int32), rec4 a0 x1 x2 x3 = some o → RJ X 5 0 0 4 [(0, vr a0), (1, vi x1), (2, vi x2), (3, vi x3)] [] w) (a0 : Nat) (x1 : Int32) (x2 : Int32) (x3 : Int32) (h : F_M_fieldsOf_4_B rec4 w a0 x1 x2 x3 = some o) : RJ X 5 0 0 4 [(0, vr a0), (1, vi x1), (2, vi x2), (3, vi x3)] [] w := by
  unfold F_M_fieldsOf_4_B at h
  refine r_iload_n (i := 3) hX d_M_fieldsOf_4 3 rfl rfl ?_
  refine r_aload_n (i := 0) hX d_M_fieldsOf_5 0 rfl rfl ?_
  obtain ⟨hk1, h⟩ := gd_e h
  refine r_getR (i := 12) (f := 26) hX ci_12 (by decide) rfl fl_M_40 hk1 d_M_fieldsOf_6 ?_
  refine r_iload_n (i := 1) hX d_M_fieldsOf_9 1 rfl rfl ?_
  obtain ⟨hk2, h⟩ := gd_e h
  obtain ⟨hg3, h⟩ := gd_e h
  refine r_iald hX hk2 hg3 d_M_fieldsOf_10 ?_
  refine r_icmp_ge hX d_M_fieldsOf_11 rfl h (fun h => ?_) (fun h => ?_)
  · refine r_iload_n (i := 2) hX d_M_fieldsOf_53 2 rfl rfl ?_
    cases h; exact r_iret hX hR d_M_fieldsOf_54
  · refine r_aload_n (i := 0) hX d_M_fieldsOf_14 0 rfl rfl ?_
    refine r_getR (i := 12) (f := 24) hX ci_12 (by decide) rfl fl_M_34 hk1 d_M_fieldsOf_15 ?_
    refine r_bipush (v := (80 : Int32)) hX d_M_fieldsOf_18 rfl ?_
    refine r_iload_n (i := 1) hX d_M_fieldsOf_20 1 rfl rfl ?_
    refine r_imul hX d_M_fieldsOf_21 ?_
    refine r_iload_n (i := 3) hX d_M_fieldsOf_22 3 rfl rfl ?_
    refine r_iadd hX d_M_fieldsOf_23 ?_
    obtain ⟨hk4, h⟩ := gd_e h
    obtain ⟨hg5, h⟩ := gd_e h
    refine r_iald hX hk4 hg5 d_M_fieldsOf_24 ?_
    refine r_istore (i := 4) hX d_M_fieldsOf_25  (by decide) ?_
    refine r_iload_n (i := 2) hX d_M_fieldsOf_27 3 rfl rfl ?_
    refine r_iload (i := 4) hX d_M_fieldsOf_28 0  rfl ?_
    refine r_bipush (v := (12 : Int32)) hX d_M_fieldsOf_30 rfl ?_
    refine r_icmp_ge hX d_M_fieldsOf_32 rfl h (fun h => ?_) (fun h => ?_)
    · refine r_iconst (v := (0 : Int32)) hX d_M_fieldsOf_44 rfl ?_
      refine r_ior hX d_M_fieldsOf_45 ?_
      refine r_istore_n (i := 2) hX d_M_fieldsOf_46 rfl (by decide) ?_
      refine r_iinc (i := 3) (v := (1 : Int32)) hX d_M_fieldsOf_47 4 rfl rfl (by decide) ?_
      refine r_goto hX d_M_fieldsOf_50 rfl ?_
      exact rj_sub [3, 4, 1, 0] rfl (hrec4 _ _ _ _ h)
    · refine r_iconst (v := (1 : Int32)) hX d_M_fieldsOf_35 rfl ?_
      refine r_iload (i := 4) hX d_M_fieldsOf_36 0  rfl ?_
      refine r_iconst (v := (3 : Int32)) hX d_M_fieldsOf_38 rfl ?_
      refine r_idiv hX d_M_fieldsOf_39 (by decide) ?_
      refine r_ishl hX d_M_fieldsOf_40 ?_
      refine r_goto hX d_M_fieldsOf_41 rfl ?_
      refine r_ior hX d_M_fieldsOf_45 ?_
      refine r_istore_n (i := 2) hX d_M_fieldsOf_46 rfl (by decide) ?_
      refine r_iinc (i := 3) (v := (1 : Int32)) hX d_M_fieldsOf_47 4 rfl rfl (by decide) ?_
      refine r_goto hX d_M_fieldsOf_50 rfl ?_
      exact rj_sub [3, 4, 1, 0] rfl (hrec4 _ _ _ _ h)
def F_M_fieldsOf_4 (w : AW) : Nat → Nat → Int32 → Int32 → Int32 → Option (Int32)
  | 0 => fun _ _ _ _ => none
  | n + 1 => fun a0 x1 x2 x3 => F_M_fieldsOf_4_B (F_M_fieldsOf_4 w n) w a0 x1 x2 x3
theorem P_M_fieldsOf_4 {X : AX} {l : Launch} {G : AG} {w : AW} (hX : XOK X b_M_fieldsOf "RedSkyModel" 5) (hM : XM X l G { frames := 0, cells := 0, slots := 0, locals := 0 }) {o : Int32} (hR : XR X (some .int) 0 0 (some (vi o)) w) (fu : Nat) : ∀ (a0 : Nat) (x1 : Int32) (x2 : Int32) (x3 : Int32), F_M_fieldsOf_4 w fu a0 x1 x2 x3 = some o → RJ X 5 0 0 4 [(0, vr a0), (1, vi x1), (2, vi x2), (3, vi x3)] [] w := by
  induction fu with
  | zero => intro a0 x1 x2 x3 h; cases h
  | succ n9 ih => intro a0 x1 x2 x3 h; exact P_M_fieldsOf_4_B hX hM hR ih _ _ _ _ h
def F_M_fieldsOf (w : AW) (a0 : Nat) (x1 : Int32) : Option (Int32) :=
  F_M_fieldsOf_4 w FUEL a0 x1 (0 : Int32) (0 : Int32)
theorem P_M_fieldsOf_0 {X : AX} {l : Launch} {G : AG} {w : AW} (hX : XOK X b_M_fieldsOf "RedSkyModel" 5) (hM : XM X l G { frames := 0, cells := 0, slots := 0, locals := 0 }) {o : Int32} (hR : XR X (some .int) 0 0 (some (vi o)) w) (a0 : Nat) (x1 : Int32) (h : F_M_fieldsOf w a0 x1 = some o) : RJ X 5 0 0 0 [(0, vr a0), (1, vi x1)] [] w := by
  unfold F_M_fieldsOf at h
  refine r_iconst (v := (0 : Int32)) hX d_M_fieldsOf_0 rfl ?_
  refine r_istore_n (i := 2) hX d_M_fieldsOf_1 rfl (by decide) ?_
  refine r_iconst (v := (0 : Int32)) hX d_M_fieldsOf_2 rfl ?_
  refine r_istore_n (i := 3) hX d_M_fieldsOf_3 rfl (by decide) ?_
  exact rj_sub [2, 3, 1, 0] rfl (P_M_fieldsOf_4 hX hM hR FUEL _ _ _ _ h)
theorem T_M_fieldsOf {l : Launch} {G : AG} (w : AW) (a0 : Nat) (x1 : Int32) {o : Int32} (h : F_M_fieldsOf w a0 x1 = some o) : Mt l G y_M_fieldsOf b_M_fieldsOf 5 (some (.int)) 0 0 0 0 [vr a0, vi x1] w (some (vi o)) w := mt_of (by decide) (Nat.le_of_ble_eq_true rfl) (fun X hX hR hM hI => P_M_fieldsOf_0 hX hM hR _ _ h)
/-! RedSkyModel.comparisonsOf(I)I -/
theorem d_M_comparisonsOf_0 : decode b_M_comparisonsOf 0 = .ok (.iconst 0, 1) := by decide +kernel
theorem d_M_comparisonsOf_1 : decode b_M_comparisonsOf 1 = .ok (.istore_n 2, 1) := by decide +kernel
theorem d_M_comparisonsOf_2 : decode b_M_comparisonsOf 2 = .ok (.iconst 0, 1) := by decide +kernel
theorem d_M_comparisonsOf_3 : decode b_M_comparisonsOf 3 = .ok (.istore_n 3, 1) := by decide +kernel
theorem d_M_comparisonsOf_4 : decode b_M_comparisonsOf 4 = .ok (.iload_n 3, 1) := by decide +kernel
theorem d_M_comparisonsOf_5 : decode b_M_comparisonsOf 5 = .ok (.aload_n 0, 1) := by decide +kernel
theorem d_M_comparisonsOf_6 : decode b_M_comparisonsOf 6 = .ok (.getfield 40, 3) := by decide +kernel
theorem d_M_comparisonsOf_9 : decode b_M_comparisonsOf 9 = .ok (.iload_n 1, 1) := by decide +kernel
theorem d_M_comparisonsOf_10 : decode b_M_comparisonsOf 10 = .ok (.iaload, 1) := by decide +kernel
theorem d_M_comparisonsOf_11 : decode b_M_comparisonsOf 11 = .ok (.if_icmp .ge (33), 3) := by decide +kernel
theorem d_M_comparisonsOf_14 : decode b_M_comparisonsOf 14 = .ok (.iload_n 2, 1) := by decide +kernel
theorem d_M_comparisonsOf_15 : decode b_M_comparisonsOf 15 = .ok (.aload_n 0, 1) := by decide +kernel
theorem d_M_comparisonsOf_16 : decode b_M_comparisonsOf 16 = .ok (.getfield 34, 3) := by decide +kernel
theorem d_M_comparisonsOf_19 : decode b_M_comparisonsOf 19 = .ok (.bipush (80), 2) := by decide +kernel
theorem d_M_comparisonsOf_21 : decode b_M_comparisonsOf 21 = .ok (.iload_n 1, 1) := by decide +kernel
theorem d_M_comparisonsOf_22 : decode b_M_comparisonsOf 22 = .ok (.imul, 1) := by decide +kernel
theorem d_M_comparisonsOf_23 : decode b_M_comparisonsOf 23 = .ok (.iload_n 3, 1) := by decide +kernel
theorem d_M_comparisonsOf_24 : decode b_M_comparisonsOf 24 = .ok (.iadd, 1) := by decide +kernel
theorem d_M_comparisonsOf_25 : decode b_M_comparisonsOf 25 = .ok (.iaload, 1) := by decide +kernel
theorem d_M_comparisonsOf_26 : decode b_M_comparisonsOf 26 = .ok (.bipush (12), 2) := by decide +kernel
theorem d_M_comparisonsOf_28 : decode b_M_comparisonsOf 28 = .ok (.if_icmp .ge (7), 3) := by decide +kernel
theorem d_M_comparisonsOf_31 : decode b_M_comparisonsOf 31 = .ok (.iconst 1, 1) := by decide +kernel
theorem d_M_comparisonsOf_32 : decode b_M_comparisonsOf 32 = .ok (.goto (4), 3) := by decide +kernel
theorem d_M_comparisonsOf_35 : decode b_M_comparisonsOf 35 = .ok (.iconst 0, 1) := by decide +kernel
theorem d_M_comparisonsOf_36 : decode b_M_comparisonsOf 36 = .ok (.iadd, 1) := by decide +kernel
theorem d_M_comparisonsOf_37 : decode b_M_comparisonsOf 37 = .ok (.istore_n 2, 1) := by decide +kernel
theorem d_M_comparisonsOf_38 : decode b_M_comparisonsOf 38 = .ok (.iinc 3 (1), 3) := by decide +kernel
theorem d_M_comparisonsOf_41 : decode b_M_comparisonsOf 41 = .ok (.goto (-37), 3) := by decide +kernel
theorem d_M_comparisonsOf_44 : decode b_M_comparisonsOf 44 = .ok (.iload_n 2, 1) := by decide +kernel
theorem d_M_comparisonsOf_45 : decode b_M_comparisonsOf 45 = .ok (.ireturn, 1) := by decide +kernel
def F_M_comparisonsOf_4_B (rec4 : Nat → Int32 → Int32 → Int32 → Option (Int32)) (w : AW) (a0 : Nat) (x1 : Int32) (x2 : Int32) (x3 : Int32) : Option (Int32) :=
  gd (wk w a0 == 13) <|
  gd (wk w (wr w a0 26) == 100) <|
  gd (inb x1 (wn w (wr w a0 26))) <|
  if (wi w (wr w a0 26) (Int32.toNatClampNeg x1)) ≤ x3 then
    some x2
  else
    gd (wk w (wr w a0 24) == 100) <|
    gd (inb (((80 : Int32) * x1) + x3) (wn w (wr w a0 24))) <|
    if (12 : Int32) ≤ (wi w (wr w a0 24) (Int32.toNatClampNeg (((80 : Int32) * x1) + x3))) then
      let v6 : Int32 := (x2 + (0 : Int32))
      let v7 : Int32 := (x3 + (1 : Int32))
      rec4 a0 x1 v6 v7
    else
      let v8 : Int32 := (x2 + (1 : Int32))
      let v9 : Int32 := (x3 + (1 : Int32))
      rec4 a0 x1 v8 v9
theorem P_M_comparisonsOf_4_B {X : AX} {l : Launch} {G : AG} {w : AW} {rec4 : Nat → Int32 → Int32 → Int32 → Option (Int32)} (hX : XOK X b_M_comparisonsOf "RedSkyModel" 4) (hM : XM X l G { frames := 0, cells := 0, slots := 0, locals := 0 }) {o : Int32} (hR : XR X (some .int) 0 0 (some (vi o)) w) (hrec4 : ∀ (a0 : Nat) (x1 : Int32) (x2 : Int32) (x3 : Int32), rec4 a0 x1 x2 x3 = some o → RJ X 4 0 0 4 [(0, vr a0), (1, vi x1), (2, vi x2), (3, vi x3)] [] w) (a0 : Nat) (x1 : Int32) (x2 : Int32) (x3 : Int32) (h : F_M_comparisonsOf_4_B rec4 w a0 x1 x2 x3 = some o) : RJ X 4 0 0 4 [(0, vr a0), (1, vi x1), (2, vi x2), (3, vi x3)] [] w := by
  unfold F_M_comparisonsOf_4_B at h
  refine r_iload_n (i := 3) hX d_M_comparisonsOf_4 3 rfl rfl ?_
  refine r_aload_n (i := 0) hX d_M_comparisonsOf_5 0 rfl rfl ?_
  obtain ⟨hk1, h⟩ := gd_e h
  refine r_getR (i := 12) (f := 26) hX ci_12 (by decide) rfl fl_M_40 hk1 d_M_comparisonsOf_6 ?_
  refine r_iload_n (i := 1) hX d_M_comparisonsOf_9 1 rfl rfl ?_
  obtain ⟨hk2, h⟩ := gd_e h
  obtain ⟨hg3, h⟩ := gd_e h
  refine r_iald hX hk2 hg3 d_M_comparisonsOf_10 ?_
  refine r_icmp_ge hX d_M_comparisonsOf_11 rfl h (fun h => ?_) (fun h => ?_)
  · refine r_iload_n (i := 2) hX d_M_comparisonsOf_44 2 rfl rfl ?_
    cases h; exact r_iret hX hR d_M_comparisonsOf_45
  · refine r_iload_n (i := 2) hX d_M_comparisonsOf_14 2 rfl rfl ?_
    refine r_aload_n (i := 0) hX d_M_comparisonsOf_15 0 rfl rfl ?_
    refine r_getR (i := 12) (f := 24) hX ci_12 (by decide) rfl fl_M_34 hk1 d_M_comparisonsOf_16 ?_
    refine r_bipush (v := (80 : Int32)) hX d_M_comparisonsOf_19 rfl ?_
    refine r_iload_n (i := 1) hX d_M_comparisonsOf_21 1 rfl rfl ?_
    refine r_imul hX d_M_comparisonsOf_22 ?_
    refine r_iload_n (i := 3) hX d_M_comparisonsOf_23 3 rfl rfl ?_
    refine r_iadd hX d_M_comparisonsOf_24 ?_
    obtain ⟨hk4, h⟩ := gd_e h
    obtain ⟨hg5, h⟩ := gd_e h
    refine r_iald hX hk4 hg5 d_M_comparisonsOf_25 ?_
    refine r_bipush (v := (12 : Int32)) hX d_M_comparisonsOf_26 rfl ?_
    refine r_icmp_ge hX d_M_comparisonsOf_28 rfl h (fun h => ?_) (fun h => ?_)
    · refine r_iconst (v := (0 : Int32)) hX d_M_comparisonsOf_35 rfl ?_
      refine r_iadd hX d_M_comparisonsOf_36 ?_
      refine r_istore_n (i := 2) hX d_M_comparisonsOf_37 rfl (by decide) ?_
      refine r_iinc (i := 3) (v := (1 : Int32)) hX d_M_comparisonsOf_38 3 rfl rfl (by decide) ?_
      refine r_goto hX d_M_comparisonsOf_41 rfl ?_
      exact rj_sub [2, 3, 1, 0] rfl (hrec4 _ _ _ _ h)
    · refine r_iconst (v := (1 : Int32)) hX d_M_comparisonsOf_31 rfl ?_
      refine r_goto hX d_M_comparisonsOf_32 rfl ?_
      refine r_iadd hX d_M_comparisonsOf_36 ?_
      refine r_istore_n (i := 2) hX d_M_comparisonsOf_37 rfl (by decide) ?_
      refine r_iinc (i := 3) (v := (1 : Int32)) hX d_M_comparisonsOf_38 3 rfl rfl (by decide) ?_
      refine r_goto hX d_M_comparisonsOf_41 rfl ?_
      exact rj_sub [2, 3, 1, 0] rfl (hrec4 _ _ _ _ h)
def F_M_comparisonsOf_4 (w : AW) : Nat → Nat → Int32 → Int32 → Int32 → Option (Int32)
  | 0 => fun _ _ _ _ => none
  | n + 1 => fun a0 x1 x2 x3 => F_M_comparisonsOf_4_B (F_M_comparisonsOf_4 w n) w a0 x1 x2 x3
theorem P_M_comparisonsOf_4 {X : AX} {l : Launch} {G : AG} {w : AW} (hX : XOK X b_M_comparisonsOf "RedSkyModel" 4) (hM : XM X l G { frames := 0, cells := 0, slots := 0, locals := 0 }) {o : Int32} (hR : XR X (some .int) 0 0 (some (vi o)) w) (fu : Nat) : ∀ (a0 : Nat) (x1 : Int32) (x2 : Int32) (x3 : Int32), F_M_comparisonsOf_4 w fu a0 x1 x2 x3 = some o → RJ X 4 0 0 4 [(0, vr a0), (1, vi x1), (2, vi x2), (3, vi x3)] [] w := by
  induction fu with
  | zero => intro a0 x1 x2 x3 h; cases h
  | succ n9 ih => intro a0 x1 x2 x3 h; exact P_M_comparisonsOf_4_B hX hM hR ih _ _ _ _ h
def F_M_comparisonsOf (w : AW) (a0 : Nat) (x1 : Int32) : Option (Int32) :=
  F_M_comparisonsOf_4 w FUEL a0 x1 (0 : Int32) (0 : Int32)
theorem P_M_comparisonsOf_0 {X : AX} {l : Launch} {G : AG} {w : AW} (hX : XOK X b_M_comparisonsOf "RedSkyModel" 4) (hM : XM X l G { frames := 0, cells := 0, slots := 0, locals := 0 }) {o : Int32} (hR : XR X (some .int) 0 0 (some (vi o)) w) (a0 : Nat) (x1 : Int32) (h : F_M_comparisonsOf w a0 x1 = some o) : RJ X 4 0 0 0 [(0, vr a0), (1, vi x1)] [] w := by
  unfold F_M_comparisonsOf at h
  refine r_iconst (v := (0 : Int32)) hX d_M_comparisonsOf_0 rfl ?_
  refine r_istore_n (i := 2) hX d_M_comparisonsOf_1 rfl (by decide) ?_
  refine r_iconst (v := (0 : Int32)) hX d_M_comparisonsOf_2 rfl ?_
  refine r_istore_n (i := 3) hX d_M_comparisonsOf_3 rfl (by decide) ?_
  exact rj_sub [2, 3, 1, 0] rfl (P_M_comparisonsOf_4 hX hM hR FUEL _ _ _ _ h)
theorem T_M_comparisonsOf {l : Launch} {G : AG} (w : AW) (a0 : Nat) (x1 : Int32) {o : Int32} (h : F_M_comparisonsOf w a0 x1 = some o) : Mt l G y_M_comparisonsOf b_M_comparisonsOf 4 (some (.int)) 0 0 0 0 [vr a0, vi x1] w (some (vi o)) w := mt_of (by decide) (Nat.le_of_ble_eq_true rfl) (fun X hX hR hM hI => P_M_comparisonsOf_0 hX hM hR _ _ h)
/-! RedSkyModel.beginGroup(I)V -/
theorem d_M_beginGroup_0 : decode b_M_beginGroup 0 = .ok (.aload_n 0, 1) := by decide +kernel
theorem d_M_beginGroup_1 : decode b_M_beginGroup 1 = .ok (.getfield 58, 3) := by decide +kernel
theorem d_M_beginGroup_4 : decode b_M_beginGroup 4 = .ok (.iload_n 1, 1) := by decide +kernel
theorem d_M_beginGroup_5 : decode b_M_beginGroup 5 = .ok (.iconst 0, 1) := by decide +kernel
theorem d_M_beginGroup_6 : decode b_M_beginGroup 6 = .ok (.iastore, 1) := by decide +kernel
theorem d_M_beginGroup_7 : decode b_M_beginGroup 7 = .ok (.aload_n 0, 1) := by decide +kernel
theorem d_M_beginGroup_8 : decode b_M_beginGroup 8 = .ok (.getfield 61, 3) := by decide +kernel
theorem d_M_beginGroup_11 : decode b_M_beginGroup 11 = .ok (.iload_n 1, 1) := by decide +kernel
theorem d_M_beginGroup_12 : decode b_M_beginGroup 12 = .ok (.iconst 0, 1) := by decide +kernel
theorem d_M_beginGroup_13 : decode b_M_beginGroup 13 = .ok (.iastore, 1) := by decide +kernel
theorem d_M_beginGroup_14 : decode b_M_beginGroup 14 = .ok (.aload_n 0, 1) := by decide +kernel
theorem d_M_beginGroup_15 : decode b_M_beginGroup 15 = .ok (.getfield 64, 3) := by decide +kernel
theorem d_M_beginGroup_18 : decode b_M_beginGroup 18 = .ok (.iload_n 1, 1) := by decide +kernel
theorem d_M_beginGroup_19 : decode b_M_beginGroup 19 = .ok (.iconst 0, 1) := by decide +kernel
theorem d_M_beginGroup_20 : decode b_M_beginGroup 20 = .ok (.iastore, 1) := by decide +kernel
theorem d_M_beginGroup_21 : decode b_M_beginGroup 21 = .ok (.aload_n 0, 1) := by decide +kernel
theorem d_M_beginGroup_22 : decode b_M_beginGroup 22 = .ok (.getfield 67, 3) := by decide +kernel
theorem d_M_beginGroup_25 : decode b_M_beginGroup 25 = .ok (.iload_n 1, 1) := by decide +kernel
theorem d_M_beginGroup_26 : decode b_M_beginGroup 26 = .ok (.iconst 0, 1) := by decide +kernel
theorem d_M_beginGroup_27 : decode b_M_beginGroup 27 = .ok (.iastore, 1) := by decide +kernel
theorem d_M_beginGroup_28 : decode b_M_beginGroup 28 = .ok (.aload_n 0, 1) := by decide +kernel
theorem d_M_beginGroup_29 : decode b_M_beginGroup 29 = .ok (.getfield 70, 3) := by decide +kernel
theorem d_M_beginGroup_32 : decode b_M_beginGroup 32 = .ok (.iload_n 1, 1) := by decide +kernel
theorem d_M_beginGroup_33 : decode b_M_beginGroup 33 = .ok (.iconst 0, 1) := by decide +kernel
theorem d_M_beginGroup_34 : decode b_M_beginGroup 34 = .ok (.iastore, 1) := by decide +kernel
theorem d_M_beginGroup_35 : decode b_M_beginGroup 35 = .ok (.return_, 1) := by decide +kernel
def F_M_beginGroup (a0 : Nat) (x1 : Int32) (w : AW) : Option (AW) :=
  gd (wk w a0 == 13) <|
  gd (wk w (wr w a0 34) == 100) <|
  gd (inb x1 (wn w (wr w a0 34))) <|
  let w4 : AW := upI w (wr w a0 34) (Int32.toNatClampNeg x1) (0 : Int32)
  gd (wk w4 (wr w4 a0 35) == 100) <|
  gd (inb x1 (wn w4 (wr w4 a0 35))) <|
  let w7 : AW := upI w4 (wr w4 a0 35) (Int32.toNatClampNeg x1) (0 : Int32)
  gd (wk w7 (wr w7 a0 36) == 100) <|
  gd (inb x1 (wn w7 (wr w7 a0 36))) <|
  let w10 : AW := upI w7 (wr w7 a0 36) (Int32.toNatClampNeg x1) (0 : Int32)
  gd (wk w10 (wr w10 a0 37) == 100) <|
  gd (inb x1 (wn w10 (wr w10 a0 37))) <|
  let w13 : AW := upI w10 (wr w10 a0 37) (Int32.toNatClampNeg x1) (0 : Int32)
  gd (wk w13 (wr w13 a0 38) == 100) <|
  gd (inb x1 (wn w13 (wr w13 a0 38))) <|
  let w16 : AW := upI w13 (wr w13 a0 38) (Int32.toNatClampNeg x1) (0 : Int32)
  some w16
theorem P_M_beginGroup_0 {X : AX} {l : Launch} {G : AG} (hX : XOK X b_M_beginGroup "RedSkyModel" 2) (hM : XM X l G { frames := 0, cells := 0, slots := 0, locals := 0 }) {o : AW} (hR : XR X none 0 0 none o) (a0 : Nat) (x1 : Int32) (w : AW) (h : F_M_beginGroup a0 x1 w = some o) : RJ X 2 0 0 0 [(0, vr a0), (1, vi x1)] [] w := by
  unfold F_M_beginGroup at h
  refine r_aload_n (i := 0) hX d_M_beginGroup_0 0 rfl rfl ?_
  obtain ⟨hk1, h⟩ := gd_e h
  refine r_getR (i := 12) (f := 34) hX ci_12 (by decide) rfl fl_M_58 hk1 d_M_beginGroup_1 ?_
  refine r_iload_n (i := 1) hX d_M_beginGroup_4 1 rfl rfl ?_
  refine r_iconst (v := (0 : Int32)) hX d_M_beginGroup_5 rfl ?_
  obtain ⟨hk2, h⟩ := gd_e h
  obtain ⟨hg3, h⟩ := gd_e h
  refine r_iast hX hk2 hg3 d_M_beginGroup_6 ?_
  refine r_aload_n (i := 0) hX d_M_beginGroup_7 0 rfl rfl ?_
  refine r_getR (i := 12) (f := 35) hX ci_12 (by decide) rfl fl_M_61 (kI hk1) d_M_beginGroup_8 ?_
  refine r_iload_n (i := 1) hX d_M_beginGroup_11 1 rfl rfl ?_
  refine r_iconst (v := (0 : Int32)) hX d_M_beginGroup_12 rfl ?_
  obtain ⟨hk5, h⟩ := gd_e h
  obtain ⟨hg6, h⟩ := gd_e h
  refine r_iast hX hk5 hg6 d_M_beginGroup_13 ?_
  refine r_aload_n (i := 0) hX d_M_beginGroup_14 0 rfl rfl ?_
  refine r_getR (i := 12) (f := 36) hX ci_12 (by decide) rfl fl_M_64 (kI (kI hk1)) d_M_beginGroup_15 ?_
  refine r_iload_n (i := 1) hX d_M_beginGroup_18 1 rfl rfl ?_
  refine r_iconst (v := (0 : Int32)) hX d_M_beginGroup_19 rfl ?_
  obtain ⟨hk8, h⟩ := gd_e h
  obtain ⟨hg9, h⟩ := gd_e h
  refine r_iast hX hk8 hg9 d_M_beginGroup_20 ?_
  refine r_aload_n (i := 0) hX d_M_beginGroup_21 0 rfl rfl ?_
  refine r_getR (i := 12) (f := 37) hX ci_12 (by decide) rfl fl_M_67 (kI (kI (kI hk1))) d_M_beginGroup_22 ?_
  refine r_iload_n (i := 1) hX d_M_beginGroup_25 1 rfl rfl ?_
  refine r_iconst (v := (0 : Int32)) hX d_M_beginGroup_26 rfl ?_
  obtain ⟨hk11, h⟩ := gd_e h
  obtain ⟨hg12, h⟩ := gd_e h
  refine r_iast hX hk11 hg12 d_M_beginGroup_27 ?_
  refine r_aload_n (i := 0) hX d_M_beginGroup_28 0 rfl rfl ?_
  refine r_getR (i := 12) (f := 38) hX ci_12 (by decide) rfl fl_M_70 (kI (kI (kI (kI hk1)))) d_M_beginGroup_29 ?_
  refine r_iload_n (i := 1) hX d_M_beginGroup_32 1 rfl rfl ?_
  refine r_iconst (v := (0 : Int32)) hX d_M_beginGroup_33 rfl ?_
  obtain ⟨hk14, h⟩ := gd_e h
  obtain ⟨hg15, h⟩ := gd_e h
  refine r_iast hX hk14 hg15 d_M_beginGroup_34 ?_
  cases h; exact r_vret hX hR d_M_beginGroup_35
theorem T_M_beginGroup {l : Launch} {G : AG} (a0 : Nat) (x1 : Int32) (w : AW) {o : AW} (h : F_M_beginGroup a0 x1 w = some o) : Mt l G y_M_beginGroup b_M_beginGroup 2 none 0 0 0 0 [vr a0, vi x1] w none o := mt_of (by decide) (Nat.le_of_ble_eq_true rfl) (fun X hX hR hM hI => P_M_beginGroup_0 hX hM hR _ _ _ h)
